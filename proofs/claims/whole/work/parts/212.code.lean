def f_X12_stage (z1 : Int) (z2 : Int) (μ : GM) : Option (Int × GM) :=
  lm (gF μ 53 0 0) fun μ1 =>
  bd (f_X12_in z1 0 (w32 ((μ1.2 53 9) - 1)) μ1) fun x2 μ3 =>
  if x2 = 0 then
    some ((-10000001), μ3)
  else
    ck (0 ≤ z1 ∧ z1 < 3) (
    bd (f_X12_in z2 (μ3.1 62 z1) 1000 μ3) fun x4 μ5 =>
    if x4 = 0 then
      some ((-10000002), μ5)
    else
      ck (0 ≤ z1 ∧ z1 < 3) (
      lt (μ5.1 61 z1) fun x6 =>
      ck (0 ≤ z1 ∧ z1 < 3) (lm (gA μ5 61 z1 z2) fun μ7 =>
      some (x6, μ7))))
set_option maxHeartbeats 4000000 in
set_option maxRecDepth 100000 in
theorem w_X12_stage_0 {G : GX} {u : Int × GM} (C : CX G 1 cX12_stage 4 RX12) (hQ : gQI G (some .int) u) {z1 : Int} (hz1 : r32 z1) {z2 : Int} (hz2 : r32 z2) {μ : GM} (hμ : gRg μ) (h : f_X12_stage z1 z2 μ = some u) : WM G 4 μ 0 [(0, gR G 53), (1, vI z1), (2, vI z2)] [] := by
  unfold f_X12_stage at h
  refine o_aload_n C 0 dX12_stage_0 rfl rfl ?_
  refine o_iconst C dX12_stage_1 ?_
  refine o_putI (j := 0) C kt_53 rfl rfl tyX12_ok nmX12 (Nat.le_of_ble_eq_true rfl) lkf_RX12_133 rfl rfl ⟨by decide, by decide⟩ hμ dX12_stage_2 h (fun μ1 hμ1 h => ?_)
  refine o_iload_n C 1 dX12_stage_5 rfl rfl ?_
  refine o_i2l C hz1 dX12_stage_6 ?_
  refine o_lconst (v := 0) C dX12_stage_7 rfl ?_
  refine o_aload_n C 0 dX12_stage_8 rfl rfl ?_
  refine o_getI (j := 9) C kt_53 rfl rfl (Nat.le_of_ble_eq_true rfl) lkf_RX12_169 dX12_stage_9 ?_
  refine o_iconst C dX12_stage_12 ?_
  refine o_isub C dX12_stage_13 ?_
  refine o_i2l C (r32_w _) dX12_stage_14 ?_
  refine o_cSI C [vJ z1, vJ 0, vJ (w32 ((μ1.2 53 9) - 1))] mb_X12_in (by decide) (fun _ hu => c_X12_in (r32_r64 hz1) ⟨by decide, by decide⟩ (r32_r64 (r32_w _)) hμ1 hu) rfl (Nat.le_of_ble_eq_true rfl) h ms_X12_in lkm_RX12_140 rfl rfl dX12_stage_15 (fun x2 μ3 hx2 hμ3 h => ?_)
  refine o_if_ne (tgt := 24) C hx2 dX12_stage_18 (by decide) h (fun _ h => ?_) (fun _ h => ?_)
  · refine o_iload_n C 2 dX12_stage_24 rfl rfl ?_
    refine o_i2l C hz2 dX12_stage_25 ?_
    refine o_aload_n C 0 dX12_stage_26 rfl rfl ?_
    refine o_getR (j := 12) C kt_53 rfl rfl (Nat.le_of_ble_eq_true rfl) lkf_RX12_34 dX12_stage_27 ?_
    refine o_iload_n C 1 dX12_stage_30 rfl rfl ?_
    refine o_iald C kt_62 rfl hz1 dX12_stage_31 h (fun h => ?_)
    refine o_i2l C (hμ3.i kt_62 (by decide) _) dX12_stage_32 ?_
    refine o_ldc2 (v := 1000) C lkc_RX12_167 rfl dX12_stage_33 ?_
    refine o_cSI C [vJ z2, vJ (μ3.1 62 z1), vJ 1000] mb_X12_in (by decide) (fun _ hu => c_X12_in (r32_r64 hz2) (r32_r64 (hμ3.i kt_62 (by decide) _)) ⟨by decide, by decide⟩ hμ3 hu) rfl (Nat.le_of_ble_eq_true rfl) h ms_X12_in lkm_RX12_140 rfl rfl dX12_stage_36 (fun x4 μ5 hx4 hμ5 h => ?_)
    refine o_if_ne (tgt := 45) C hx4 dX12_stage_39 (by decide) h (fun _ h => ?_) (fun _ h => ?_)
    · refine o_aload_n C 0 dX12_stage_45 rfl rfl ?_
      refine o_getR (j := 11) C kt_53 rfl rfl (Nat.le_of_ble_eq_true rfl) lkf_RX12_31 dX12_stage_46 ?_
      refine o_iload_n C 1 dX12_stage_49 rfl rfl ?_
      refine o_iald C kt_61 rfl hz1 dX12_stage_50 h (fun h => ?_)
      refine o_lt h (hμ5.i kt_61 (by decide) _) (fun x6 hx6 h => ?_)
      refine o_istore_n (lv2 := [(3, vI x6), (0, gR G 53), (1, vI z1), (2, vI z2)]) C dX12_stage_51 rfl (by decide) rfl ?_
      refine o_aload_n C 1 dX12_stage_52 rfl rfl ?_
      refine o_getR (j := 11) C kt_53 rfl rfl (Nat.le_of_ble_eq_true rfl) lkf_RX12_31 dX12_stage_53 ?_
      refine o_iload_n C 2 dX12_stage_56 rfl rfl ?_
      refine o_iload_n C 3 dX12_stage_57 rfl rfl ?_
      refine o_iast C kt_61 rfl hz1 hz2 hμ5 dX12_stage_58 h (fun μ7 hμ7 h => ?_)
      refine o_iload_n C 0 dX12_stage_59 rfl rfl ?_
      exact o_iret C hQ dX12_stage_60 h hx6 hμ7
    · refine o_ldc (v := (-10000002)) C lkc_RX12_153 rfl dX12_stage_42 ?_
      exact o_iret C hQ dX12_stage_44 h ⟨by decide, by decide⟩ hμ5
  · refine o_ldc (v := (-10000001)) C lkc_RX12_159 rfl dX12_stage_21 ?_
    exact o_iret C hQ dX12_stage_23 h ⟨by decide, by decide⟩ hμ3
theorem c_X12_stage {z1 : Int} (hz1 : r32 z1) {z2 : Int} (hz2 : r32 z2) {μ : GM} (hμ : gRg μ) {u : Int × GM} (h : f_X12_stage z1 z2 μ = some u) : MtI 1 yX12_stage cX12_stage 4 (some .int) (fun ad => [.ref (ad 53), vI z1, vI z2]) μ u := MtI.of pf_X12_stage (fun _ => Nat.le_of_ble_eq_true rfl) (fun G C hQ => w_X12_stage_0 C hQ hz1 hz2 hμ h)
def k_X12_power_43 (kL12 : Int → Int → Int → Int → GM → Option (Int × GM)) (z4 : Int) (z8 : Int) (z10 : Int) (s0 : Int) (μ : GM) : Option (Int × GM) :=
  ck (z4 ≠ 0) (
  lt (Int.tmod (w64 (z8 * z8)) z4) fun x1 =>
  ck (2 ≠ 0) (
  lt (w64 (Int.tdiv z10 2)) fun x2 =>
  kL12 z4 s0 x1 x2 μ))
set_option maxHeartbeats 4000000 in
set_option maxRecDepth 100000 in
theorem w_X12_power_43 {G : GX} {u : Int × GM} (C : CX G 0 cX12_power 12 RX12) (hQ : gQL G (some .long) u) {kL12 : Int → Int → Int → Int → GM → Option (Int × GM)} (hL12 : ∀ (z4 : Int) (hz4 : r64 z4) (z6 : Int) (hz6 : r64 z6) (z8 : Int) (hz8 : r64 z8) (z10 : Int) (hz10 : r64 z10) (μ : GM) (hμ : gRg μ), kL12 z4 z6 z8 z10 μ = some u → WM G 12 μ 12 [(4, vJ z4), (6, vJ z6), (8, vJ z8), (10, vJ z10)] []) {z4 : Int} (hz4 : r64 z4) {z8 : Int} (hz8 : r64 z8) {z10 : Int} (hz10 : r64 z10) {s0 : Int} (hs0 : r64 s0) {μ : GM} (hμ : gRg μ) (h : k_X12_power_43 kL12 z4 z8 z10 s0 μ = some u) : WM G 12 μ 43 [(4, vJ z4), (8, vJ z8), (10, vJ z10)] [vJ s0] := by
  unfold k_X12_power_43 at h
  refine o_lstore (lv2 := [(6, vJ s0), (4, vJ z4), (8, vJ z8), (10, vJ z10)]) C dX12_power_43 (by decide) rfl ?_
  refine o_lload C 2 dX12_power_45 rfl ?_
  refine o_lload C 2 dX12_power_47 rfl ?_
  refine o_lmul C dX12_power_49 ?_
  refine o_lload C 1 dX12_power_50 rfl ?_
  refine o_lrem C (r64_w _) hz4 dX12_power_52 h (fun h => ?_)
  refine o_ltl h (r64_rem _ (r64_w _)) (fun x1 hx1 h => ?_)
  refine o_lstore (lv2 := [(8, vJ x1), (6, vJ s0), (4, vJ z4), (10, vJ z10)]) C dX12_power_53 (by decide) rfl ?_
  refine o_lload C 3 dX12_power_55 rfl ?_
  refine o_ldc2 (v := 2) C lkc_RX12_178 rfl dX12_power_57 ?_
  refine o_ldiv C hz10 ⟨by decide, by decide⟩ dX12_power_60 h (fun h => ?_)
  refine o_ltl h (r64_w _) (fun x2 hx2 h => ?_)
  refine o_lstore (lv2 := [(10, vJ x2), (8, vJ x1), (6, vJ s0), (4, vJ z4)]) C dX12_power_61 (by decide) rfl ?_
  refine o_goto (tgt := 12) C dX12_power_63 (by decide) ?_
  exact WM.sub [3, 2, 1, 0] rfl (hL12 z4 hz4 s0 hs0 x1 hx1 x2 hx2 μ hμ h)
def k_X12_power_12 : Nat → Int → Int → Int → Int → GM → Option (Int × GM)
  | 0, _, _, _, _, _ => none
  | n + 1, z4, z6, z8, z10, μ =>
    if 0 < z10 then
      ck (2 ≠ 0) (
      if (Int.tmod z10 2) = 1 then
        ck (z4 ≠ 0) (
        k_X12_power_43 (k_X12_power_12 n) z4 z8 z10 (Int.tmod (w64 (z6 * z8)) z4) μ)
      else
        k_X12_power_43 (k_X12_power_12 n) z4 z8 z10 z6 μ)
    else
      some (z6, μ)
set_option maxHeartbeats 4000000 in
set_option maxRecDepth 100000 in
theorem w_X12_power_12 {G : GX} {u : Int × GM} (C : CX G 0 cX12_power 12 RX12) (hQ : gQL G (some .long) u) : ∀ (n : Nat) (z4 : Int) (hz4 : r64 z4) (z6 : Int) (hz6 : r64 z6) (z8 : Int) (hz8 : r64 z8) (z10 : Int) (hz10 : r64 z10) (μ : GM) (hμ : gRg μ), k_X12_power_12 n z4 z6 z8 z10 μ = some u → WM G 12 μ 12 [(4, vJ z4), (6, vJ z6), (8, vJ z8), (10, vJ z10)] [] := by
  intro n
  induction n with
  | zero =>
    intro z4 hz4 z6 hz6 z8 hz8 z10 hz10 μ hμ h
    cases h
  | succ n ih =>
    intro z4 hz4 z6 hz6 z8 hz8 z10 hz10 μ hμ h
    rw [k_X12_power_12] at h
    refine o_lload C 3 dX12_power_12 rfl ?_
    refine o_lconst (v := 0) C dX12_power_14 rfl ?_
    refine o_lcmp_le (tgt := 66) C hz10 ⟨by decide, by decide⟩ dX12_power_15 dX12_power_16 (by decide) h (fun _ h => ?_) (fun _ h => ?_)
    · refine o_lload C 1 dX12_power_66 rfl ?_
      exact o_lret C hQ dX12_power_68 h hz6 hμ
    · refine o_lload C 3 dX12_power_19 rfl ?_
      refine o_ldc2 (v := 2) C lkc_RX12_178 rfl dX12_power_21 ?_
      refine o_lrem C hz10 ⟨by decide, by decide⟩ dX12_power_24 h (fun h => ?_)
      refine o_lconst (v := 1) C dX12_power_25 rfl ?_
      refine o_lcmp_ne (tgt := 41) C (r64_rem _ hz10) ⟨by decide, by decide⟩ dX12_power_26 dX12_power_27 (by decide) h (fun _ h => ?_) (fun _ h => ?_)
      · refine o_lload C 1 dX12_power_41 rfl ?_
        exact WM.sub [0, 2, 3] rfl (w_X12_power_43 C hQ ih hz4 hz8 hz10 hz6 hμ h)
      · refine o_lload C 1 dX12_power_30 rfl ?_
        refine o_lload C 2 dX12_power_32 rfl ?_
        refine o_lmul C dX12_power_34 ?_
        refine o_lload C 0 dX12_power_35 rfl ?_
        refine o_lrem C (r64_w _) hz4 dX12_power_37 h (fun h => ?_)
        refine o_goto (tgt := 43) C dX12_power_38 (by decide) ?_
        exact WM.sub [0, 2, 3] rfl (w_X12_power_43 C hQ ih hz4 hz8 hz10 (r64_rem _ (r64_w _)) hμ h)
def f_X12_power (z0 : Int) (z2 : Int) (z4 : Int) (μ : GM) : Option (Int × GM) :=
  ck (z4 ≠ 0) (
  lt (Int.tmod z0 z4) fun x1 =>
  k_X12_power_12 FU z4 1 x1 z2 μ)
set_option maxHeartbeats 4000000 in
set_option maxRecDepth 100000 in
theorem w_X12_power_0 {G : GX} {u : Int × GM} (C : CX G 0 cX12_power 12 RX12) (hQ : gQL G (some .long) u) {z0 : Int} (hz0 : r64 z0) {z2 : Int} (hz2 : r64 z2) {z4 : Int} (hz4 : r64 z4) {μ : GM} (hμ : gRg μ) (h : f_X12_power z0 z2 z4 μ = some u) : WM G 12 μ 0 [(0, vJ z0), (2, vJ z2), (4, vJ z4)] [] := by
  unfold f_X12_power at h
  refine o_lconst (v := 1) C dX12_power_0 rfl ?_
  refine o_lstore (lv2 := [(6, vJ 1), (0, vJ z0), (2, vJ z2), (4, vJ z4)]) C dX12_power_1 (by decide) rfl ?_
  refine o_lload_n C 1 dX12_power_3 rfl rfl ?_
  refine o_lload C 3 dX12_power_4 rfl ?_
  refine o_lrem C hz0 hz4 dX12_power_6 h (fun h => ?_)
  refine o_ltl h (r64_rem _ hz0) (fun x1 hx1 h => ?_)
  refine o_lstore (lv2 := [(8, vJ x1), (6, vJ 1), (0, vJ z0), (2, vJ z2), (4, vJ z4)]) C dX12_power_7 (by decide) rfl ?_
  refine o_lload_n C 3 dX12_power_9 rfl rfl ?_
  refine o_lstore (lv2 := [(10, vJ z2), (8, vJ x1), (6, vJ 1), (0, vJ z0), (2, vJ z2), (4, vJ z4)]) C dX12_power_10 (by decide) rfl ?_
  exact WM.sub [5, 2, 1, 0] rfl (w_X12_power_12 C hQ FU z4 hz4 1 ⟨by decide, by decide⟩ x1 hx1 z2 hz2 μ hμ h)
theorem c_X12_power {z0 : Int} (hz0 : r64 z0) {z2 : Int} (hz2 : r64 z2) {z4 : Int} (hz4 : r64 z4) {μ : GM} (hμ : gRg μ) {u : Int × GM} (h : f_X12_power z0 z2 z4 μ = some u) : MtL 0 yX12_power cX12_power 12 (some .long) (fun ad => [vJ z0, vJ z2, vJ z4]) μ u := MtL.of pf_X12_power (fun _ => Nat.le_of_ble_eq_true rfl) (fun G C hQ => w_X12_power_0 C hQ hz0 hz2 hz4 hμ h)
def k_X12_determinant_333 (kL104 : Int → Int → Int → GM → Option (Int × GM)) (kL300 : Int → Int → Int → Int → Int → GM → Option (Int × GM)) : Nat → Int → Int → Int → Int → Int → Int → Int → GM → Option (Int × GM)
  | 0, _, _, _, _, _, _, _, _ => none
  | n + 1, z2, z4, z6, z8, z10, z11, z13, μ =>
    if z13 < (μ.2 53 1) then
      ck (0 ≤ (w32 ((w32 (6 * z10)) + z13)) ∧ (w32 ((w32 (6 * z10)) + z13)) < 36) (
      ck (0 ≤ (w32 ((w32 (6 * z6)) + z13)) ∧ (w32 ((w32 (6 * z6)) + z13)) < 36) (
      ck (z2 ≠ 0) (
      ck (0 ≤ (w32 ((w32 (6 * z10)) + z13)) ∧ (w32 ((w32 (6 * z10)) + z13)) < 36) (lm (gA μ 76 (w32 ((w32 (6 * z10)) + z13)) (Int.tmod (w64 ((μ.1 76 (w32 ((w32 (6 * z10)) + z13))) + (w64 ((w64 (z2 - z11)) * (μ.1 76 (w32 ((w32 (6 * z6)) + z13))))))) z2)) fun μ2 =>
      lt (w32 (z13 + 1)) fun x3 =>
      k_X12_determinant_333 kL104 kL300 n z2 z4 z6 z8 z10 z11 x3 μ2))))
    else
      lt (w32 (z10 + 1)) fun x1 =>
      kL300 z2 z4 z6 z8 x1 μ
set_option maxHeartbeats 4000000 in
set_option maxRecDepth 100000 in
theorem w_X12_determinant_333 {G : GX} {u : Int × GM} (C : CX G 1 cX12_determinant 14 RX12) (hQ : gQL G (some .long) u) {kL104 : Int → Int → Int → GM → Option (Int × GM)} (hL104 : ∀ (z2 : Int) (hz2 : r64 z2) (z4 : Int) (hz4 : r64 z4) (z6 : Int) (hz6 : r32 z6) (μ : GM) (hμ : gRg μ), kL104 z2 z4 z6 μ = some u → WM G 14 μ 104 [(0, gR G 53), (2, vJ z2), (4, vJ z4), (6, vI z6)] []) {kL300 : Int → Int → Int → Int → Int → GM → Option (Int × GM)} (hL300 : ∀ (z2 : Int) (hz2 : r64 z2) (z4 : Int) (hz4 : r64 z4) (z6 : Int) (hz6 : r32 z6) (z8 : Int) (hz8 : r64 z8) (z10 : Int) (hz10 : r32 z10) (μ : GM) (hμ : gRg μ), kL300 z2 z4 z6 z8 z10 μ = some u → WM G 14 μ 300 [(0, gR G 53), (2, vJ z2), (4, vJ z4), (6, vI z6), (8, vJ z8), (10, vI z10)] []) : ∀ (n : Nat) (z2 : Int) (hz2 : r64 z2) (z4 : Int) (hz4 : r64 z4) (z6 : Int) (hz6 : r32 z6) (z8 : Int) (hz8 : r64 z8) (z10 : Int) (hz10 : r32 z10) (z11 : Int) (hz11 : r64 z11) (z13 : Int) (hz13 : r32 z13) (μ : GM) (hμ : gRg μ), k_X12_determinant_333 kL104 kL300 n z2 z4 z6 z8 z10 z11 z13 μ = some u → WM G 14 μ 333 [(0, gR G 53), (2, vJ z2), (4, vJ z4), (6, vI z6), (8, vJ z8), (10, vI z10), (11, vJ z11), (13, vI z13)] [] := by
  intro n
  induction n with
  | zero =>
    intro z2 hz2 z4 hz4 z6 hz6 z8 hz8 z10 hz10 z11 hz11 z13 hz13 μ hμ h
    cases h
  | succ n ih =>
    intro z2 hz2 z4 hz4 z6 hz6 z8 hz8 z10 hz10 z11 hz11 z13 hz13 μ hμ h
    rw [k_X12_determinant_333] at h
    refine o_iload C 7 dX12_determinant_333 rfl ?_
    refine o_aload_n C 0 dX12_determinant_335 rfl rfl ?_
    refine o_getI (j := 1) C kt_53 rfl rfl (Nat.le_of_ble_eq_true rfl) lkf_RX12_137 dX12_determinant_336 ?_
    refine o_icmp_ge (tgt := 395) C hz13 (hμ.fi kt_53 rfl (by decide)) dX12_determinant_339 (by decide) h (fun _ h => ?_) (fun _ h => ?_)
    · refine o_iinc (lv2 := fun x1 => [(10, vI x1), (0, gR G 53), (2, vJ z2), (4, vJ z4), (6, vI z6), (8, vJ z8), (11, vJ z11), (13, vI z13)]) C 5 dX12_determinant_395 rfl (by decide) (fun _ => rfl) h (fun x1 hx1 h => ?_)
      refine o_goto (tgt := 300) C dX12_determinant_398 (by decide) ?_
      exact WM.sub [1, 2, 3, 4, 5, 0] rfl (hL300 z2 hz2 z4 hz4 z6 hz6 z8 hz8 x1 hx1 μ hμ h)
    · refine o_aload_n C 0 dX12_determinant_342 rfl rfl ?_
      refine o_getR (j := 30) C kt_53 rfl rfl (Nat.le_of_ble_eq_true rfl) lkf_RX12_77 dX12_determinant_343 ?_
      refine o_bipush (v := 6) C dX12_determinant_346 (by decide) ?_
      refine o_iload C 5 dX12_determinant_348 rfl ?_
      refine o_imul C dX12_determinant_350 ?_
      refine o_iload C 7 dX12_determinant_351 rfl ?_
      refine o_iadd C dX12_determinant_353 ?_
      refine o_aload_n C 0 dX12_determinant_354 rfl rfl ?_
      refine o_getR (j := 30) C kt_53 rfl rfl (Nat.le_of_ble_eq_true rfl) lkf_RX12_77 dX12_determinant_355 ?_
      refine o_bipush (v := 6) C dX12_determinant_358 (by decide) ?_
      refine o_iload C 5 dX12_determinant_360 rfl ?_
      refine o_imul C dX12_determinant_362 ?_
      refine o_iload C 7 dX12_determinant_363 rfl ?_
      refine o_iadd C dX12_determinant_365 ?_
      refine o_lald C kt_76 rfl (r32_w _) dX12_determinant_366 h (fun h => ?_)
      refine o_lload_n C 1 dX12_determinant_367 rfl rfl ?_
      refine o_lload C 6 dX12_determinant_368 rfl ?_
      refine o_lsub C dX12_determinant_370 ?_
      refine o_aload_n C 0 dX12_determinant_371 rfl rfl ?_
      refine o_getR (j := 30) C kt_53 rfl rfl (Nat.le_of_ble_eq_true rfl) lkf_RX12_77 dX12_determinant_372 ?_
      refine o_bipush (v := 6) C dX12_determinant_375 (by decide) ?_
      refine o_iload C 3 dX12_determinant_377 rfl ?_
      refine o_imul C dX12_determinant_379 ?_
      refine o_iload C 7 dX12_determinant_380 rfl ?_
      refine o_iadd C dX12_determinant_382 ?_
      refine o_lald C kt_76 rfl (r32_w _) dX12_determinant_383 h (fun h => ?_)
      refine o_lmul C dX12_determinant_384 ?_
      refine o_ladd C dX12_determinant_385 ?_
      refine o_lload_n C 1 dX12_determinant_386 rfl rfl ?_
      refine o_lrem C (r64_w _) hz2 dX12_determinant_387 h (fun h => ?_)
      refine o_last C kt_76 rfl (r32_w _) (r64_rem _ (r64_w _)) hμ dX12_determinant_388 h (fun μ2 hμ2 h => ?_)
      refine o_iinc (lv2 := fun x3 => [(13, vI x3), (0, gR G 53), (2, vJ z2), (4, vJ z4), (6, vI z6), (8, vJ z8), (10, vI z10), (11, vJ z11)]) C 7 dX12_determinant_389 rfl (by decide) (fun _ => rfl) h (fun x3 hx3 h => ?_)
      refine o_goto (tgt := 333) C dX12_determinant_392 (by decide) ?_
      exact WM.sub [1, 2, 3, 4, 5, 6, 7, 0] rfl (ih z2 hz2 z4 hz4 z6 hz6 z8 hz8 z10 hz10 z11 hz11 x3 hx3 μ2 hμ2 h)
def k_X12_determinant_300 (kL104 : Int → Int → Int → GM → Option (Int × GM)) : Nat → Int → Int → Int → Int → Int → GM → Option (Int × GM)
  | 0, _, _, _, _, _, _ => none
  | n + 1, z2, z4, z6, z8, z10, μ =>
    if z10 < (μ.2 53 1) then
      ck (0 ≤ (w32 ((w32 (6 * z10)) + z6)) ∧ (w32 ((w32 (6 * z10)) + z6)) < 36) (
      ck (z2 ≠ 0) (
      lt (Int.tmod (w64 ((μ.1 76 (w32 ((w32 (6 * z10)) + z6))) * z8)) z2) fun x2 =>
      k_X12_determinant_333 kL104 (k_X12_determinant_300 kL104 n) FU z2 z4 z6 z8 z10 x2 z6 μ))
    else
      lt (w32 (z6 + 1)) fun x1 =>
      kL104 z2 z4 x1 μ
set_option maxHeartbeats 4000000 in
set_option maxRecDepth 100000 in
theorem w_X12_determinant_300 {G : GX} {u : Int × GM} (C : CX G 1 cX12_determinant 14 RX12) (hQ : gQL G (some .long) u) {kL104 : Int → Int → Int → GM → Option (Int × GM)} (hL104 : ∀ (z2 : Int) (hz2 : r64 z2) (z4 : Int) (hz4 : r64 z4) (z6 : Int) (hz6 : r32 z6) (μ : GM) (hμ : gRg μ), kL104 z2 z4 z6 μ = some u → WM G 14 μ 104 [(0, gR G 53), (2, vJ z2), (4, vJ z4), (6, vI z6)] []) : ∀ (n : Nat) (z2 : Int) (hz2 : r64 z2) (z4 : Int) (hz4 : r64 z4) (z6 : Int) (hz6 : r32 z6) (z8 : Int) (hz8 : r64 z8) (z10 : Int) (hz10 : r32 z10) (μ : GM) (hμ : gRg μ), k_X12_determinant_300 kL104 n z2 z4 z6 z8 z10 μ = some u → WM G 14 μ 300 [(0, gR G 53), (2, vJ z2), (4, vJ z4), (6, vI z6), (8, vJ z8), (10, vI z10)] [] := by
  intro n
  induction n with
  | zero =>
    intro z2 hz2 z4 hz4 z6 hz6 z8 hz8 z10 hz10 μ hμ h
    cases h
  | succ n ih =>
    intro z2 hz2 z4 hz4 z6 hz6 z8 hz8 z10 hz10 μ hμ h
    rw [k_X12_determinant_300] at h
    refine o_iload C 5 dX12_determinant_300 rfl ?_
    refine o_aload_n C 0 dX12_determinant_302 rfl rfl ?_
    refine o_getI (j := 1) C kt_53 rfl rfl (Nat.le_of_ble_eq_true rfl) lkf_RX12_137 dX12_determinant_303 ?_
    refine o_icmp_ge (tgt := 401) C hz10 (hμ.fi kt_53 rfl (by decide)) dX12_determinant_306 (by decide) h (fun _ h => ?_) (fun _ h => ?_)
    · refine o_iinc (lv2 := fun x1 => [(6, vI x1), (0, gR G 53), (2, vJ z2), (4, vJ z4), (8, vJ z8), (10, vI z10)]) C 3 dX12_determinant_401 rfl (by decide) (fun _ => rfl) h (fun x1 hx1 h => ?_)
      refine o_goto (tgt := 104) C dX12_determinant_404 (by decide) ?_
      exact WM.sub [1, 2, 3, 0] rfl (hL104 z2 hz2 z4 hz4 x1 hx1 μ hμ h)
    · refine o_aload_n C 0 dX12_determinant_309 rfl rfl ?_
      refine o_getR (j := 30) C kt_53 rfl rfl (Nat.le_of_ble_eq_true rfl) lkf_RX12_77 dX12_determinant_310 ?_
      refine o_bipush (v := 6) C dX12_determinant_313 (by decide) ?_
      refine o_iload C 5 dX12_determinant_315 rfl ?_
      refine o_imul C dX12_determinant_317 ?_
      refine o_iload C 3 dX12_determinant_318 rfl ?_
      refine o_iadd C dX12_determinant_320 ?_
      refine o_lald C kt_76 rfl (r32_w _) dX12_determinant_321 h (fun h => ?_)
      refine o_lload C 4 dX12_determinant_322 rfl ?_
      refine o_lmul C dX12_determinant_324 ?_
      refine o_lload_n C 1 dX12_determinant_325 rfl rfl ?_
      refine o_lrem C (r64_w _) hz2 dX12_determinant_326 h (fun h => ?_)
      refine o_ltl h (r64_rem _ (r64_w _)) (fun x2 hx2 h => ?_)
      refine o_lstore (lv2 := [(11, vJ x2), (0, gR G 53), (2, vJ z2), (4, vJ z4), (6, vI z6), (8, vJ z8), (10, vI z10)]) C dX12_determinant_327 (by decide) rfl ?_
      refine o_iload C 4 dX12_determinant_329 rfl ?_
      refine o_istore (lv2 := [(13, vI z6), (11, vJ x2), (0, gR G 53), (2, vJ z2), (4, vJ z4), (6, vI z6), (8, vJ z8), (10, vI z10)]) C dX12_determinant_331 (by decide) rfl ?_
      exact WM.sub [2, 3, 4, 5, 6, 7, 1, 0] rfl (w_X12_determinant_333 C hQ hL104 ih FU z2 hz2 z4 hz4 z6 hz6 z8 hz8 z10 hz10 x2 hx2 z6 hz6 μ hμ h)
def k_X12_determinant_250 (kL104 : Int → Int → Int → GM → Option (Int × GM)) (z2 : Int) (z4 : Int) (z6 : Int) (μ : GM) : Option (Int × GM) :=
  ck (0 ≤ (w32 ((w32 (6 * z6)) + z6)) ∧ (w32 ((w32 (6 * z6)) + z6)) < 36) (
  ck (z2 ≠ 0) (
  lt (Int.tmod (w64 (z4 * (μ.1 76 (w32 ((w32 (6 * z6)) + z6))))) z2) fun x1 =>
  ck (0 ≤ (w32 ((w32 (6 * z6)) + z6)) ∧ (w32 ((w32 (6 * z6)) + z6)) < 36) (
  bd (f_X12_power (μ.1 76 (w32 ((w32 (6 * z6)) + z6))) (w64 (z2 - 2)) z2 μ) fun x2 μ3 =>
  lt (w32 (z6 + 1)) fun x4 =>
  k_X12_determinant_300 kL104 FU z2 x1 z6 x2 x4 μ3)))
set_option maxHeartbeats 4000000 in
set_option maxRecDepth 100000 in
theorem w_X12_determinant_250 {G : GX} {u : Int × GM} (C : CX G 1 cX12_determinant 14 RX12) (hQ : gQL G (some .long) u) {kL104 : Int → Int → Int → GM → Option (Int × GM)} (hL104 : ∀ (z2 : Int) (hz2 : r64 z2) (z4 : Int) (hz4 : r64 z4) (z6 : Int) (hz6 : r32 z6) (μ : GM) (hμ : gRg μ), kL104 z2 z4 z6 μ = some u → WM G 14 μ 104 [(0, gR G 53), (2, vJ z2), (4, vJ z4), (6, vI z6)] []) {z2 : Int} (hz2 : r64 z2) {z4 : Int} (hz4 : r64 z4) {z6 : Int} (hz6 : r32 z6) {μ : GM} (hμ : gRg μ) (h : k_X12_determinant_250 kL104 z2 z4 z6 μ = some u) : WM G 14 μ 250 [(0, gR G 53), (2, vJ z2), (4, vJ z4), (6, vI z6)] [] := by
  unfold k_X12_determinant_250 at h
  refine o_lload C 2 dX12_determinant_250 rfl ?_
  refine o_aload_n C 0 dX12_determinant_252 rfl rfl ?_
  refine o_getR (j := 30) C kt_53 rfl rfl (Nat.le_of_ble_eq_true rfl) lkf_RX12_77 dX12_determinant_253 ?_
  refine o_bipush (v := 6) C dX12_determinant_256 (by decide) ?_
  refine o_iload C 3 dX12_determinant_258 rfl ?_
  refine o_imul C dX12_determinant_260 ?_
  refine o_iload C 3 dX12_determinant_261 rfl ?_
  refine o_iadd C dX12_determinant_263 ?_
  refine o_lald C kt_76 rfl (r32_w _) dX12_determinant_264 h (fun h => ?_)
  refine o_lmul C dX12_determinant_265 ?_
  refine o_lload_n C 1 dX12_determinant_266 rfl rfl ?_
  refine o_lrem C (r64_w _) hz2 dX12_determinant_267 h (fun h => ?_)
  refine o_ltl h (r64_rem _ (r64_w _)) (fun x1 hx1 h => ?_)
  refine o_lstore (lv2 := [(4, vJ x1), (0, gR G 53), (2, vJ z2), (6, vI z6)]) C dX12_determinant_268 (by decide) rfl ?_
  refine o_aload_n C 1 dX12_determinant_270 rfl rfl ?_
  refine o_getR (j := 30) C kt_53 rfl rfl (Nat.le_of_ble_eq_true rfl) lkf_RX12_77 dX12_determinant_271 ?_
  refine o_bipush (v := 6) C dX12_determinant_274 (by decide) ?_
  refine o_iload C 3 dX12_determinant_276 rfl ?_
  refine o_imul C dX12_determinant_278 ?_
  refine o_iload C 3 dX12_determinant_279 rfl ?_
  refine o_iadd C dX12_determinant_281 ?_
  refine o_lald C kt_76 rfl (r32_w _) dX12_determinant_282 h (fun h => ?_)
  refine o_lload_n C 2 dX12_determinant_283 rfl rfl ?_
  refine o_ldc2 (v := 2) C lkc_RX12_178 rfl dX12_determinant_284 ?_
  refine o_lsub C dX12_determinant_287 ?_
  refine o_lload_n C 2 dX12_determinant_288 rfl rfl ?_
  refine o_cSL C [vJ (μ.1 76 (w32 ((w32 (6 * z6)) + z6))), vJ (w64 (z2 - 2)), vJ z2] mb_X12_power (by decide) (fun _ hu => c_X12_power (hμ.l kt_76 _) (r64_w _) hz2 hμ hu) rfl (Nat.le_of_ble_eq_true rfl) h ms_X12_power lkm_RX12_180 rfl rfl dX12_determinant_289 (fun x2 μ3 hx2 hμ3 h => ?_)
  refine o_lstore (lv2 := [(8, vJ x2), (4, vJ x1), (0, gR G 53), (2, vJ z2), (6, vI z6)]) C dX12_determinant_292 (by decide) rfl ?_
  refine o_iload C 4 dX12_determinant_294 rfl ?_
  refine o_iconst C dX12_determinant_296 ?_
  refine o_iadd C dX12_determinant_297 ?_
  refine o_lt h (r32_w _) (fun x4 hx4 h => ?_)
  refine o_istore (lv2 := [(10, vI x4), (8, vJ x2), (4, vJ x1), (0, gR G 53), (2, vJ z2), (6, vI z6)]) C dX12_determinant_298 (by decide) rfl ?_
  exact WM.sub [3, 4, 2, 5, 1, 0] rfl (w_X12_determinant_300 C hQ hL104 FU z2 hz2 x1 hx1 z6 hz6 x2 hx2 x4 hx4 μ3 hμ3 h)
def k_X12_determinant_171 (kL104 : Int → Int → Int → GM → Option (Int × GM)) : Nat → Int → Int → Int → Int → Int → GM → Option (Int × GM)
  | 0, _, _, _, _, _, _ => none
  | n + 1, z2, z4, z6, z7, z8, μ =>
    if z8 < (μ.2 53 1) then
      ck (0 ≤ (w32 ((w32 (6 * z6)) + z8)) ∧ (w32 ((w32 (6 * z6)) + z8)) < 36) (
      lt (μ.1 76 (w32 ((w32 (6 * z6)) + z8))) fun x2 =>
      ck (0 ≤ (w32 ((w32 (6 * z7)) + z8)) ∧ (w32 ((w32 (6 * z7)) + z8)) < 36) (
      ck (0 ≤ (w32 ((w32 (6 * z6)) + z8)) ∧ (w32 ((w32 (6 * z6)) + z8)) < 36) (lm (gA μ 76 (w32 ((w32 (6 * z6)) + z8)) (μ.1 76 (w32 ((w32 (6 * z7)) + z8)))) fun μ3 =>
      ck (0 ≤ (w32 ((w32 (6 * z7)) + z8)) ∧ (w32 ((w32 (6 * z7)) + z8)) < 36) (lm (gA μ3 76 (w32 ((w32 (6 * z7)) + z8)) x2) fun μ4 =>
      lt (w32 (z8 + 1)) fun x5 =>
      k_X12_determinant_171 kL104 n z2 z4 z6 z7 x5 μ4))))
    else
      ck (z2 ≠ 0) (
      lt (Int.tmod (w64 (z2 - z4)) z2) fun x1 =>
      k_X12_determinant_250 kL104 z2 x1 z6 μ)
set_option maxHeartbeats 4000000 in
set_option maxRecDepth 100000 in
theorem w_X12_determinant_171 {G : GX} {u : Int × GM} (C : CX G 1 cX12_determinant 14 RX12) (hQ : gQL G (some .long) u) {kL104 : Int → Int → Int → GM → Option (Int × GM)} (hL104 : ∀ (z2 : Int) (hz2 : r64 z2) (z4 : Int) (hz4 : r64 z4) (z6 : Int) (hz6 : r32 z6) (μ : GM) (hμ : gRg μ), kL104 z2 z4 z6 μ = some u → WM G 14 μ 104 [(0, gR G 53), (2, vJ z2), (4, vJ z4), (6, vI z6)] []) : ∀ (n : Nat) (z2 : Int) (hz2 : r64 z2) (z4 : Int) (hz4 : r64 z4) (z6 : Int) (hz6 : r32 z6) (z7 : Int) (hz7 : r32 z7) (z8 : Int) (hz8 : r32 z8) (μ : GM) (hμ : gRg μ), k_X12_determinant_171 kL104 n z2 z4 z6 z7 z8 μ = some u → WM G 14 μ 171 [(0, gR G 53), (2, vJ z2), (4, vJ z4), (6, vI z6), (7, vI z7), (8, vI z8)] [] := by
  intro n
  induction n with
  | zero =>
    intro z2 hz2 z4 hz4 z6 hz6 z7 hz7 z8 hz8 μ hμ h
    cases h
  | succ n ih =>
    intro z2 hz2 z4 hz4 z6 hz6 z7 hz7 z8 hz8 μ hμ h
    rw [k_X12_determinant_171] at h
    refine o_iload C 5 dX12_determinant_171 rfl ?_
    refine o_aload_n C 0 dX12_determinant_173 rfl rfl ?_
    refine o_getI (j := 1) C kt_53 rfl rfl (Nat.le_of_ble_eq_true rfl) lkf_RX12_137 dX12_determinant_174 ?_
    refine o_icmp_ge (tgt := 242) C hz8 (hμ.fi kt_53 rfl (by decide)) dX12_determinant_177 (by decide) h (fun _ h => ?_) (fun _ h => ?_)
    · refine o_lload_n C 1 dX12_determinant_242 rfl rfl ?_
      refine o_lload C 2 dX12_determinant_243 rfl ?_
      refine o_lsub C dX12_determinant_245 ?_
      refine o_lload_n C 1 dX12_determinant_246 rfl rfl ?_
      refine o_lrem C (r64_w _) hz2 dX12_determinant_247 h (fun h => ?_)
      refine o_ltl h (r64_rem _ (r64_w _)) (fun x1 hx1 h => ?_)
      refine o_lstore (lv2 := [(4, vJ x1), (0, gR G 53), (2, vJ z2), (6, vI z6), (7, vI z7), (8, vI z8)]) C dX12_determinant_248 (by decide) rfl ?_
      exact WM.sub [1, 2, 0, 3] rfl (w_X12_determinant_250 C hQ hL104 hz2 hx1 hz6 hμ h)
    · refine o_aload_n C 0 dX12_determinant_180 rfl rfl ?_
      refine o_getR (j := 30) C kt_53 rfl rfl (Nat.le_of_ble_eq_true rfl) lkf_RX12_77 dX12_determinant_181 ?_
      refine o_bipush (v := 6) C dX12_determinant_184 (by decide) ?_
      refine o_iload C 3 dX12_determinant_186 rfl ?_
      refine o_imul C dX12_determinant_188 ?_
      refine o_iload C 5 dX12_determinant_189 rfl ?_
      refine o_iadd C dX12_determinant_191 ?_
      refine o_lald C kt_76 rfl (r32_w _) dX12_determinant_192 h (fun h => ?_)
      refine o_ltl h (hμ.l kt_76 _) (fun x2 hx2 h => ?_)
      refine o_lstore (lv2 := [(9, vJ x2), (0, gR G 53), (2, vJ z2), (4, vJ z4), (6, vI z6), (7, vI z7), (8, vI z8)]) C dX12_determinant_193 (by decide) rfl ?_
      refine o_aload_n C 1 dX12_determinant_195 rfl rfl ?_
      refine o_getR (j := 30) C kt_53 rfl rfl (Nat.le_of_ble_eq_true rfl) lkf_RX12_77 dX12_determinant_196 ?_
      refine o_bipush (v := 6) C dX12_determinant_199 (by decide) ?_
      refine o_iload C 4 dX12_determinant_201 rfl ?_
      refine o_imul C dX12_determinant_203 ?_
      refine o_iload C 6 dX12_determinant_204 rfl ?_
      refine o_iadd C dX12_determinant_206 ?_
      refine o_aload_n C 1 dX12_determinant_207 rfl rfl ?_
      refine o_getR (j := 30) C kt_53 rfl rfl (Nat.le_of_ble_eq_true rfl) lkf_RX12_77 dX12_determinant_208 ?_
      refine o_bipush (v := 6) C dX12_determinant_211 (by decide) ?_
      refine o_iload C 5 dX12_determinant_213 rfl ?_
      refine o_imul C dX12_determinant_215 ?_
      refine o_iload C 6 dX12_determinant_216 rfl ?_
      refine o_iadd C dX12_determinant_218 ?_
      refine o_lald C kt_76 rfl (r32_w _) dX12_determinant_219 h (fun h => ?_)
      refine o_last C kt_76 rfl (r32_w _) (hμ.l kt_76 _) hμ dX12_determinant_220 h (fun μ3 hμ3 h => ?_)
      refine o_aload_n C 1 dX12_determinant_221 rfl rfl ?_
      refine o_getR (j := 30) C kt_53 rfl rfl (Nat.le_of_ble_eq_true rfl) lkf_RX12_77 dX12_determinant_222 ?_
      refine o_bipush (v := 6) C dX12_determinant_225 (by decide) ?_
      refine o_iload C 5 dX12_determinant_227 rfl ?_
      refine o_imul C dX12_determinant_229 ?_
      refine o_iload C 6 dX12_determinant_230 rfl ?_
      refine o_iadd C dX12_determinant_232 ?_
      refine o_lload C 0 dX12_determinant_233 rfl ?_
      refine o_last C kt_76 rfl (r32_w _) hx2 hμ3 dX12_determinant_235 h (fun μ4 hμ4 h => ?_)
      refine o_iinc (lv2 := fun x5 => [(8, vI x5), (9, vJ x2), (0, gR G 53), (2, vJ z2), (4, vJ z4), (6, vI z6), (7, vI z7)]) C 6 dX12_determinant_236 rfl (by decide) (fun _ => rfl) h (fun x5 hx5 h => ?_)
      refine o_goto (tgt := 171) C dX12_determinant_239 (by decide) ?_
      exact WM.sub [2, 3, 4, 5, 6, 0] rfl (ih z2 hz2 z4 hz4 z6 hz6 z7 hz7 x5 hx5 μ4 hμ4 h)
def k_X12_determinant_150 (kL104 : Int → Int → Int → GM → Option (Int × GM)) (z2 : Int) (z4 : Int) (z6 : Int) (z7 : Int) (μ : GM) : Option (Int × GM) :=
  if z7 = (μ.2 53 1) then
    some (0, μ)
  else
    if z7 = z6 then
      k_X12_determinant_250 kL104 z2 z4 z6 μ
    else
      k_X12_determinant_171 kL104 FU z2 z4 z6 z7 0 μ
set_option maxHeartbeats 4000000 in
set_option maxRecDepth 100000 in
theorem w_X12_determinant_150 {G : GX} {u : Int × GM} (C : CX G 1 cX12_determinant 14 RX12) (hQ : gQL G (some .long) u) {kL104 : Int → Int → Int → GM → Option (Int × GM)} (hL104 : ∀ (z2 : Int) (hz2 : r64 z2) (z4 : Int) (hz4 : r64 z4) (z6 : Int) (hz6 : r32 z6) (μ : GM) (hμ : gRg μ), kL104 z2 z4 z6 μ = some u → WM G 14 μ 104 [(0, gR G 53), (2, vJ z2), (4, vJ z4), (6, vI z6)] []) {z2 : Int} (hz2 : r64 z2) {z4 : Int} (hz4 : r64 z4) {z6 : Int} (hz6 : r32 z6) {z7 : Int} (hz7 : r32 z7) {μ : GM} (hμ : gRg μ) (h : k_X12_determinant_150 kL104 z2 z4 z6 z7 μ = some u) : WM G 14 μ 150 [(0, gR G 53), (2, vJ z2), (4, vJ z4), (6, vI z6), (7, vI z7)] [] := by
  unfold k_X12_determinant_150 at h
  refine o_iload C 4 dX12_determinant_150 rfl ?_
  refine o_aload_n C 0 dX12_determinant_152 rfl rfl ?_
  refine o_getI (j := 1) C kt_53 rfl rfl (Nat.le_of_ble_eq_true rfl) lkf_RX12_137 dX12_determinant_153 ?_
  refine o_icmp_ne (tgt := 161) C hz7 (hμ.fi kt_53 rfl (by decide)) dX12_determinant_156 (by decide) h (fun _ h => ?_) (fun _ h => ?_)
  · refine o_iload C 4 dX12_determinant_161 rfl ?_
    refine o_iload C 3 dX12_determinant_163 rfl ?_
    refine o_icmp_eq (tgt := 250) C hz7 hz6 dX12_determinant_165 (by decide) h (fun _ h => ?_) (fun _ h => ?_)
    · exact WM.sub [0, 1, 2, 3] rfl (w_X12_determinant_250 C hQ hL104 hz2 hz4 hz6 hμ h)
    · refine o_iconst C dX12_determinant_168 ?_
      refine o_istore (lv2 := [(8, vI 0), (0, gR G 53), (2, vJ z2), (4, vJ z4), (6, vI z6), (7, vI z7)]) C dX12_determinant_169 (by decide) rfl ?_
      exact WM.sub [1, 2, 3, 4, 5, 0] rfl (w_X12_determinant_171 C hQ hL104 FU z2 hz2 z4 hz4 z6 hz6 z7 hz7 0 ⟨by decide, by decide⟩ μ hμ h)
  · refine o_lconst (v := 0) C dX12_determinant_159 rfl ?_
    exact o_lret C hQ dX12_determinant_160 h ⟨by decide, by decide⟩ hμ
def k_X12_determinant_117 (kL104 : Int → Int → Int → GM → Option (Int × GM)) : Nat → Int → Int → Int → Int → GM → Option (Int × GM)
  | 0, _, _, _, _, _ => none
  | n + 1, z2, z4, z6, z7, μ =>
    if z7 < (μ.2 53 1) then
      ck (0 ≤ (w32 ((w32 (6 * z7)) + z6)) ∧ (w32 ((w32 (6 * z7)) + z6)) < 36) (
      if (μ.1 76 (w32 ((w32 (6 * z7)) + z6))) = 0 then
        lt (w32 (z7 + 1)) fun x1 =>
        k_X12_determinant_117 kL104 n z2 z4 z6 x1 μ
      else
        k_X12_determinant_150 kL104 z2 z4 z6 z7 μ)
    else
      k_X12_determinant_150 kL104 z2 z4 z6 z7 μ
set_option maxHeartbeats 4000000 in
set_option maxRecDepth 100000 in
theorem w_X12_determinant_117 {G : GX} {u : Int × GM} (C : CX G 1 cX12_determinant 14 RX12) (hQ : gQL G (some .long) u) {kL104 : Int → Int → Int → GM → Option (Int × GM)} (hL104 : ∀ (z2 : Int) (hz2 : r64 z2) (z4 : Int) (hz4 : r64 z4) (z6 : Int) (hz6 : r32 z6) (μ : GM) (hμ : gRg μ), kL104 z2 z4 z6 μ = some u → WM G 14 μ 104 [(0, gR G 53), (2, vJ z2), (4, vJ z4), (6, vI z6)] []) : ∀ (n : Nat) (z2 : Int) (hz2 : r64 z2) (z4 : Int) (hz4 : r64 z4) (z6 : Int) (hz6 : r32 z6) (z7 : Int) (hz7 : r32 z7) (μ : GM) (hμ : gRg μ), k_X12_determinant_117 kL104 n z2 z4 z6 z7 μ = some u → WM G 14 μ 117 [(0, gR G 53), (2, vJ z2), (4, vJ z4), (6, vI z6), (7, vI z7)] [] := by
  intro n
  induction n with
  | zero =>
    intro z2 hz2 z4 hz4 z6 hz6 z7 hz7 μ hμ h
    cases h
  | succ n ih =>
    intro z2 hz2 z4 hz4 z6 hz6 z7 hz7 μ hμ h
    rw [k_X12_determinant_117] at h
    refine o_iload C 4 dX12_determinant_117 rfl ?_
    refine o_aload_n C 0 dX12_determinant_119 rfl rfl ?_
    refine o_getI (j := 1) C kt_53 rfl rfl (Nat.le_of_ble_eq_true rfl) lkf_RX12_137 dX12_determinant_120 ?_
    refine o_icmp_ge (tgt := 150) C hz7 (hμ.fi kt_53 rfl (by decide)) dX12_determinant_123 (by decide) h (fun _ h => ?_) (fun _ h => ?_)
    · exact WM.sub [0, 1, 2, 3, 4] rfl (w_X12_determinant_150 C hQ hL104 hz2 hz4 hz6 hz7 hμ h)
    · refine o_aload_n C 0 dX12_determinant_126 rfl rfl ?_
      refine o_getR (j := 30) C kt_53 rfl rfl (Nat.le_of_ble_eq_true rfl) lkf_RX12_77 dX12_determinant_127 ?_
      refine o_bipush (v := 6) C dX12_determinant_130 (by decide) ?_
      refine o_iload C 4 dX12_determinant_132 rfl ?_
      refine o_imul C dX12_determinant_134 ?_
      refine o_iload C 3 dX12_determinant_135 rfl ?_
      refine o_iadd C dX12_determinant_137 ?_
      refine o_lald C kt_76 rfl (r32_w _) dX12_determinant_138 h (fun h => ?_)
      refine o_lconst (v := 0) C dX12_determinant_139 rfl ?_
      refine o_lcmp_ne (tgt := 150) C (hμ.l kt_76 _) ⟨by decide, by decide⟩ dX12_determinant_140 dX12_determinant_141 (by decide) h (fun _ h => ?_) (fun _ h => ?_)
      · exact WM.sub [0, 1, 2, 3, 4] rfl (w_X12_determinant_150 C hQ hL104 hz2 hz4 hz6 hz7 hμ h)
      · refine o_iinc (lv2 := fun x1 => [(7, vI x1), (0, gR G 53), (2, vJ z2), (4, vJ z4), (6, vI z6)]) C 4 dX12_determinant_144 rfl (by decide) (fun _ => rfl) h (fun x1 hx1 h => ?_)
        refine o_goto (tgt := 117) C dX12_determinant_147 (by decide) ?_
        exact WM.sub [1, 2, 3, 4, 0] rfl (ih z2 hz2 z4 hz4 z6 hz6 x1 hx1 μ hμ h)
def k_X12_determinant_104 : Nat → Int → Int → Int → GM → Option (Int × GM)
  | 0, _, _, _, _ => none
  | n + 1, z2, z4, z6, μ =>
    if z6 < (μ.2 53 1) then
      k_X12_determinant_117 (k_X12_determinant_104 n) FU z2 z4 z6 z6 μ
    else
      some (z4, μ)
set_option maxHeartbeats 4000000 in
set_option maxRecDepth 100000 in
theorem w_X12_determinant_104 {G : GX} {u : Int × GM} (C : CX G 1 cX12_determinant 14 RX12) (hQ : gQL G (some .long) u) : ∀ (n : Nat) (z2 : Int) (hz2 : r64 z2) (z4 : Int) (hz4 : r64 z4) (z6 : Int) (hz6 : r32 z6) (μ : GM) (hμ : gRg μ), k_X12_determinant_104 n z2 z4 z6 μ = some u → WM G 14 μ 104 [(0, gR G 53), (2, vJ z2), (4, vJ z4), (6, vI z6)] [] := by
  intro n
  induction n with
  | zero =>
    intro z2 hz2 z4 hz4 z6 hz6 μ hμ h
    cases h
  | succ n ih =>
    intro z2 hz2 z4 hz4 z6 hz6 μ hμ h
    rw [k_X12_determinant_104] at h
    refine o_iload C 3 dX12_determinant_104 rfl ?_
    refine o_aload_n C 0 dX12_determinant_106 rfl rfl ?_
    refine o_getI (j := 1) C kt_53 rfl rfl (Nat.le_of_ble_eq_true rfl) lkf_RX12_137 dX12_determinant_107 ?_
    refine o_icmp_ge (tgt := 407) C hz6 (hμ.fi kt_53 rfl (by decide)) dX12_determinant_110 (by decide) h (fun _ h => ?_) (fun _ h => ?_)
    · refine o_lload C 2 dX12_determinant_407 rfl ?_
      exact o_lret C hQ dX12_determinant_409 h hz4 hμ
    · refine o_iload C 3 dX12_determinant_113 rfl ?_
      refine o_istore (lv2 := [(7, vI z6), (0, gR G 53), (2, vJ z2), (4, vJ z4), (6, vI z6)]) C dX12_determinant_115 (by decide) rfl ?_
      exact WM.sub [1, 2, 3, 4, 0] rfl (w_X12_determinant_117 C hQ ih FU z2 hz2 z4 hz4 z6 hz6 z6 hz6 μ hμ h)
def k_X12_determinant_53 (kL3 : Int → Int → Int → GM → Option (Int × GM)) (kL15 : Int → Int → Int → Int → GM → Option (Int × GM)) (z1 : Int) (z2 : Int) (z4 : Int) (z5 : Int) (s0 : Int) (μ : GM) : Option (Int × GM) :=
  ck (z2 ≠ 0) (
  lt (Int.tmod s0 z2) fun x1 =>
  if x1 < 0 then
    ck (0 ≤ (w32 ((w32 (6 * z4)) + z5)) ∧ (w32 ((w32 (6 * z4)) + z5)) < 36) (lm (gA μ 76 (w32 ((w32 (6 * z4)) + z5)) (w64 (x1 + z2))) fun μ4 =>
    lt (w32 (z5 + 1)) fun x5 =>
    kL15 z1 z2 z4 x5 μ4)
  else
    ck (0 ≤ (w32 ((w32 (6 * z4)) + z5)) ∧ (w32 ((w32 (6 * z4)) + z5)) < 36) (lm (gA μ 76 (w32 ((w32 (6 * z4)) + z5)) x1) fun μ2 =>
    lt (w32 (z5 + 1)) fun x3 =>
    kL15 z1 z2 z4 x3 μ2))
set_option maxHeartbeats 4000000 in
set_option maxRecDepth 100000 in
theorem w_X12_determinant_53 {G : GX} {u : Int × GM} (C : CX G 1 cX12_determinant 14 RX12) (hQ : gQL G (some .long) u) {kL3 : Int → Int → Int → GM → Option (Int × GM)} (hL3 : ∀ (z1 : Int) (hz1 : r32 z1) (z2 : Int) (hz2 : r64 z2) (z4 : Int) (hz4 : r32 z4) (μ : GM) (hμ : gRg μ), kL3 z1 z2 z4 μ = some u → WM G 14 μ 3 [(0, gR G 53), (1, vI z1), (2, vJ z2), (4, vI z4)] []) {kL15 : Int → Int → Int → Int → GM → Option (Int × GM)} (hL15 : ∀ (z1 : Int) (hz1 : r32 z1) (z2 : Int) (hz2 : r64 z2) (z4 : Int) (hz4 : r32 z4) (z5 : Int) (hz5 : r32 z5) (μ : GM) (hμ : gRg μ), kL15 z1 z2 z4 z5 μ = some u → WM G 14 μ 15 [(0, gR G 53), (1, vI z1), (2, vJ z2), (4, vI z4), (5, vI z5)] []) {z1 : Int} (hz1 : r32 z1) {z2 : Int} (hz2 : r64 z2) {z4 : Int} (hz4 : r32 z4) {z5 : Int} (hz5 : r32 z5) {s0 : Int} (hs0 : r64 s0) {μ : GM} (hμ : gRg μ) (h : k_X12_determinant_53 kL3 kL15 z1 z2 z4 z5 s0 μ = some u) : WM G 14 μ 53 [(0, gR G 53), (1, vI z1), (2, vJ z2), (4, vI z4), (5, vI z5)] [vJ s0] := by
  unfold k_X12_determinant_53 at h
  refine o_lload_n C 2 dX12_determinant_53 rfl rfl ?_
  refine o_lrem C hs0 hz2 dX12_determinant_54 h (fun h => ?_)
  refine o_ltl h (r64_rem _ hs0) (fun x1 hx1 h => ?_)
  refine o_lstore (lv2 := [(6, vJ x1), (0, gR G 53), (1, vI z1), (2, vJ z2), (4, vI z4), (5, vI z5)]) C dX12_determinant_55 (by decide) rfl ?_
  refine o_aload_n C 1 dX12_determinant_57 rfl rfl ?_
  refine o_getR (j := 30) C kt_53 rfl rfl (Nat.le_of_ble_eq_true rfl) lkf_RX12_77 dX12_determinant_58 ?_
  refine o_bipush (v := 6) C dX12_determinant_61 (by decide) ?_
  refine o_iload C 4 dX12_determinant_63 rfl ?_
  refine o_imul C dX12_determinant_65 ?_
  refine o_iload C 5 dX12_determinant_66 rfl ?_
  refine o_iadd C dX12_determinant_68 ?_
  refine o_lload C 0 dX12_determinant_69 rfl ?_
  refine o_lconst (v := 0) C dX12_determinant_71 rfl ?_
  refine o_lcmp_ge (tgt := 83) C hx1 ⟨by decide, by decide⟩ dX12_determinant_72 dX12_determinant_73 (by decide) h (fun _ h => ?_) (fun _ h => ?_)
  · refine o_lload C 0 dX12_determinant_83 rfl ?_
    refine o_last C kt_76 rfl (r32_w _) hx1 hμ dX12_determinant_85 h (fun μ2 hμ2 h => ?_)
    refine o_iinc (lv2 := fun x3 => [(5, vI x3), (6, vJ x1), (0, gR G 53), (1, vI z1), (2, vJ z2), (4, vI z4)]) C 5 dX12_determinant_86 rfl (by decide) (fun _ => rfl) h (fun x3 hx3 h => ?_)
    refine o_goto (tgt := 15) C dX12_determinant_89 (by decide) ?_
    exact WM.sub [2, 3, 4, 5, 0] rfl (hL15 z1 hz1 z2 hz2 z4 hz4 x3 hx3 μ2 hμ2 h)
  · refine o_lload C 0 dX12_determinant_76 rfl ?_
    refine o_lload_n C 3 dX12_determinant_78 rfl rfl ?_
    refine o_ladd C dX12_determinant_79 ?_
    refine o_goto (tgt := 85) C dX12_determinant_80 (by decide) ?_
    refine o_last C kt_76 rfl (r32_w _) (r64_w _) hμ dX12_determinant_85 h (fun μ4 hμ4 h => ?_)
    refine o_iinc (lv2 := fun x5 => [(5, vI x5), (6, vJ x1), (0, gR G 53), (1, vI z1), (2, vJ z2), (4, vI z4)]) C 5 dX12_determinant_86 rfl (by decide) (fun _ => rfl) h (fun x5 hx5 h => ?_)
    refine o_goto (tgt := 15) C dX12_determinant_89 (by decide) ?_
    exact WM.sub [2, 3, 4, 5, 0] rfl (hL15 z1 hz1 z2 hz2 z4 hz4 x5 hx5 μ4 hμ4 h)
def k_X12_determinant_15 (kL3 : Int → Int → Int → GM → Option (Int × GM)) : Nat → Int → Int → Int → Int → GM → Option (Int × GM)
  | 0, _, _, _, _, _ => none
  | n + 1, z1, z2, z4, z5, μ =>
    if z5 < (μ.2 53 1) then
      if z5 = z1 then
        ck (0 ≤ z4 ∧ z4 < 6) (
        k_X12_determinant_53 kL3 (k_X12_determinant_15 kL3 n) z1 z2 z4 z5 (μ.1 75 z4) μ)
      else
        ck (0 ≤ (w32 ((w32 (6 * z4)) + z5)) ∧ (w32 ((w32 (6 * z4)) + z5)) < 36) (
        k_X12_determinant_53 kL3 (k_X12_determinant_15 kL3 n) z1 z2 z4 z5 (μ.1 74 (w32 ((w32 (6 * z4)) + z5))) μ)
    else
      lt (w32 (z4 + 1)) fun x1 =>
      kL3 z1 z2 x1 μ
set_option maxHeartbeats 4000000 in
set_option maxRecDepth 100000 in
theorem w_X12_determinant_15 {G : GX} {u : Int × GM} (C : CX G 1 cX12_determinant 14 RX12) (hQ : gQL G (some .long) u) {kL3 : Int → Int → Int → GM → Option (Int × GM)} (hL3 : ∀ (z1 : Int) (hz1 : r32 z1) (z2 : Int) (hz2 : r64 z2) (z4 : Int) (hz4 : r32 z4) (μ : GM) (hμ : gRg μ), kL3 z1 z2 z4 μ = some u → WM G 14 μ 3 [(0, gR G 53), (1, vI z1), (2, vJ z2), (4, vI z4)] []) : ∀ (n : Nat) (z1 : Int) (hz1 : r32 z1) (z2 : Int) (hz2 : r64 z2) (z4 : Int) (hz4 : r32 z4) (z5 : Int) (hz5 : r32 z5) (μ : GM) (hμ : gRg μ), k_X12_determinant_15 kL3 n z1 z2 z4 z5 μ = some u → WM G 14 μ 15 [(0, gR G 53), (1, vI z1), (2, vJ z2), (4, vI z4), (5, vI z5)] [] := by
  intro n
  induction n with
  | zero =>
    intro z1 hz1 z2 hz2 z4 hz4 z5 hz5 μ hμ h
    cases h
  | succ n ih =>
    intro z1 hz1 z2 hz2 z4 hz4 z5 hz5 μ hμ h
    rw [k_X12_determinant_15] at h
    refine o_iload C 4 dX12_determinant_15 rfl ?_
    refine o_aload_n C 0 dX12_determinant_17 rfl rfl ?_
    refine o_getI (j := 1) C kt_53 rfl rfl (Nat.le_of_ble_eq_true rfl) lkf_RX12_137 dX12_determinant_18 ?_
    refine o_icmp_ge (tgt := 92) C hz5 (hμ.fi kt_53 rfl (by decide)) dX12_determinant_21 (by decide) h (fun _ h => ?_) (fun _ h => ?_)
    · refine o_iinc (lv2 := fun x1 => [(4, vI x1), (0, gR G 53), (1, vI z1), (2, vJ z2), (5, vI z5)]) C 3 dX12_determinant_92 rfl (by decide) (fun _ => rfl) h (fun x1 hx1 h => ?_)
      refine o_goto (tgt := 3) C dX12_determinant_95 (by decide) ?_
      exact WM.sub [1, 2, 3, 0] rfl (hL3 z1 hz1 z2 hz2 x1 hx1 μ hμ h)
    · refine o_iload C 4 dX12_determinant_24 rfl ?_
      refine o_iload_n C 1 dX12_determinant_26 rfl rfl ?_
      refine o_icmp_ne (tgt := 40) C hz5 hz1 dX12_determinant_27 (by decide) h (fun _ h => ?_) (fun _ h => ?_)
      · refine o_aload_n C 0 dX12_determinant_40 rfl rfl ?_
        refine o_getR (j := 28) C kt_53 rfl rfl (Nat.le_of_ble_eq_true rfl) lkf_RX12_71 dX12_determinant_41 ?_
        refine o_bipush (v := 6) C dX12_determinant_44 (by decide) ?_
        refine o_iload C 3 dX12_determinant_46 rfl ?_
        refine o_imul C dX12_determinant_48 ?_
        refine o_iload C 4 dX12_determinant_49 rfl ?_
        refine o_iadd C dX12_determinant_51 ?_
        refine o_lald C kt_74 rfl (r32_w _) dX12_determinant_52 h (fun h => ?_)
        exact WM.sub [0, 1, 2, 3, 4] rfl (w_X12_determinant_53 C hQ hL3 ih hz1 hz2 hz4 hz5 (hμ.l kt_74 _) hμ h)
      · refine o_aload_n C 0 dX12_determinant_30 rfl rfl ?_
        refine o_getR (j := 29) C kt_53 rfl rfl (Nat.le_of_ble_eq_true rfl) lkf_RX12_74 dX12_determinant_31 ?_
        refine o_iload C 3 dX12_determinant_34 rfl ?_
        refine o_lald C kt_75 rfl hz4 dX12_determinant_36 h (fun h => ?_)
        refine o_goto (tgt := 53) C dX12_determinant_37 (by decide) ?_
        exact WM.sub [0, 1, 2, 3, 4] rfl (w_X12_determinant_53 C hQ hL3 ih hz1 hz2 hz4 hz5 (hμ.l kt_75 _) hμ h)
def k_X12_determinant_3 : Nat → Int → Int → Int → GM → Option (Int × GM)
  | 0, _, _, _, _ => none
  | n + 1, z1, z2, z4, μ =>
    if z4 < (μ.2 53 1) then
      k_X12_determinant_15 (k_X12_determinant_3 n) FU z1 z2 z4 0 μ
    else
      k_X12_determinant_104 FU z2 1 0 μ
set_option maxHeartbeats 4000000 in
set_option maxRecDepth 100000 in
theorem w_X12_determinant_3 {G : GX} {u : Int × GM} (C : CX G 1 cX12_determinant 14 RX12) (hQ : gQL G (some .long) u) : ∀ (n : Nat) (z1 : Int) (hz1 : r32 z1) (z2 : Int) (hz2 : r64 z2) (z4 : Int) (hz4 : r32 z4) (μ : GM) (hμ : gRg μ), k_X12_determinant_3 n z1 z2 z4 μ = some u → WM G 14 μ 3 [(0, gR G 53), (1, vI z1), (2, vJ z2), (4, vI z4)] [] := by
  intro n
  induction n with
  | zero =>
    intro z1 hz1 z2 hz2 z4 hz4 μ hμ h
    cases h
  | succ n ih =>
    intro z1 hz1 z2 hz2 z4 hz4 μ hμ h
    rw [k_X12_determinant_3] at h
    refine o_iload C 3 dX12_determinant_3 rfl ?_
    refine o_aload_n C 0 dX12_determinant_5 rfl rfl ?_
    refine o_getI (j := 1) C kt_53 rfl rfl (Nat.le_of_ble_eq_true rfl) lkf_RX12_137 dX12_determinant_6 ?_
    refine o_icmp_ge (tgt := 98) C hz4 (hμ.fi kt_53 rfl (by decide)) dX12_determinant_9 (by decide) h (fun _ h => ?_) (fun _ h => ?_)
    · refine o_lconst (v := 1) C dX12_determinant_98 rfl ?_
      refine o_lstore (lv2 := [(4, vJ 1), (0, gR G 53), (1, vI z1), (2, vJ z2)]) C dX12_determinant_99 (by decide) rfl ?_
      refine o_iconst C dX12_determinant_101 ?_
      refine o_istore (lv2 := [(6, vI 0), (4, vJ 1), (0, gR G 53), (1, vI z1), (2, vJ z2)]) C dX12_determinant_102 (by decide) rfl ?_
      exact WM.sub [2, 4, 1, 0] rfl (w_X12_determinant_104 C hQ FU z2 hz2 1 ⟨by decide, by decide⟩ 0 ⟨by decide, by decide⟩ μ hμ h)
    · refine o_iconst C dX12_determinant_12 ?_
      refine o_istore (lv2 := [(5, vI 0), (0, gR G 53), (1, vI z1), (2, vJ z2), (4, vI z4)]) C dX12_determinant_13 (by decide) rfl ?_
      exact WM.sub [1, 2, 3, 4, 0] rfl (w_X12_determinant_15 C hQ ih FU z1 hz1 z2 hz2 z4 hz4 0 ⟨by decide, by decide⟩ μ hμ h)
def f_X12_determinant (z1 : Int) (z2 : Int) (μ : GM) : Option (Int × GM) :=
  k_X12_determinant_3 FU z1 z2 0 μ
set_option maxHeartbeats 4000000 in
set_option maxRecDepth 100000 in
theorem w_X12_determinant_0 {G : GX} {u : Int × GM} (C : CX G 1 cX12_determinant 14 RX12) (hQ : gQL G (some .long) u) {z1 : Int} (hz1 : r32 z1) {z2 : Int} (hz2 : r64 z2) {μ : GM} (hμ : gRg μ) (h : f_X12_determinant z1 z2 μ = some u) : WM G 14 μ 0 [(0, gR G 53), (1, vI z1), (2, vJ z2)] [] := by
  unfold f_X12_determinant at h
  refine o_iconst C dX12_determinant_0 ?_
  refine o_istore (lv2 := [(4, vI 0), (0, gR G 53), (1, vI z1), (2, vJ z2)]) C dX12_determinant_1 (by decide) rfl ?_
  exact WM.sub [1, 2, 3, 0] rfl (w_X12_determinant_3 C hQ FU z1 hz1 z2 hz2 0 ⟨by decide, by decide⟩ μ hμ h)
theorem c_X12_determinant {z1 : Int} (hz1 : r32 z1) {z2 : Int} (hz2 : r64 z2) {μ : GM} (hμ : gRg μ) {u : Int × GM} (h : f_X12_determinant z1 z2 μ = some u) : MtL 1 yX12_determinant cX12_determinant 14 (some .long) (fun ad => [.ref (ad 53), vI z1, vJ z2]) μ u := MtL.of pf_X12_determinant (fun _ => Nat.le_of_ble_eq_true rfl) (fun G C hQ => w_X12_determinant_0 C hQ hz1 hz2 hμ h)
def f_X12_whole (z1 : Int) (μ : GM) : Option (Int × GM) :=
  bd (f_X12_determinant z1 2147483647 μ) fun x1 μ2 =>
  bd (f_X12_determinant z1 2147483629 μ2) fun x3 μ4 =>
  ck (2147483629 ≠ 0) (
  ck (2147483629 ≠ 0) (
  bd (f_X12_power 18 2147483627 2147483629 μ4) fun x5 μ6 =>
  ck (2147483629 ≠ 0) (
  lt (Int.tmod (w64 ((Int.tmod (w64 ((Int.tmod (w64 (x3 - x1)) 2147483629) + 2147483629)) 2147483629) * x5)) 2147483629) fun x7 =>
  lt (w64 (x1 + (w64 (2147483647 * x7)))) fun x8 =>
  if 2305842987738857481 < x8 then
    some ((w64 (x8 - 4611685975477714963)), μ6)
  else
    some (x8, μ6))))
set_option maxHeartbeats 4000000 in
set_option maxRecDepth 100000 in
theorem w_X12_whole_0 {G : GX} {u : Int × GM} (C : CX G 2 cX12_whole 10 RX12) (hQ : gQL G (some .long) u) {z1 : Int} (hz1 : r32 z1) {μ : GM} (hμ : gRg μ) (h : f_X12_whole z1 μ = some u) : WM G 10 μ 0 [(0, gR G 53), (1, vI z1)] [] := by
  unfold f_X12_whole at h
  refine o_aload_n C 0 dX12_whole_0 rfl rfl ?_
  refine o_iload_n C 1 dX12_whole_1 rfl rfl ?_
  refine o_ldc2 (v := 2147483647) C lkc_RX12_184 rfl dX12_whole_2 ?_
  refine o_cVL C [vI z1, vJ 2147483647] mb_X12_determinant (by decide) (fun _ hu => c_X12_determinant hz1 ⟨by decide, by decide⟩ hμ hu) rfl (Nat.le_of_ble_eq_true rfl) h mi_X12_determinant me_X12_determinant lkm_RX12_186 kt_53 rfl rfl rfl dX12_whole_5 (fun x1 μ2 hx1 hμ2 h => ?_)
  refine o_lstore_n (lv2 := [(2, vJ x1), (0, gR G 53), (1, vI z1)]) C dX12_whole_8 rfl (by decide) rfl ?_
  refine o_aload_n C 1 dX12_whole_9 rfl rfl ?_
  refine o_iload_n C 2 dX12_whole_10 rfl rfl ?_
  refine o_ldc2 (v := 2147483629) C lkc_RX12_190 rfl dX12_whole_11 ?_
  refine o_cVL C [vI z1, vJ 2147483629] mb_X12_determinant (by decide) (fun _ hu => c_X12_determinant hz1 ⟨by decide, by decide⟩ hμ2 hu) rfl (Nat.le_of_ble_eq_true rfl) h mi_X12_determinant me_X12_determinant lkm_RX12_186 kt_53 rfl rfl rfl dX12_whole_14 (fun x3 μ4 hx3 hμ4 h => ?_)
  refine o_lstore (lv2 := [(4, vJ x3), (2, vJ x1), (0, gR G 53), (1, vI z1)]) C dX12_whole_17 (by decide) rfl ?_
  refine o_lload C 0 dX12_whole_19 rfl ?_
  refine o_lload_n C 1 dX12_whole_21 rfl rfl ?_
  refine o_lsub C dX12_whole_22 ?_
  refine o_ldc2 (v := 2147483629) C lkc_RX12_190 rfl dX12_whole_23 ?_
  refine o_lrem C (r64_w _) ⟨by decide, by decide⟩ dX12_whole_26 h (fun h => ?_)
  refine o_ldc2 (v := 2147483629) C lkc_RX12_190 rfl dX12_whole_27 ?_
  refine o_ladd C dX12_whole_30 ?_
  refine o_ldc2 (v := 2147483629) C lkc_RX12_190 rfl dX12_whole_31 ?_
  refine o_lrem C (r64_w _) ⟨by decide, by decide⟩ dX12_whole_34 h (fun h => ?_)
  refine o_ldc2 (v := 18) C lkc_RX12_192 rfl dX12_whole_35 ?_
  refine o_ldc2 (v := 2147483627) C lkc_RX12_194 rfl dX12_whole_38 ?_
  refine o_ldc2 (v := 2147483629) C lkc_RX12_190 rfl dX12_whole_41 ?_
  refine o_cSL C [vJ 18, vJ 2147483627, vJ 2147483629] mb_X12_power (by decide) (fun _ hu => c_X12_power ⟨by decide, by decide⟩ ⟨by decide, by decide⟩ ⟨by decide, by decide⟩ hμ4 hu) rfl (Nat.le_of_ble_eq_true rfl) h ms_X12_power lkm_RX12_180 rfl rfl dX12_whole_44 (fun x5 μ6 hx5 hμ6 h => ?_)
  refine o_lmul C dX12_whole_47 ?_
  refine o_ldc2 (v := 2147483629) C lkc_RX12_190 rfl dX12_whole_48 ?_
  refine o_lrem C (r64_w _) ⟨by decide, by decide⟩ dX12_whole_51 h (fun h => ?_)
  refine o_ltl h (r64_rem _ (r64_w _)) (fun x7 hx7 h => ?_)
  refine o_lstore (lv2 := [(6, vJ x7), (4, vJ x3), (2, vJ x1), (0, gR G 53), (1, vI z1)]) C dX12_whole_52 (by decide) rfl ?_
  refine o_lload_n C 2 dX12_whole_54 rfl rfl ?_
  refine o_ldc2 (v := 2147483647) C lkc_RX12_184 rfl dX12_whole_55 ?_
  refine o_lload C 0 dX12_whole_58 rfl ?_
  refine o_lmul C dX12_whole_60 ?_
  refine o_ladd C dX12_whole_61 ?_
  refine o_ltl h (r64_w _) (fun x8 hx8 h => ?_)
  refine o_lstore (lv2 := [(8, vJ x8), (6, vJ x7), (4, vJ x3), (2, vJ x1), (0, gR G 53), (1, vI z1)]) C dX12_whole_62 (by decide) rfl ?_
  refine o_lload C 0 dX12_whole_64 rfl ?_
  refine o_ldc2 (v := 2305842987738857481) C lkc_RX12_196 rfl dX12_whole_66 ?_
  refine o_lcmp_le (tgt := 82) C hx8 ⟨by decide, by decide⟩ dX12_whole_69 dX12_whole_70 (by decide) h (fun _ h => ?_) (fun _ h => ?_)
  · refine o_lload C 0 dX12_whole_82 rfl ?_
    exact o_lret C hQ dX12_whole_84 h hx8 hμ6
  · refine o_lload C 0 dX12_whole_73 rfl ?_
    refine o_ldc2 (v := 4611685975477714963) C lkc_RX12_198 rfl dX12_whole_75 ?_
    refine o_lsub C dX12_whole_78 ?_
    refine o_goto (tgt := 84) C dX12_whole_79 (by decide) ?_
    exact o_lret C hQ dX12_whole_84 h (r64_w _) hμ6
theorem c_X12_whole {z1 : Int} (hz1 : r32 z1) {μ : GM} (hμ : gRg μ) {u : Int × GM} (h : f_X12_whole z1 μ = some u) : MtL 2 yX12_whole cX12_whole 10 (some .long) (fun ad => [.ref (ad 53), vI z1]) μ u := MtL.of pf_X12_whole (fun _ => Nat.le_of_ble_eq_true rfl) (fun G C hQ => w_X12_whole_0 C hQ hz1 hμ h)
