def f_X12_in (z0 : Int) (z2 : Int) (z4 : Int) (μ : GM) : Option (Int × GM) :=
  if z0 < z2 then
    some (0 % 2, μ)
  else
    if z4 < z0 then
      some (0 % 2, μ)
    else
      some (1 % 2, μ)
set_option maxHeartbeats 4000000 in
set_option maxRecDepth 100000 in
theorem w_X12_in_0 {G : GX} {u : Int × GM} (C : CX G 0 cX12_in 6 RX12) (hQ : gQI G (some .boolean) u) {z0 : Int} (hz0 : r64 z0) {z2 : Int} (hz2 : r64 z2) {z4 : Int} (hz4 : r64 z4) {μ : GM} (hμ : gRg μ) (h : f_X12_in z0 z2 z4 μ = some u) : WM G 6 μ 0 [(0, vJ z0), (2, vJ z2), (4, vJ z4)] [] := by
  unfold f_X12_in at h
  refine o_lload_n C 0 dX12_in_0 rfl rfl ?_
  refine o_lload_n C 1 dX12_in_1 rfl rfl ?_
  refine o_lcmp_lt (tgt := 17) C hz0 hz2 dX12_in_2 dX12_in_3 (by decide) h (fun _ h => ?_) (fun _ h => ?_)
  · refine o_iconst C dX12_in_17 ?_
    exact o_zret C hQ dX12_in_18 h hμ
  · refine o_lload_n C 0 dX12_in_6 rfl rfl ?_
    refine o_lload C 2 dX12_in_7 rfl ?_
    refine o_lcmp_gt (tgt := 17) C hz0 hz4 dX12_in_9 dX12_in_10 (by decide) h (fun _ h => ?_) (fun _ h => ?_)
    · refine o_iconst C dX12_in_17 ?_
      exact o_zret C hQ dX12_in_18 h hμ
    · refine o_iconst C dX12_in_13 ?_
      refine o_goto (tgt := 18) C dX12_in_14 (by decide) ?_
      exact o_zret C hQ dX12_in_18 h hμ
theorem c_X12_in {z0 : Int} (hz0 : r64 z0) {z2 : Int} (hz2 : r64 z2) {z4 : Int} (hz4 : r64 z4) {μ : GM} (hμ : gRg μ) {u : Int × GM} (h : f_X12_in z0 z2 z4 μ = some u) : MtI 0 yX12_in cX12_in 6 (some .boolean) (fun ad => [vJ z0, vJ z2, vJ z4]) μ u := MtI.of pf_X12_in (fun _ => Nat.le_of_ble_eq_true rfl) (fun G C hQ => w_X12_in_0 C hQ hz0 hz2 hz4 hμ h)
def f_X12_noCell (z1 : Int) (μ : GM) : Option (Int × GM) :=
  bd (f_X12_in z1 0 (w32 ((μ.2 53 1) - 1)) μ) fun x1 μ2 =>
  if x1 = 0 then
    some (1 % 2, μ2)
  else
    some (0 % 2, μ2)
set_option maxHeartbeats 4000000 in
set_option maxRecDepth 100000 in
theorem w_X12_noCell_0 {G : GX} {u : Int × GM} (C : CX G 1 cX12_noCell 2 RX12) (hQ : gQI G (some .boolean) u) {z1 : Int} (hz1 : r32 z1) {μ : GM} (hμ : gRg μ) (h : f_X12_noCell z1 μ = some u) : WM G 2 μ 0 [(0, gR G 53), (1, vI z1)] [] := by
  unfold f_X12_noCell at h
  refine o_iload_n C 1 dX12_noCell_0 rfl rfl ?_
  refine o_i2l C hz1 dX12_noCell_1 ?_
  refine o_lconst (v := 0) C dX12_noCell_2 rfl ?_
  refine o_aload_n C 0 dX12_noCell_3 rfl rfl ?_
  refine o_getI (j := 1) C kt_53 rfl rfl (Nat.le_of_ble_eq_true rfl) lkf_RX12_137 dX12_noCell_4 ?_
  refine o_iconst C dX12_noCell_7 ?_
  refine o_isub C dX12_noCell_8 ?_
  refine o_i2l C (r32_w _) dX12_noCell_9 ?_
  refine o_cSI C [vJ z1, vJ 0, vJ (w32 ((μ.2 53 1) - 1))] mb_X12_in (by decide) (fun _ hu => c_X12_in (r32_r64 hz1) ⟨by decide, by decide⟩ (r32_r64 (r32_w _)) hμ hu) rfl (Nat.le_of_ble_eq_true rfl) h ms_X12_in lkm_RX12_140 rfl rfl dX12_noCell_10 (fun x1 μ2 hx1 hμ2 h => ?_)
  refine o_if_ne (tgt := 20) C hx1 dX12_noCell_13 (by decide) h (fun _ h => ?_) (fun _ h => ?_)
  · refine o_iconst C dX12_noCell_20 ?_
    exact o_zret C hQ dX12_noCell_21 h hμ2
  · refine o_iconst C dX12_noCell_16 ?_
    refine o_goto (tgt := 21) C dX12_noCell_17 (by decide) ?_
    exact o_zret C hQ dX12_noCell_21 h hμ2
theorem c_X12_noCell {z1 : Int} (hz1 : r32 z1) {μ : GM} (hμ : gRg μ) {u : Int × GM} (h : f_X12_noCell z1 μ = some u) : MtI 1 yX12_noCell cX12_noCell 2 (some .boolean) (fun ad => [.ref (ad 53), vI z1]) μ u := MtI.of pf_X12_noCell (fun _ => Nat.le_of_ble_eq_true rfl) (fun G C hQ => w_X12_noCell_0 C hQ hz1 hμ h)
def f_X12_noWell (z1 : Int) (μ : GM) : Option (Int × GM) :=
  bd (f_X12_in z1 0 (w32 ((μ.2 53 18) - 1)) μ) fun x1 μ2 =>
  if x1 = 0 then
    some (1 % 2, μ2)
  else
    some (0 % 2, μ2)
set_option maxHeartbeats 4000000 in
set_option maxRecDepth 100000 in
theorem w_X12_noWell_0 {G : GX} {u : Int × GM} (C : CX G 1 cX12_noWell 2 RX12) (hQ : gQI G (some .boolean) u) {z1 : Int} (hz1 : r32 z1) {μ : GM} (hμ : gRg μ) (h : f_X12_noWell z1 μ = some u) : WM G 2 μ 0 [(0, gR G 53), (1, vI z1)] [] := by
  unfold f_X12_noWell at h
  refine o_iload_n C 1 dX12_noWell_0 rfl rfl ?_
  refine o_i2l C hz1 dX12_noWell_1 ?_
  refine o_lconst (v := 0) C dX12_noWell_2 rfl ?_
  refine o_aload_n C 0 dX12_noWell_3 rfl rfl ?_
  refine o_getI (j := 18) C kt_53 rfl rfl (Nat.le_of_ble_eq_true rfl) lkf_RX12_144 dX12_noWell_4 ?_
  refine o_iconst C dX12_noWell_7 ?_
  refine o_isub C dX12_noWell_8 ?_
  refine o_i2l C (r32_w _) dX12_noWell_9 ?_
  refine o_cSI C [vJ z1, vJ 0, vJ (w32 ((μ.2 53 18) - 1))] mb_X12_in (by decide) (fun _ hu => c_X12_in (r32_r64 hz1) ⟨by decide, by decide⟩ (r32_r64 (r32_w _)) hμ hu) rfl (Nat.le_of_ble_eq_true rfl) h ms_X12_in lkm_RX12_140 rfl rfl dX12_noWell_10 (fun x1 μ2 hx1 hμ2 h => ?_)
  refine o_if_ne (tgt := 20) C hx1 dX12_noWell_13 (by decide) h (fun _ h => ?_) (fun _ h => ?_)
  · refine o_iconst C dX12_noWell_20 ?_
    exact o_zret C hQ dX12_noWell_21 h hμ2
  · refine o_iconst C dX12_noWell_16 ?_
    refine o_goto (tgt := 21) C dX12_noWell_17 (by decide) ?_
    exact o_zret C hQ dX12_noWell_21 h hμ2
theorem c_X12_noWell {z1 : Int} (hz1 : r32 z1) {μ : GM} (hμ : gRg μ) {u : Int × GM} (h : f_X12_noWell z1 μ = some u) : MtI 1 yX12_noWell cX12_noWell 2 (some .boolean) (fun ad => [.ref (ad 53), vI z1]) μ u := MtI.of pf_X12_noWell (fun _ => Nat.le_of_ble_eq_true rfl) (fun G C hQ => w_X12_noWell_0 C hQ hz1 hμ h)
def f_X12_down (z0 : Int) (z2 : Int) (μ : GM) : Option (Int × GM) :=
  ck (z2 ≠ 0) (
  lt (Int.tmod z0 z2) fun x1 =>
  if x1 < 0 then
    ck (z2 ≠ 0) (
    some ((w64 (Int.tdiv (w64 (z0 - (w64 (x1 + z2)))) z2)), μ))
  else
    ck (z2 ≠ 0) (
    some ((w64 (Int.tdiv (w64 (z0 - x1)) z2)), μ)))
set_option maxHeartbeats 4000000 in
set_option maxRecDepth 100000 in
theorem w_X12_down_0 {G : GX} {u : Int × GM} (C : CX G 0 cX12_down 6 RX12) (hQ : gQL G (some .long) u) {z0 : Int} (hz0 : r64 z0) {z2 : Int} (hz2 : r64 z2) {μ : GM} (hμ : gRg μ) (h : f_X12_down z0 z2 μ = some u) : WM G 6 μ 0 [(0, vJ z0), (2, vJ z2)] [] := by
  unfold f_X12_down at h
  refine o_lload_n C 0 dX12_down_0 rfl rfl ?_
  refine o_lload_n C 1 dX12_down_1 rfl rfl ?_
  refine o_lrem C hz0 hz2 dX12_down_2 h (fun h => ?_)
  refine o_ltl h (r64_rem _ hz0) (fun x1 hx1 h => ?_)
  refine o_lstore (lv2 := [(4, vJ x1), (0, vJ z0), (2, vJ z2)]) C dX12_down_3 (by decide) rfl ?_
  refine o_lload_n C 1 dX12_down_5 rfl rfl ?_
  refine o_lload C 0 dX12_down_6 rfl ?_
  refine o_lconst (v := 0) C dX12_down_8 rfl ?_
  refine o_lcmp_ge (tgt := 20) C hx1 ⟨by decide, by decide⟩ dX12_down_9 dX12_down_10 (by decide) h (fun _ h => ?_) (fun _ h => ?_)
  · refine o_lload C 0 dX12_down_20 rfl ?_
    refine o_lsub C dX12_down_22 ?_
    refine o_lload_n C 2 dX12_down_23 rfl rfl ?_
    refine o_ldiv C (r64_w _) hz2 dX12_down_24 h (fun h => ?_)
    exact o_lret C hQ dX12_down_25 h (r64_w _) hμ
  · refine o_lload C 0 dX12_down_13 rfl ?_
    refine o_lload_n C 2 dX12_down_15 rfl rfl ?_
    refine o_ladd C dX12_down_16 ?_
    refine o_goto (tgt := 22) C dX12_down_17 (by decide) ?_
    refine o_lsub C dX12_down_22 ?_
    refine o_lload_n C 2 dX12_down_23 rfl rfl ?_
    refine o_ldiv C (r64_w _) hz2 dX12_down_24 h (fun h => ?_)
    exact o_lret C hQ dX12_down_25 h (r64_w _) hμ
theorem c_X12_down {z0 : Int} (hz0 : r64 z0) {z2 : Int} (hz2 : r64 z2) {μ : GM} (hμ : gRg μ) {u : Int × GM} (h : f_X12_down z0 z2 μ = some u) : MtL 0 yX12_down cX12_down 6 (some .long) (fun ad => [vJ z0, vJ z2]) μ u := MtL.of pf_X12_down (fun _ => Nat.le_of_ble_eq_true rfl) (fun G C hQ => w_X12_down_0 C hQ hz0 hz2 hμ h)
def k_X12_common_28 : Nat → Int → Int → GM → Option (Int × GM)
  | 0, _, _, _ => none
  | n + 1, z4, z6, μ =>
    if z6 = 0 then
      if z4 = 0 then
        some (1, μ)
      else
        some (z4, μ)
    else
      ck (z6 ≠ 0) (
      lt (Int.tmod z4 z6) fun x1 =>
      k_X12_common_28 n z6 x1 μ)
set_option maxHeartbeats 4000000 in
set_option maxRecDepth 100000 in
theorem w_X12_common_28 {G : GX} {u : Int × GM} (C : CX G 0 cX12_common 10 RX12) (hQ : gQL G (some .long) u) : ∀ (n : Nat) (z4 : Int) (hz4 : r64 z4) (z6 : Int) (hz6 : r64 z6) (μ : GM) (hμ : gRg μ), k_X12_common_28 n z4 z6 μ = some u → WM G 10 μ 28 [(4, vJ z4), (6, vJ z6)] [] := by
  intro n
  induction n with
  | zero =>
    intro z4 hz4 z6 hz6 μ hμ h
    cases h
  | succ n ih =>
    intro z4 hz4 z6 hz6 μ hμ h
    rw [k_X12_common_28] at h
    refine o_lload C 1 dX12_common_28 rfl ?_
    refine o_lconst (v := 0) C dX12_common_30 rfl ?_
    refine o_lcmp_eq (tgt := 53) C hz6 ⟨by decide, by decide⟩ dX12_common_31 dX12_common_32 (by decide) h (fun _ h => ?_) (fun _ h => ?_)
    · refine o_lload C 0 dX12_common_53 rfl ?_
      refine o_lconst (v := 0) C dX12_common_55 rfl ?_
      refine o_lcmp_ne (tgt := 64) C hz4 ⟨by decide, by decide⟩ dX12_common_56 dX12_common_57 (by decide) h (fun _ h => ?_) (fun _ h => ?_)
      · refine o_lload C 0 dX12_common_64 rfl ?_
        exact o_lret C hQ dX12_common_66 h hz4 hμ
      · refine o_lconst (v := 1) C dX12_common_60 rfl ?_
        refine o_goto (tgt := 66) C dX12_common_61 (by decide) ?_
        exact o_lret C hQ dX12_common_66 h ⟨by decide, by decide⟩ hμ
    · refine o_lload C 0 dX12_common_35 rfl ?_
      refine o_lload C 1 dX12_common_37 rfl ?_
      refine o_lrem C hz4 hz6 dX12_common_39 h (fun h => ?_)
      refine o_ltl h (r64_rem _ hz4) (fun x1 hx1 h => ?_)
      refine o_lstore (lv2 := [(8, vJ x1), (4, vJ z4), (6, vJ z6)]) C dX12_common_40 (by decide) rfl ?_
      refine o_lload C 2 dX12_common_42 rfl ?_
      refine o_lstore (lv2 := [(4, vJ z6), (8, vJ x1), (6, vJ z6)]) C dX12_common_44 (by decide) rfl ?_
      refine o_lload C 1 dX12_common_46 rfl ?_
      refine o_lstore (lv2 := [(6, vJ x1), (4, vJ z6), (8, vJ x1)]) C dX12_common_48 (by decide) rfl ?_
      refine o_goto (tgt := 28) C dX12_common_50 (by decide) ?_
      exact WM.sub [1, 0] rfl (ih z6 hz6 x1 hx1 μ hμ h)
def k_X12_common_12 (z2 : Int) (s0 : Int) (μ : GM) : Option (Int × GM) :=
  if z2 < 0 then
    lt (w64 (-z2)) fun x1 =>
    k_X12_common_28 FU s0 x1 μ
  else
    k_X12_common_28 FU s0 z2 μ
set_option maxHeartbeats 4000000 in
set_option maxRecDepth 100000 in
theorem w_X12_common_12 {G : GX} {u : Int × GM} (C : CX G 0 cX12_common 10 RX12) (hQ : gQL G (some .long) u) {z2 : Int} (hz2 : r64 z2) {s0 : Int} (hs0 : r64 s0) {μ : GM} (hμ : gRg μ) (h : k_X12_common_12 z2 s0 μ = some u) : WM G 10 μ 12 [(2, vJ z2)] [vJ s0] := by
  unfold k_X12_common_12 at h
  refine o_lstore (lv2 := [(4, vJ s0), (2, vJ z2)]) C dX12_common_12 (by decide) rfl ?_
  refine o_lload_n C 1 dX12_common_14 rfl rfl ?_
  refine o_lconst (v := 0) C dX12_common_15 rfl ?_
  refine o_lcmp_ge (tgt := 25) C hz2 ⟨by decide, by decide⟩ dX12_common_16 dX12_common_17 (by decide) h (fun _ h => ?_) (fun _ h => ?_)
  · refine o_lload_n C 1 dX12_common_25 rfl rfl ?_
    refine o_lstore (lv2 := [(6, vJ z2), (4, vJ s0), (2, vJ z2)]) C dX12_common_26 (by decide) rfl ?_
    exact WM.sub [1, 0] rfl (w_X12_common_28 C hQ FU s0 hs0 z2 hz2 μ hμ h)
  · refine o_lload_n C 1 dX12_common_20 rfl rfl ?_
    refine o_lneg C dX12_common_21 ?_
    refine o_goto (tgt := 26) C dX12_common_22 (by decide) ?_
    refine o_ltl h (r64_w _) (fun x1 hx1 h => ?_)
    refine o_lstore (lv2 := [(6, vJ x1), (4, vJ s0), (2, vJ z2)]) C dX12_common_26 (by decide) rfl ?_
    exact WM.sub [1, 0] rfl (w_X12_common_28 C hQ FU s0 hs0 x1 hx1 μ hμ h)
def f_X12_common (z0 : Int) (z2 : Int) (μ : GM) : Option (Int × GM) :=
  if z0 < 0 then
    k_X12_common_12 z2 (w64 (-z0)) μ
  else
    k_X12_common_12 z2 z0 μ
set_option maxHeartbeats 4000000 in
set_option maxRecDepth 100000 in
theorem w_X12_common_0 {G : GX} {u : Int × GM} (C : CX G 0 cX12_common 10 RX12) (hQ : gQL G (some .long) u) {z0 : Int} (hz0 : r64 z0) {z2 : Int} (hz2 : r64 z2) {μ : GM} (hμ : gRg μ) (h : f_X12_common z0 z2 μ = some u) : WM G 10 μ 0 [(0, vJ z0), (2, vJ z2)] [] := by
  unfold f_X12_common at h
  refine o_lload_n C 0 dX12_common_0 rfl rfl ?_
  refine o_lconst (v := 0) C dX12_common_1 rfl ?_
  refine o_lcmp_ge (tgt := 11) C hz0 ⟨by decide, by decide⟩ dX12_common_2 dX12_common_3 (by decide) h (fun _ h => ?_) (fun _ h => ?_)
  · refine o_lload_n C 0 dX12_common_11 rfl rfl ?_
    exact WM.sub [1] rfl (w_X12_common_12 C hQ hz2 hz0 hμ h)
  · refine o_lload_n C 0 dX12_common_6 rfl rfl ?_
    refine o_lneg C dX12_common_7 ?_
    refine o_goto (tgt := 12) C dX12_common_8 (by decide) ?_
    exact WM.sub [1] rfl (w_X12_common_12 C hQ hz2 (r64_w _) hμ h)
theorem c_X12_common {z0 : Int} (hz0 : r64 z0) {z2 : Int} (hz2 : r64 z2) {μ : GM} (hμ : gRg μ) {u : Int × GM} (h : f_X12_common z0 z2 μ = some u) : MtL 0 yX12_common cX12_common 10 (some .long) (fun ad => [vJ z0, vJ z2]) μ u := MtL.of pf_X12_common (fun _ => Nat.le_of_ble_eq_true rfl) (fun G C hQ => w_X12_common_0 C hQ hz0 hz2 hμ h)
def f_X12_cell (z1 : Int) (z2 : Int) (z3 : Int) (μ : GM) : Option (Int × GM) :=
  lm (gF μ 53 0 0) fun μ1 =>
  bd (f_X12_in z1 0 500 μ1) fun x2 μ3 =>
  if x2 = 0 then
    some ((-10000002), μ3)
  else
    bd (f_X12_in z2 0 99 μ3) fun x4 μ5 =>
    if x4 = 0 then
      some ((-10000002), μ5)
    else
      bd (f_X12_in z3 1 9 μ5) fun x6 μ7 =>
      if x6 = 0 then
        some ((-10000002), μ7)
      else
        if (μ7.2 53 1) = 6 then
          some ((-10000004), μ7)
        else
          ck (0 ≤ (μ7.2 53 1) ∧ (μ7.2 53 1) < 6) (lm (gA μ7 54 (μ7.2 53 1) z1) fun μ8 =>
          ck (0 ≤ (μ8.2 53 1) ∧ (μ8.2 53 1) < 6) (lm (gA μ8 55 (μ8.2 53 1) z2) fun μ9 =>
          ck (0 ≤ (μ9.2 53 1) ∧ (μ9.2 53 1) < 6) (lm (gA μ9 56 (μ9.2 53 1) z3) fun μ10 =>
          lm (gF μ10 53 1 (w32 ((μ10.2 53 1) + 1))) fun μ11 =>
          some ((w32 ((μ11.2 53 1) - 1)), μ11))))
set_option maxHeartbeats 4000000 in
set_option maxRecDepth 100000 in
theorem w_X12_cell_0 {G : GX} {u : Int × GM} (C : CX G 1 cX12_cell 4 RX12) (hQ : gQI G (some .int) u) {z1 : Int} (hz1 : r32 z1) {z2 : Int} (hz2 : r32 z2) {z3 : Int} (hz3 : r32 z3) {μ : GM} (hμ : gRg μ) (h : f_X12_cell z1 z2 z3 μ = some u) : WM G 4 μ 0 [(0, gR G 53), (1, vI z1), (2, vI z2), (3, vI z3)] [] := by
  unfold f_X12_cell at h
  refine o_aload_n C 0 dX12_cell_0 rfl rfl ?_
  refine o_iconst C dX12_cell_1 ?_
  refine o_putI (j := 0) C kt_53 rfl rfl tyX12_ok nmX12 (Nat.le_of_ble_eq_true rfl) lkf_RX12_133 rfl rfl ⟨by decide, by decide⟩ hμ dX12_cell_2 h (fun μ1 hμ1 h => ?_)
  refine o_iload_n C 1 dX12_cell_5 rfl rfl ?_
  refine o_i2l C hz1 dX12_cell_6 ?_
  refine o_lconst (v := 0) C dX12_cell_7 rfl ?_
  refine o_ldc2 (v := 500) C lkc_RX12_147 rfl dX12_cell_8 ?_
  refine o_cSI C [vJ z1, vJ 0, vJ 500] mb_X12_in (by decide) (fun _ hu => c_X12_in (r32_r64 hz1) ⟨by decide, by decide⟩ ⟨by decide, by decide⟩ hμ1 hu) rfl (Nat.le_of_ble_eq_true rfl) h ms_X12_in lkm_RX12_140 rfl rfl dX12_cell_11 (fun x2 μ3 hx2 hμ3 h => ?_)
  refine o_if_eq (tgt := 41) C hx2 dX12_cell_14 (by decide) h (fun _ h => ?_) (fun _ h => ?_)
  · refine o_ldc (v := (-10000002)) C lkc_RX12_153 rfl dX12_cell_41 ?_
    exact o_iret C hQ dX12_cell_43 h ⟨by decide, by decide⟩ hμ3
  · refine o_iload_n C 2 dX12_cell_17 rfl rfl ?_
    refine o_i2l C hz2 dX12_cell_18 ?_
    refine o_lconst (v := 0) C dX12_cell_19 rfl ?_
    refine o_ldc2 (v := 99) C lkc_RX12_149 rfl dX12_cell_20 ?_
    refine o_cSI C [vJ z2, vJ 0, vJ 99] mb_X12_in (by decide) (fun _ hu => c_X12_in (r32_r64 hz2) ⟨by decide, by decide⟩ ⟨by decide, by decide⟩ hμ3 hu) rfl (Nat.le_of_ble_eq_true rfl) h ms_X12_in lkm_RX12_140 rfl rfl dX12_cell_23 (fun x4 μ5 hx4 hμ5 h => ?_)
    refine o_if_eq (tgt := 41) C hx4 dX12_cell_26 (by decide) h (fun _ h => ?_) (fun _ h => ?_)
    · refine o_ldc (v := (-10000002)) C lkc_RX12_153 rfl dX12_cell_41 ?_
      exact o_iret C hQ dX12_cell_43 h ⟨by decide, by decide⟩ hμ5
    · refine o_iload_n C 3 dX12_cell_29 rfl rfl ?_
      refine o_i2l C hz3 dX12_cell_30 ?_
      refine o_lconst (v := 1) C dX12_cell_31 rfl ?_
      refine o_ldc2 (v := 9) C lkc_RX12_151 rfl dX12_cell_32 ?_
      refine o_cSI C [vJ z3, vJ 1, vJ 9] mb_X12_in (by decide) (fun _ hu => c_X12_in (r32_r64 hz3) ⟨by decide, by decide⟩ ⟨by decide, by decide⟩ hμ5 hu) rfl (Nat.le_of_ble_eq_true rfl) h ms_X12_in lkm_RX12_140 rfl rfl dX12_cell_35 (fun x6 μ7 hx6 hμ7 h => ?_)
      refine o_if_ne (tgt := 44) C hx6 dX12_cell_38 (by decide) h (fun _ h => ?_) (fun _ h => ?_)
      · refine o_aload_n C 0 dX12_cell_44 rfl rfl ?_
        refine o_getI (j := 1) C kt_53 rfl rfl (Nat.le_of_ble_eq_true rfl) lkf_RX12_137 dX12_cell_45 ?_
        refine o_bipush (v := 6) C dX12_cell_48 (by decide) ?_
        refine o_icmp_ne (tgt := 56) C (hμ7.fi kt_53 rfl (by decide)) ⟨by decide, by decide⟩ dX12_cell_50 (by decide) h (fun _ h => ?_) (fun _ h => ?_)
        · refine o_aload_n C 0 dX12_cell_56 rfl rfl ?_
          refine o_getR (j := 2) C kt_53 rfl rfl (Nat.le_of_ble_eq_true rfl) lkf_RX12_7 dX12_cell_57 ?_
          refine o_aload_n C 0 dX12_cell_60 rfl rfl ?_
          refine o_getI (j := 1) C kt_53 rfl rfl (Nat.le_of_ble_eq_true rfl) lkf_RX12_137 dX12_cell_61 ?_
          refine o_iload_n C 1 dX12_cell_64 rfl rfl ?_
          refine o_iast C kt_54 rfl (hμ7.fi kt_53 rfl (by decide)) hz1 hμ7 dX12_cell_65 h (fun μ8 hμ8 h => ?_)
          refine o_aload_n C 0 dX12_cell_66 rfl rfl ?_
          refine o_getR (j := 3) C kt_53 rfl rfl (Nat.le_of_ble_eq_true rfl) lkf_RX12_13 dX12_cell_67 ?_
          refine o_aload_n C 0 dX12_cell_70 rfl rfl ?_
          refine o_getI (j := 1) C kt_53 rfl rfl (Nat.le_of_ble_eq_true rfl) lkf_RX12_137 dX12_cell_71 ?_
          refine o_iload_n C 2 dX12_cell_74 rfl rfl ?_
          refine o_iast C kt_55 rfl (hμ8.fi kt_53 rfl (by decide)) hz2 hμ8 dX12_cell_75 h (fun μ9 hμ9 h => ?_)
          refine o_aload_n C 0 dX12_cell_76 rfl rfl ?_
          refine o_getR (j := 4) C kt_53 rfl rfl (Nat.le_of_ble_eq_true rfl) lkf_RX12_16 dX12_cell_77 ?_
          refine o_aload_n C 0 dX12_cell_80 rfl rfl ?_
          refine o_getI (j := 1) C kt_53 rfl rfl (Nat.le_of_ble_eq_true rfl) lkf_RX12_137 dX12_cell_81 ?_
          refine o_iload_n C 3 dX12_cell_84 rfl rfl ?_
          refine o_iast C kt_56 rfl (hμ9.fi kt_53 rfl (by decide)) hz3 hμ9 dX12_cell_85 h (fun μ10 hμ10 h => ?_)
          refine o_aload_n C 0 dX12_cell_86 rfl rfl ?_
          refine o_dupr C dX12_cell_87 ?_
          refine o_getI (j := 1) C kt_53 rfl rfl (Nat.le_of_ble_eq_true rfl) lkf_RX12_137 dX12_cell_88 ?_
          refine o_iconst C dX12_cell_91 ?_
          refine o_iadd C dX12_cell_92 ?_
          refine o_putI (j := 1) C kt_53 rfl rfl tyX12_ok nmX12 (Nat.le_of_ble_eq_true rfl) lkf_RX12_137 rfl rfl (r32_w _) hμ10 dX12_cell_93 h (fun μ11 hμ11 h => ?_)
          refine o_aload_n C 0 dX12_cell_96 rfl rfl ?_
          refine o_getI (j := 1) C kt_53 rfl rfl (Nat.le_of_ble_eq_true rfl) lkf_RX12_137 dX12_cell_97 ?_
          refine o_iconst C dX12_cell_100 ?_
          refine o_isub C dX12_cell_101 ?_
          exact o_iret C hQ dX12_cell_102 h (r32_w _) hμ11
        · refine o_ldc (v := (-10000004)) C lkc_RX12_154 rfl dX12_cell_53 ?_
          exact o_iret C hQ dX12_cell_55 h ⟨by decide, by decide⟩ hμ7
      · refine o_ldc (v := (-10000002)) C lkc_RX12_153 rfl dX12_cell_41 ?_
        exact o_iret C hQ dX12_cell_43 h ⟨by decide, by decide⟩ hμ7
theorem c_X12_cell {z1 : Int} (hz1 : r32 z1) {z2 : Int} (hz2 : r32 z2) {z3 : Int} (hz3 : r32 z3) {μ : GM} (hμ : gRg μ) {u : Int × GM} (h : f_X12_cell z1 z2 z3 μ = some u) : MtI 1 yX12_cell cX12_cell 4 (some .int) (fun ad => [.ref (ad 53), vI z1, vI z2, vI z3]) μ u := MtI.of pf_X12_cell (fun _ => Nat.le_of_ble_eq_true rfl) (fun G C hQ => w_X12_cell_0 C hQ hz1 hz2 hz3 hμ h)
def f_X12_noEase (z0 : Int) (μ : GM) : Option (Int × GM) :=
  bd (f_X12_in z0 1 9 μ) fun x1 μ2 =>
  if x1 = 0 then
    some (1 % 2, μ2)
  else
    some (0 % 2, μ2)
set_option maxHeartbeats 4000000 in
set_option maxRecDepth 100000 in
theorem w_X12_noEase_0 {G : GX} {u : Int × GM} (C : CX G 1 cX12_noEase 1 RX12) (hQ : gQI G (some .boolean) u) {z0 : Int} (hz0 : r32 z0) {μ : GM} (hμ : gRg μ) (h : f_X12_noEase z0 μ = some u) : WM G 1 μ 0 [(0, vI z0)] [] := by
  unfold f_X12_noEase at h
  refine o_iload_n C 0 dX12_noEase_0 rfl rfl ?_
  refine o_i2l C hz0 dX12_noEase_1 ?_
  refine o_lconst (v := 1) C dX12_noEase_2 rfl ?_
  refine o_ldc2 (v := 9) C lkc_RX12_151 rfl dX12_noEase_3 ?_
  refine o_cSI C [vJ z0, vJ 1, vJ 9] mb_X12_in (by decide) (fun _ hu => c_X12_in (r32_r64 hz0) ⟨by decide, by decide⟩ ⟨by decide, by decide⟩ hμ hu) rfl (Nat.le_of_ble_eq_true rfl) h ms_X12_in lkm_RX12_140 rfl rfl dX12_noEase_6 (fun x1 μ2 hx1 hμ2 h => ?_)
  refine o_if_ne (tgt := 16) C hx1 dX12_noEase_9 (by decide) h (fun _ h => ?_) (fun _ h => ?_)
  · refine o_iconst C dX12_noEase_16 ?_
    exact o_zret C hQ dX12_noEase_17 h hμ2
  · refine o_iconst C dX12_noEase_12 ?_
    refine o_goto (tgt := 17) C dX12_noEase_13 (by decide) ?_
    exact o_zret C hQ dX12_noEase_17 h hμ2
theorem c_X12_noEase {z0 : Int} (hz0 : r32 z0) {μ : GM} (hμ : gRg μ) {u : Int × GM} (h : f_X12_noEase z0 μ = some u) : MtI 1 yX12_noEase cX12_noEase 1 (some .boolean) (fun ad => [vI z0]) μ u := MtI.of pf_X12_noEase (fun _ => Nat.le_of_ble_eq_true rfl) (fun G C hQ => w_X12_noEase_0 C hQ hz0 hμ h)
def f_X12_link (z1 : Int) (z2 : Int) (z3 : Int) (μ : GM) : Option (Int × GM) :=
  lm (gF μ 53 0 0) fun μ1 =>
  bd (f_X12_noCell z1 μ1) fun x2 μ3 =>
  if x2 = 0 then
    bd (f_X12_noCell z2 μ3) fun x4 μ5 =>
    if x4 = 0 then
      bd (f_X12_noEase z3 μ5) fun x6 μ7 =>
      if x6 = 0 then
        if z1 = z2 then
          some ((-10000003), μ7)
        else
          if (μ7.2 53 5) = 12 then
            some ((-10000004), μ7)
          else
            ck (0 ≤ (μ7.2 53 5) ∧ (μ7.2 53 5) < 12) (lm (gA μ7 57 (μ7.2 53 5) z1) fun μ8 =>
            ck (0 ≤ (μ8.2 53 5) ∧ (μ8.2 53 5) < 12) (lm (gA μ8 58 (μ8.2 53 5) z2) fun μ9 =>
            ck (0 ≤ (μ9.2 53 5) ∧ (μ9.2 53 5) < 12) (lm (gA μ9 59 (μ9.2 53 5) z3) fun μ10 =>
            lm (gF μ10 53 5 (w32 ((μ10.2 53 5) + 1))) fun μ11 =>
            some ((w32 ((μ11.2 53 5) - 1)), μ11))))
      else
        some ((-10000002), μ7)
    else
      some ((-10000001), μ5)
  else
    some ((-10000001), μ3)
set_option maxHeartbeats 4000000 in
set_option maxRecDepth 100000 in
theorem w_X12_link_0 {G : GX} {u : Int × GM} (C : CX G 2 cX12_link 4 RX12) (hQ : gQI G (some .int) u) {z1 : Int} (hz1 : r32 z1) {z2 : Int} (hz2 : r32 z2) {z3 : Int} (hz3 : r32 z3) {μ : GM} (hμ : gRg μ) (h : f_X12_link z1 z2 z3 μ = some u) : WM G 4 μ 0 [(0, gR G 53), (1, vI z1), (2, vI z2), (3, vI z3)] [] := by
  unfold f_X12_link at h
  refine o_aload_n C 0 dX12_link_0 rfl rfl ?_
  refine o_iconst C dX12_link_1 ?_
  refine o_putI (j := 0) C kt_53 rfl rfl tyX12_ok nmX12 (Nat.le_of_ble_eq_true rfl) lkf_RX12_133 rfl rfl ⟨by decide, by decide⟩ hμ dX12_link_2 h (fun μ1 hμ1 h => ?_)
  refine o_aload_n C 0 dX12_link_5 rfl rfl ?_
  refine o_iload_n C 1 dX12_link_6 rfl rfl ?_
  refine o_cVI C [vI z1] mb_X12_noCell (by decide) (fun _ hu => c_X12_noCell hz1 hμ1 hu) rfl (Nat.le_of_ble_eq_true rfl) h mi_X12_noCell me_X12_noCell lkm_RX12_155 kt_53 rfl rfl rfl dX12_link_7 (fun x2 μ3 hx2 hμ3 h => ?_)
  refine o_if_ne (tgt := 21) C hx2 dX12_link_10 (by decide) h (fun _ h => ?_) (fun _ h => ?_)
  · refine o_ldc (v := (-10000001)) C lkc_RX12_159 rfl dX12_link_21 ?_
    exact o_iret C hQ dX12_link_23 h ⟨by decide, by decide⟩ hμ3
  · refine o_aload_n C 0 dX12_link_13 rfl rfl ?_
    refine o_iload_n C 2 dX12_link_14 rfl rfl ?_
    refine o_cVI C [vI z2] mb_X12_noCell (by decide) (fun _ hu => c_X12_noCell hz2 hμ3 hu) rfl (Nat.le_of_ble_eq_true rfl) h mi_X12_noCell me_X12_noCell lkm_RX12_155 kt_53 rfl rfl rfl dX12_link_15 (fun x4 μ5 hx4 hμ5 h => ?_)
    refine o_if_eq (tgt := 24) C hx4 dX12_link_18 (by decide) h (fun _ h => ?_) (fun _ h => ?_)
    · refine o_iload_n C 3 dX12_link_24 rfl rfl ?_
      refine o_cSI C [vI z3] mb_X12_noEase (by decide) (fun _ hu => c_X12_noEase hz3 hμ5 hu) rfl (Nat.le_of_ble_eq_true rfl) h ms_X12_noEase lkm_RX12_160 rfl rfl dX12_link_25 (fun x6 μ7 hx6 hμ7 h => ?_)
      refine o_if_eq (tgt := 34) C hx6 dX12_link_28 (by decide) h (fun _ h => ?_) (fun _ h => ?_)
      · refine o_iload_n C 1 dX12_link_34 rfl rfl ?_
        refine o_iload_n C 2 dX12_link_35 rfl rfl ?_
        refine o_icmp_ne (tgt := 42) C hz1 hz2 dX12_link_36 (by decide) h (fun _ h => ?_) (fun _ h => ?_)
        · refine o_aload_n C 0 dX12_link_42 rfl rfl ?_
          refine o_getI (j := 5) C kt_53 rfl rfl (Nat.le_of_ble_eq_true rfl) lkf_RX12_164 dX12_link_43 ?_
          refine o_bipush (v := 12) C dX12_link_46 (by decide) ?_
          refine o_icmp_ne (tgt := 54) C (hμ7.fi kt_53 rfl (by decide)) ⟨by decide, by decide⟩ dX12_link_48 (by decide) h (fun _ h => ?_) (fun _ h => ?_)
          · refine o_aload_n C 0 dX12_link_54 rfl rfl ?_
            refine o_getR (j := 6) C kt_53 rfl rfl (Nat.le_of_ble_eq_true rfl) lkf_RX12_19 dX12_link_55 ?_
            refine o_aload_n C 0 dX12_link_58 rfl rfl ?_
            refine o_getI (j := 5) C kt_53 rfl rfl (Nat.le_of_ble_eq_true rfl) lkf_RX12_164 dX12_link_59 ?_
            refine o_iload_n C 1 dX12_link_62 rfl rfl ?_
            refine o_iast C kt_57 rfl (hμ7.fi kt_53 rfl (by decide)) hz1 hμ7 dX12_link_63 h (fun μ8 hμ8 h => ?_)
            refine o_aload_n C 0 dX12_link_64 rfl rfl ?_
            refine o_getR (j := 7) C kt_53 rfl rfl (Nat.le_of_ble_eq_true rfl) lkf_RX12_22 dX12_link_65 ?_
            refine o_aload_n C 0 dX12_link_68 rfl rfl ?_
            refine o_getI (j := 5) C kt_53 rfl rfl (Nat.le_of_ble_eq_true rfl) lkf_RX12_164 dX12_link_69 ?_
            refine o_iload_n C 2 dX12_link_72 rfl rfl ?_
            refine o_iast C kt_58 rfl (hμ8.fi kt_53 rfl (by decide)) hz2 hμ8 dX12_link_73 h (fun μ9 hμ9 h => ?_)
            refine o_aload_n C 0 dX12_link_74 rfl rfl ?_
            refine o_getR (j := 8) C kt_53 rfl rfl (Nat.le_of_ble_eq_true rfl) lkf_RX12_25 dX12_link_75 ?_
            refine o_aload_n C 0 dX12_link_78 rfl rfl ?_
            refine o_getI (j := 5) C kt_53 rfl rfl (Nat.le_of_ble_eq_true rfl) lkf_RX12_164 dX12_link_79 ?_
            refine o_iload_n C 3 dX12_link_82 rfl rfl ?_
            refine o_iast C kt_59 rfl (hμ9.fi kt_53 rfl (by decide)) hz3 hμ9 dX12_link_83 h (fun μ10 hμ10 h => ?_)
            refine o_aload_n C 0 dX12_link_84 rfl rfl ?_
            refine o_dupr C dX12_link_85 ?_
            refine o_getI (j := 5) C kt_53 rfl rfl (Nat.le_of_ble_eq_true rfl) lkf_RX12_164 dX12_link_86 ?_
            refine o_iconst C dX12_link_89 ?_
            refine o_iadd C dX12_link_90 ?_
            refine o_putI (j := 5) C kt_53 rfl rfl tyX12_ok nmX12 (Nat.le_of_ble_eq_true rfl) lkf_RX12_164 rfl rfl (r32_w _) hμ10 dX12_link_91 h (fun μ11 hμ11 h => ?_)
            refine o_aload_n C 0 dX12_link_94 rfl rfl ?_
            refine o_getI (j := 5) C kt_53 rfl rfl (Nat.le_of_ble_eq_true rfl) lkf_RX12_164 dX12_link_95 ?_
            refine o_iconst C dX12_link_98 ?_
            refine o_isub C dX12_link_99 ?_
            exact o_iret C hQ dX12_link_100 h (r32_w _) hμ11
          · refine o_ldc (v := (-10000004)) C lkc_RX12_154 rfl dX12_link_51 ?_
            exact o_iret C hQ dX12_link_53 h ⟨by decide, by decide⟩ hμ7
        · refine o_ldc (v := (-10000003)) C lkc_RX12_163 rfl dX12_link_39 ?_
          exact o_iret C hQ dX12_link_41 h ⟨by decide, by decide⟩ hμ7
      · refine o_ldc (v := (-10000002)) C lkc_RX12_153 rfl dX12_link_31 ?_
        exact o_iret C hQ dX12_link_33 h ⟨by decide, by decide⟩ hμ7
    · refine o_ldc (v := (-10000001)) C lkc_RX12_159 rfl dX12_link_21 ?_
      exact o_iret C hQ dX12_link_23 h ⟨by decide, by decide⟩ hμ5
theorem c_X12_link {z1 : Int} (hz1 : r32 z1) {z2 : Int} (hz2 : r32 z2) {z3 : Int} (hz3 : r32 z3) {μ : GM} (hμ : gRg μ) {u : Int × GM} (h : f_X12_link z1 z2 z3 μ = some u) : MtI 2 yX12_link cX12_link 4 (some .int) (fun ad => [.ref (ad 53), vI z1, vI z2, vI z3]) μ u := MtI.of pf_X12_link (fun _ => Nat.le_of_ble_eq_true rfl) (fun G C hQ => w_X12_link_0 C hQ hz1 hz2 hz3 hμ h)
def f_X12_river (z1 : Int) (z2 : Int) (z3 : Int) (z4 : Int) (μ : GM) : Option (Int × GM) :=
  lm (gF μ 53 0 0) fun μ1 =>
  bd (f_X12_noCell z1 μ1) fun x2 μ3 =>
  if x2 = 0 then
    bd (f_X12_in z2 0 1000 μ3) fun x4 μ5 =>
    if x4 = 0 then
      some ((-10000002), μ5)
    else
      bd (f_X12_in z3 0 z2 μ5) fun x6 μ7 =>
      if x6 = 0 then
        some ((-10000002), μ7)
      else
        bd (f_X12_noEase z4 μ7) fun x8 μ9 =>
        if x8 = 0 then
          if (μ9.2 53 9) = 3 then
            some ((-10000004), μ9)
          else
            ck (0 ≤ (μ9.2 53 9) ∧ (μ9.2 53 9) < 3) (lm (gA μ9 60 (μ9.2 53 9) z1) fun μ10 =>
            ck (0 ≤ (μ10.2 53 9) ∧ (μ10.2 53 9) < 3) (lm (gA μ10 61 (μ10.2 53 9) z2) fun μ11 =>
            ck (0 ≤ (μ11.2 53 9) ∧ (μ11.2 53 9) < 3) (lm (gA μ11 62 (μ11.2 53 9) z3) fun μ12 =>
            ck (0 ≤ (μ12.2 53 9) ∧ (μ12.2 53 9) < 3) (lm (gA μ12 63 (μ12.2 53 9) z4) fun μ13 =>
            lm (gF μ13 53 9 (w32 ((μ13.2 53 9) + 1))) fun μ14 =>
            some ((w32 ((μ14.2 53 9) - 1)), μ14)))))
        else
          some ((-10000002), μ9)
  else
    some ((-10000001), μ3)
set_option maxHeartbeats 4000000 in
set_option maxRecDepth 100000 in
theorem w_X12_river_0 {G : GX} {u : Int × GM} (C : CX G 2 cX12_river 5 RX12) (hQ : gQI G (some .int) u) {z1 : Int} (hz1 : r32 z1) {z2 : Int} (hz2 : r32 z2) {z3 : Int} (hz3 : r32 z3) {z4 : Int} (hz4 : r32 z4) {μ : GM} (hμ : gRg μ) (h : f_X12_river z1 z2 z3 z4 μ = some u) : WM G 5 μ 0 [(0, gR G 53), (1, vI z1), (2, vI z2), (3, vI z3), (4, vI z4)] [] := by
  unfold f_X12_river at h
  refine o_aload_n C 0 dX12_river_0 rfl rfl ?_
  refine o_iconst C dX12_river_1 ?_
  refine o_putI (j := 0) C kt_53 rfl rfl tyX12_ok nmX12 (Nat.le_of_ble_eq_true rfl) lkf_RX12_133 rfl rfl ⟨by decide, by decide⟩ hμ dX12_river_2 h (fun μ1 hμ1 h => ?_)
  refine o_aload_n C 0 dX12_river_5 rfl rfl ?_
  refine o_iload_n C 1 dX12_river_6 rfl rfl ?_
  refine o_cVI C [vI z1] mb_X12_noCell (by decide) (fun _ hu => c_X12_noCell hz1 hμ1 hu) rfl (Nat.le_of_ble_eq_true rfl) h mi_X12_noCell me_X12_noCell lkm_RX12_155 kt_53 rfl rfl rfl dX12_river_7 (fun x2 μ3 hx2 hμ3 h => ?_)
  refine o_if_eq (tgt := 16) C hx2 dX12_river_10 (by decide) h (fun _ h => ?_) (fun _ h => ?_)
  · refine o_iload_n C 2 dX12_river_16 rfl rfl ?_
    refine o_i2l C hz2 dX12_river_17 ?_
    refine o_lconst (v := 0) C dX12_river_18 rfl ?_
    refine o_ldc2 (v := 1000) C lkc_RX12_167 rfl dX12_river_19 ?_
    refine o_cSI C [vJ z2, vJ 0, vJ 1000] mb_X12_in (by decide) (fun _ hu => c_X12_in (r32_r64 hz2) ⟨by decide, by decide⟩ ⟨by decide, by decide⟩ hμ3 hu) rfl (Nat.le_of_ble_eq_true rfl) h ms_X12_in lkm_RX12_140 rfl rfl dX12_river_22 (fun x4 μ5 hx4 hμ5 h => ?_)
    refine o_if_eq (tgt := 47) C hx4 dX12_river_25 (by decide) h (fun _ h => ?_) (fun _ h => ?_)
    · refine o_ldc (v := (-10000002)) C lkc_RX12_153 rfl dX12_river_47 ?_
      exact o_iret C hQ dX12_river_49 h ⟨by decide, by decide⟩ hμ5
    · refine o_iload_n C 3 dX12_river_28 rfl rfl ?_
      refine o_i2l C hz3 dX12_river_29 ?_
      refine o_lconst (v := 0) C dX12_river_30 rfl ?_
      refine o_iload_n C 2 dX12_river_31 rfl rfl ?_
      refine o_i2l C hz2 dX12_river_32 ?_
      refine o_cSI C [vJ z3, vJ 0, vJ z2] mb_X12_in (by decide) (fun _ hu => c_X12_in (r32_r64 hz3) ⟨by decide, by decide⟩ (r32_r64 hz2) hμ5 hu) rfl (Nat.le_of_ble_eq_true rfl) h ms_X12_in lkm_RX12_140 rfl rfl dX12_river_33 (fun x6 μ7 hx6 hμ7 h => ?_)
      refine o_if_eq (tgt := 47) C hx6 dX12_river_36 (by decide) h (fun _ h => ?_) (fun _ h => ?_)
      · refine o_ldc (v := (-10000002)) C lkc_RX12_153 rfl dX12_river_47 ?_
        exact o_iret C hQ dX12_river_49 h ⟨by decide, by decide⟩ hμ7
      · refine o_iload C 4 dX12_river_39 rfl ?_
        refine o_cSI C [vI z4] mb_X12_noEase (by decide) (fun _ hu => c_X12_noEase hz4 hμ7 hu) rfl (Nat.le_of_ble_eq_true rfl) h ms_X12_noEase lkm_RX12_160 rfl rfl dX12_river_41 (fun x8 μ9 hx8 hμ9 h => ?_)
        refine o_if_eq (tgt := 50) C hx8 dX12_river_44 (by decide) h (fun _ h => ?_) (fun _ h => ?_)
        · refine o_aload_n C 0 dX12_river_50 rfl rfl ?_
          refine o_getI (j := 9) C kt_53 rfl rfl (Nat.le_of_ble_eq_true rfl) lkf_RX12_169 dX12_river_51 ?_
          refine o_iconst C dX12_river_54 ?_
          refine o_icmp_ne (tgt := 61) C (hμ9.fi kt_53 rfl (by decide)) ⟨by decide, by decide⟩ dX12_river_55 (by decide) h (fun _ h => ?_) (fun _ h => ?_)
          · refine o_aload_n C 0 dX12_river_61 rfl rfl ?_
            refine o_getR (j := 10) C kt_53 rfl rfl (Nat.le_of_ble_eq_true rfl) lkf_RX12_28 dX12_river_62 ?_
            refine o_aload_n C 0 dX12_river_65 rfl rfl ?_
            refine o_getI (j := 9) C kt_53 rfl rfl (Nat.le_of_ble_eq_true rfl) lkf_RX12_169 dX12_river_66 ?_
            refine o_iload_n C 1 dX12_river_69 rfl rfl ?_
            refine o_iast C kt_60 rfl (hμ9.fi kt_53 rfl (by decide)) hz1 hμ9 dX12_river_70 h (fun μ10 hμ10 h => ?_)
            refine o_aload_n C 0 dX12_river_71 rfl rfl ?_
            refine o_getR (j := 11) C kt_53 rfl rfl (Nat.le_of_ble_eq_true rfl) lkf_RX12_31 dX12_river_72 ?_
            refine o_aload_n C 0 dX12_river_75 rfl rfl ?_
            refine o_getI (j := 9) C kt_53 rfl rfl (Nat.le_of_ble_eq_true rfl) lkf_RX12_169 dX12_river_76 ?_
            refine o_iload_n C 2 dX12_river_79 rfl rfl ?_
            refine o_iast C kt_61 rfl (hμ10.fi kt_53 rfl (by decide)) hz2 hμ10 dX12_river_80 h (fun μ11 hμ11 h => ?_)
            refine o_aload_n C 0 dX12_river_81 rfl rfl ?_
            refine o_getR (j := 12) C kt_53 rfl rfl (Nat.le_of_ble_eq_true rfl) lkf_RX12_34 dX12_river_82 ?_
            refine o_aload_n C 0 dX12_river_85 rfl rfl ?_
            refine o_getI (j := 9) C kt_53 rfl rfl (Nat.le_of_ble_eq_true rfl) lkf_RX12_169 dX12_river_86 ?_
            refine o_iload_n C 3 dX12_river_89 rfl rfl ?_
            refine o_iast C kt_62 rfl (hμ11.fi kt_53 rfl (by decide)) hz3 hμ11 dX12_river_90 h (fun μ12 hμ12 h => ?_)
            refine o_aload_n C 0 dX12_river_91 rfl rfl ?_
            refine o_getR (j := 13) C kt_53 rfl rfl (Nat.le_of_ble_eq_true rfl) lkf_RX12_37 dX12_river_92 ?_
            refine o_aload_n C 0 dX12_river_95 rfl rfl ?_
            refine o_getI (j := 9) C kt_53 rfl rfl (Nat.le_of_ble_eq_true rfl) lkf_RX12_169 dX12_river_96 ?_
            refine o_iload C 4 dX12_river_99 rfl ?_
            refine o_iast C kt_63 rfl (hμ12.fi kt_53 rfl (by decide)) hz4 hμ12 dX12_river_101 h (fun μ13 hμ13 h => ?_)
            refine o_aload_n C 0 dX12_river_102 rfl rfl ?_
            refine o_dupr C dX12_river_103 ?_
            refine o_getI (j := 9) C kt_53 rfl rfl (Nat.le_of_ble_eq_true rfl) lkf_RX12_169 dX12_river_104 ?_
            refine o_iconst C dX12_river_107 ?_
            refine o_iadd C dX12_river_108 ?_
            refine o_putI (j := 9) C kt_53 rfl rfl tyX12_ok nmX12 (Nat.le_of_ble_eq_true rfl) lkf_RX12_169 rfl rfl (r32_w _) hμ13 dX12_river_109 h (fun μ14 hμ14 h => ?_)
            refine o_aload_n C 0 dX12_river_112 rfl rfl ?_
            refine o_getI (j := 9) C kt_53 rfl rfl (Nat.le_of_ble_eq_true rfl) lkf_RX12_169 dX12_river_113 ?_
            refine o_iconst C dX12_river_116 ?_
            refine o_isub C dX12_river_117 ?_
            exact o_iret C hQ dX12_river_118 h (r32_w _) hμ14
          · refine o_ldc (v := (-10000004)) C lkc_RX12_154 rfl dX12_river_58 ?_
            exact o_iret C hQ dX12_river_60 h ⟨by decide, by decide⟩ hμ9
        · refine o_ldc (v := (-10000002)) C lkc_RX12_153 rfl dX12_river_47 ?_
          exact o_iret C hQ dX12_river_49 h ⟨by decide, by decide⟩ hμ9
  · refine o_ldc (v := (-10000001)) C lkc_RX12_159 rfl dX12_river_13 ?_
    exact o_iret C hQ dX12_river_15 h ⟨by decide, by decide⟩ hμ3
theorem c_X12_river {z1 : Int} (hz1 : r32 z1) {z2 : Int} (hz2 : r32 z2) {z3 : Int} (hz3 : r32 z3) {z4 : Int} (hz4 : r32 z4) {μ : GM} (hμ : gRg μ) {u : Int × GM} (h : f_X12_river z1 z2 z3 z4 μ = some u) : MtI 2 yX12_river cX12_river 5 (some .int) (fun ad => [.ref (ad 53), vI z1, vI z2, vI z3, vI z4]) μ u := MtI.of pf_X12_river (fun _ => Nat.le_of_ble_eq_true rfl) (fun G C hQ => w_X12_river_0 C hQ hz1 hz2 hz3 hz4 hμ h)
def f_X12_drain (z1 : Int) (z2 : Int) (z3 : Int) (μ : GM) : Option (Int × GM) :=
  lm (gF μ 53 0 0) fun μ1 =>
  bd (f_X12_noCell z1 μ1) fun x2 μ3 =>
  if x2 = 0 then
    bd (f_X12_in z2 0 1000 μ3) fun x4 μ5 =>
    if x4 = 0 then
      some ((-10000002), μ5)
    else
      bd (f_X12_noEase z3 μ5) fun x6 μ7 =>
      if x6 = 0 then
        if (μ7.2 53 14) = 2 then
          some ((-10000004), μ7)
        else
          ck (0 ≤ (μ7.2 53 14) ∧ (μ7.2 53 14) < 2) (lm (gA μ7 64 (μ7.2 53 14) z1) fun μ8 =>
          ck (0 ≤ (μ8.2 53 14) ∧ (μ8.2 53 14) < 2) (lm (gA μ8 65 (μ8.2 53 14) z2) fun μ9 =>
          ck (0 ≤ (μ9.2 53 14) ∧ (μ9.2 53 14) < 2) (lm (gA μ9 66 (μ9.2 53 14) z3) fun μ10 =>
          lm (gF μ10 53 14 (w32 ((μ10.2 53 14) + 1))) fun μ11 =>
          some ((w32 ((μ11.2 53 14) - 1)), μ11))))
      else
        some ((-10000002), μ7)
  else
    some ((-10000001), μ3)
set_option maxHeartbeats 4000000 in
set_option maxRecDepth 100000 in
theorem w_X12_drain_0 {G : GX} {u : Int × GM} (C : CX G 2 cX12_drain 4 RX12) (hQ : gQI G (some .int) u) {z1 : Int} (hz1 : r32 z1) {z2 : Int} (hz2 : r32 z2) {z3 : Int} (hz3 : r32 z3) {μ : GM} (hμ : gRg μ) (h : f_X12_drain z1 z2 z3 μ = some u) : WM G 4 μ 0 [(0, gR G 53), (1, vI z1), (2, vI z2), (3, vI z3)] [] := by
  unfold f_X12_drain at h
  refine o_aload_n C 0 dX12_drain_0 rfl rfl ?_
  refine o_iconst C dX12_drain_1 ?_
  refine o_putI (j := 0) C kt_53 rfl rfl tyX12_ok nmX12 (Nat.le_of_ble_eq_true rfl) lkf_RX12_133 rfl rfl ⟨by decide, by decide⟩ hμ dX12_drain_2 h (fun μ1 hμ1 h => ?_)
  refine o_aload_n C 0 dX12_drain_5 rfl rfl ?_
  refine o_iload_n C 1 dX12_drain_6 rfl rfl ?_
  refine o_cVI C [vI z1] mb_X12_noCell (by decide) (fun _ hu => c_X12_noCell hz1 hμ1 hu) rfl (Nat.le_of_ble_eq_true rfl) h mi_X12_noCell me_X12_noCell lkm_RX12_155 kt_53 rfl rfl rfl dX12_drain_7 (fun x2 μ3 hx2 hμ3 h => ?_)
  refine o_if_eq (tgt := 16) C hx2 dX12_drain_10 (by decide) h (fun _ h => ?_) (fun _ h => ?_)
  · refine o_iload_n C 2 dX12_drain_16 rfl rfl ?_
    refine o_i2l C hz2 dX12_drain_17 ?_
    refine o_lconst (v := 0) C dX12_drain_18 rfl ?_
    refine o_ldc2 (v := 1000) C lkc_RX12_167 rfl dX12_drain_19 ?_
    refine o_cSI C [vJ z2, vJ 0, vJ 1000] mb_X12_in (by decide) (fun _ hu => c_X12_in (r32_r64 hz2) ⟨by decide, by decide⟩ ⟨by decide, by decide⟩ hμ3 hu) rfl (Nat.le_of_ble_eq_true rfl) h ms_X12_in lkm_RX12_140 rfl rfl dX12_drain_22 (fun x4 μ5 hx4 hμ5 h => ?_)
    refine o_if_eq (tgt := 35) C hx4 dX12_drain_25 (by decide) h (fun _ h => ?_) (fun _ h => ?_)
    · refine o_ldc (v := (-10000002)) C lkc_RX12_153 rfl dX12_drain_35 ?_
      exact o_iret C hQ dX12_drain_37 h ⟨by decide, by decide⟩ hμ5
    · refine o_iload_n C 3 dX12_drain_28 rfl rfl ?_
      refine o_cSI C [vI z3] mb_X12_noEase (by decide) (fun _ hu => c_X12_noEase hz3 hμ5 hu) rfl (Nat.le_of_ble_eq_true rfl) h ms_X12_noEase lkm_RX12_160 rfl rfl dX12_drain_29 (fun x6 μ7 hx6 hμ7 h => ?_)
      refine o_if_eq (tgt := 38) C hx6 dX12_drain_32 (by decide) h (fun _ h => ?_) (fun _ h => ?_)
      · refine o_aload_n C 0 dX12_drain_38 rfl rfl ?_
        refine o_getI (j := 14) C kt_53 rfl rfl (Nat.le_of_ble_eq_true rfl) lkf_RX12_172 dX12_drain_39 ?_
        refine o_iconst C dX12_drain_42 ?_
        refine o_icmp_ne (tgt := 49) C (hμ7.fi kt_53 rfl (by decide)) ⟨by decide, by decide⟩ dX12_drain_43 (by decide) h (fun _ h => ?_) (fun _ h => ?_)
        · refine o_aload_n C 0 dX12_drain_49 rfl rfl ?_
          refine o_getR (j := 15) C kt_53 rfl rfl (Nat.le_of_ble_eq_true rfl) lkf_RX12_40 dX12_drain_50 ?_
          refine o_aload_n C 0 dX12_drain_53 rfl rfl ?_
          refine o_getI (j := 14) C kt_53 rfl rfl (Nat.le_of_ble_eq_true rfl) lkf_RX12_172 dX12_drain_54 ?_
          refine o_iload_n C 1 dX12_drain_57 rfl rfl ?_
          refine o_iast C kt_64 rfl (hμ7.fi kt_53 rfl (by decide)) hz1 hμ7 dX12_drain_58 h (fun μ8 hμ8 h => ?_)
          refine o_aload_n C 0 dX12_drain_59 rfl rfl ?_
          refine o_getR (j := 16) C kt_53 rfl rfl (Nat.le_of_ble_eq_true rfl) lkf_RX12_43 dX12_drain_60 ?_
          refine o_aload_n C 0 dX12_drain_63 rfl rfl ?_
          refine o_getI (j := 14) C kt_53 rfl rfl (Nat.le_of_ble_eq_true rfl) lkf_RX12_172 dX12_drain_64 ?_
          refine o_iload_n C 2 dX12_drain_67 rfl rfl ?_
          refine o_iast C kt_65 rfl (hμ8.fi kt_53 rfl (by decide)) hz2 hμ8 dX12_drain_68 h (fun μ9 hμ9 h => ?_)
          refine o_aload_n C 0 dX12_drain_69 rfl rfl ?_
          refine o_getR (j := 17) C kt_53 rfl rfl (Nat.le_of_ble_eq_true rfl) lkf_RX12_46 dX12_drain_70 ?_
          refine o_aload_n C 0 dX12_drain_73 rfl rfl ?_
          refine o_getI (j := 14) C kt_53 rfl rfl (Nat.le_of_ble_eq_true rfl) lkf_RX12_172 dX12_drain_74 ?_
          refine o_iload_n C 3 dX12_drain_77 rfl rfl ?_
          refine o_iast C kt_66 rfl (hμ9.fi kt_53 rfl (by decide)) hz3 hμ9 dX12_drain_78 h (fun μ10 hμ10 h => ?_)
          refine o_aload_n C 0 dX12_drain_79 rfl rfl ?_
          refine o_dupr C dX12_drain_80 ?_
          refine o_getI (j := 14) C kt_53 rfl rfl (Nat.le_of_ble_eq_true rfl) lkf_RX12_172 dX12_drain_81 ?_
          refine o_iconst C dX12_drain_84 ?_
          refine o_iadd C dX12_drain_85 ?_
          refine o_putI (j := 14) C kt_53 rfl rfl tyX12_ok nmX12 (Nat.le_of_ble_eq_true rfl) lkf_RX12_172 rfl rfl (r32_w _) hμ10 dX12_drain_86 h (fun μ11 hμ11 h => ?_)
          refine o_aload_n C 0 dX12_drain_89 rfl rfl ?_
          refine o_getI (j := 14) C kt_53 rfl rfl (Nat.le_of_ble_eq_true rfl) lkf_RX12_172 dX12_drain_90 ?_
          refine o_iconst C dX12_drain_93 ?_
          refine o_isub C dX12_drain_94 ?_
          exact o_iret C hQ dX12_drain_95 h (r32_w _) hμ11
        · refine o_ldc (v := (-10000004)) C lkc_RX12_154 rfl dX12_drain_46 ?_
          exact o_iret C hQ dX12_drain_48 h ⟨by decide, by decide⟩ hμ7
      · refine o_ldc (v := (-10000002)) C lkc_RX12_153 rfl dX12_drain_35 ?_
        exact o_iret C hQ dX12_drain_37 h ⟨by decide, by decide⟩ hμ7
  · refine o_ldc (v := (-10000001)) C lkc_RX12_159 rfl dX12_drain_13 ?_
    exact o_iret C hQ dX12_drain_15 h ⟨by decide, by decide⟩ hμ3
theorem c_X12_drain {z1 : Int} (hz1 : r32 z1) {z2 : Int} (hz2 : r32 z2) {z3 : Int} (hz3 : r32 z3) {μ : GM} (hμ : gRg μ) {u : Int × GM} (h : f_X12_drain z1 z2 z3 μ = some u) : MtI 2 yX12_drain cX12_drain 4 (some .int) (fun ad => [.ref (ad 53), vI z1, vI z2, vI z3]) μ u := MtI.of pf_X12_drain (fun _ => Nat.le_of_ble_eq_true rfl) (fun G C hQ => w_X12_drain_0 C hQ hz1 hz2 hz3 hμ h)
def f_X12_well (z1 : Int) (z2 : Int) (z3 : Int) (μ : GM) : Option (Int × GM) :=
  lm (gF μ 53 0 0) fun μ1 =>
  bd (f_X12_noCell z1 μ1) fun x2 μ3 =>
  if x2 = 0 then
    bd (f_X12_in z2 0 99 μ3) fun x4 μ5 =>
    if x4 = 0 then
      some ((-10000002), μ5)
    else
      bd (f_X12_in z3 0 99 μ5) fun x6 μ7 =>
      if x6 = 0 then
        some ((-10000002), μ7)
      else
        if (μ7.2 53 18) = 3 then
          some ((-10000004), μ7)
        else
          ck (0 ≤ (μ7.2 53 18) ∧ (μ7.2 53 18) < 3) (lm (gA μ7 67 (μ7.2 53 18) z1) fun μ8 =>
          ck (0 ≤ (μ8.2 53 18) ∧ (μ8.2 53 18) < 3) (lm (gA μ8 68 (μ8.2 53 18) z2) fun μ9 =>
          ck (0 ≤ (μ9.2 53 18) ∧ (μ9.2 53 18) < 3) (lm (gA μ9 69 (μ9.2 53 18) z3) fun μ10 =>
          lm (gF μ10 53 18 (w32 ((μ10.2 53 18) + 1))) fun μ11 =>
          some ((w32 ((μ11.2 53 18) - 1)), μ11))))
  else
    some ((-10000001), μ3)
set_option maxHeartbeats 4000000 in
set_option maxRecDepth 100000 in
theorem w_X12_well_0 {G : GX} {u : Int × GM} (C : CX G 2 cX12_well 4 RX12) (hQ : gQI G (some .int) u) {z1 : Int} (hz1 : r32 z1) {z2 : Int} (hz2 : r32 z2) {z3 : Int} (hz3 : r32 z3) {μ : GM} (hμ : gRg μ) (h : f_X12_well z1 z2 z3 μ = some u) : WM G 4 μ 0 [(0, gR G 53), (1, vI z1), (2, vI z2), (3, vI z3)] [] := by
  unfold f_X12_well at h
  refine o_aload_n C 0 dX12_well_0 rfl rfl ?_
  refine o_iconst C dX12_well_1 ?_
  refine o_putI (j := 0) C kt_53 rfl rfl tyX12_ok nmX12 (Nat.le_of_ble_eq_true rfl) lkf_RX12_133 rfl rfl ⟨by decide, by decide⟩ hμ dX12_well_2 h (fun μ1 hμ1 h => ?_)
  refine o_aload_n C 0 dX12_well_5 rfl rfl ?_
  refine o_iload_n C 1 dX12_well_6 rfl rfl ?_
  refine o_cVI C [vI z1] mb_X12_noCell (by decide) (fun _ hu => c_X12_noCell hz1 hμ1 hu) rfl (Nat.le_of_ble_eq_true rfl) h mi_X12_noCell me_X12_noCell lkm_RX12_155 kt_53 rfl rfl rfl dX12_well_7 (fun x2 μ3 hx2 hμ3 h => ?_)
  refine o_if_eq (tgt := 16) C hx2 dX12_well_10 (by decide) h (fun _ h => ?_) (fun _ h => ?_)
  · refine o_iload_n C 2 dX12_well_16 rfl rfl ?_
    refine o_i2l C hz2 dX12_well_17 ?_
    refine o_lconst (v := 0) C dX12_well_18 rfl ?_
    refine o_ldc2 (v := 99) C lkc_RX12_149 rfl dX12_well_19 ?_
    refine o_cSI C [vJ z2, vJ 0, vJ 99] mb_X12_in (by decide) (fun _ hu => c_X12_in (r32_r64 hz2) ⟨by decide, by decide⟩ ⟨by decide, by decide⟩ hμ3 hu) rfl (Nat.le_of_ble_eq_true rfl) h ms_X12_in lkm_RX12_140 rfl rfl dX12_well_22 (fun x4 μ5 hx4 hμ5 h => ?_)
    refine o_if_eq (tgt := 40) C hx4 dX12_well_25 (by decide) h (fun _ h => ?_) (fun _ h => ?_)
    · refine o_ldc (v := (-10000002)) C lkc_RX12_153 rfl dX12_well_40 ?_
      exact o_iret C hQ dX12_well_42 h ⟨by decide, by decide⟩ hμ5
    · refine o_iload_n C 3 dX12_well_28 rfl rfl ?_
      refine o_i2l C hz3 dX12_well_29 ?_
      refine o_lconst (v := 0) C dX12_well_30 rfl ?_
      refine o_ldc2 (v := 99) C lkc_RX12_149 rfl dX12_well_31 ?_
      refine o_cSI C [vJ z3, vJ 0, vJ 99] mb_X12_in (by decide) (fun _ hu => c_X12_in (r32_r64 hz3) ⟨by decide, by decide⟩ ⟨by decide, by decide⟩ hμ5 hu) rfl (Nat.le_of_ble_eq_true rfl) h ms_X12_in lkm_RX12_140 rfl rfl dX12_well_34 (fun x6 μ7 hx6 hμ7 h => ?_)
      refine o_if_ne (tgt := 43) C hx6 dX12_well_37 (by decide) h (fun _ h => ?_) (fun _ h => ?_)
      · refine o_aload_n C 0 dX12_well_43 rfl rfl ?_
        refine o_getI (j := 18) C kt_53 rfl rfl (Nat.le_of_ble_eq_true rfl) lkf_RX12_144 dX12_well_44 ?_
        refine o_iconst C dX12_well_47 ?_
        refine o_icmp_ne (tgt := 54) C (hμ7.fi kt_53 rfl (by decide)) ⟨by decide, by decide⟩ dX12_well_48 (by decide) h (fun _ h => ?_) (fun _ h => ?_)
        · refine o_aload_n C 0 dX12_well_54 rfl rfl ?_
          refine o_getR (j := 19) C kt_53 rfl rfl (Nat.le_of_ble_eq_true rfl) lkf_RX12_49 dX12_well_55 ?_
          refine o_aload_n C 0 dX12_well_58 rfl rfl ?_
          refine o_getI (j := 18) C kt_53 rfl rfl (Nat.le_of_ble_eq_true rfl) lkf_RX12_144 dX12_well_59 ?_
          refine o_iload_n C 1 dX12_well_62 rfl rfl ?_
          refine o_iast C kt_67 rfl (hμ7.fi kt_53 rfl (by decide)) hz1 hμ7 dX12_well_63 h (fun μ8 hμ8 h => ?_)
          refine o_aload_n C 0 dX12_well_64 rfl rfl ?_
          refine o_getR (j := 20) C kt_53 rfl rfl (Nat.le_of_ble_eq_true rfl) lkf_RX12_52 dX12_well_65 ?_
          refine o_aload_n C 0 dX12_well_68 rfl rfl ?_
          refine o_getI (j := 18) C kt_53 rfl rfl (Nat.le_of_ble_eq_true rfl) lkf_RX12_144 dX12_well_69 ?_
          refine o_iload_n C 2 dX12_well_72 rfl rfl ?_
          refine o_iast C kt_68 rfl (hμ8.fi kt_53 rfl (by decide)) hz2 hμ8 dX12_well_73 h (fun μ9 hμ9 h => ?_)
          refine o_aload_n C 0 dX12_well_74 rfl rfl ?_
          refine o_getR (j := 21) C kt_53 rfl rfl (Nat.le_of_ble_eq_true rfl) lkf_RX12_55 dX12_well_75 ?_
          refine o_aload_n C 0 dX12_well_78 rfl rfl ?_
          refine o_getI (j := 18) C kt_53 rfl rfl (Nat.le_of_ble_eq_true rfl) lkf_RX12_144 dX12_well_79 ?_
          refine o_iload_n C 3 dX12_well_82 rfl rfl ?_
          refine o_iast C kt_69 rfl (hμ9.fi kt_53 rfl (by decide)) hz3 hμ9 dX12_well_83 h (fun μ10 hμ10 h => ?_)
          refine o_aload_n C 0 dX12_well_84 rfl rfl ?_
          refine o_dupr C dX12_well_85 ?_
          refine o_getI (j := 18) C kt_53 rfl rfl (Nat.le_of_ble_eq_true rfl) lkf_RX12_144 dX12_well_86 ?_
          refine o_iconst C dX12_well_89 ?_
          refine o_iadd C dX12_well_90 ?_
          refine o_putI (j := 18) C kt_53 rfl rfl tyX12_ok nmX12 (Nat.le_of_ble_eq_true rfl) lkf_RX12_144 rfl rfl (r32_w _) hμ10 dX12_well_91 h (fun μ11 hμ11 h => ?_)
          refine o_aload_n C 0 dX12_well_94 rfl rfl ?_
          refine o_getI (j := 18) C kt_53 rfl rfl (Nat.le_of_ble_eq_true rfl) lkf_RX12_144 dX12_well_95 ?_
          refine o_iconst C dX12_well_98 ?_
          refine o_isub C dX12_well_99 ?_
          exact o_iret C hQ dX12_well_100 h (r32_w _) hμ11
        · refine o_ldc (v := (-10000004)) C lkc_RX12_154 rfl dX12_well_51 ?_
          exact o_iret C hQ dX12_well_53 h ⟨by decide, by decide⟩ hμ7
      · refine o_ldc (v := (-10000002)) C lkc_RX12_153 rfl dX12_well_40 ?_
        exact o_iret C hQ dX12_well_42 h ⟨by decide, by decide⟩ hμ7
  · refine o_ldc (v := (-10000001)) C lkc_RX12_159 rfl dX12_well_13 ?_
    exact o_iret C hQ dX12_well_15 h ⟨by decide, by decide⟩ hμ3
theorem c_X12_well {z1 : Int} (hz1 : r32 z1) {z2 : Int} (hz2 : r32 z2) {z3 : Int} (hz3 : r32 z3) {μ : GM} (hμ : gRg μ) {u : Int × GM} (h : f_X12_well z1 z2 z3 μ = some u) : MtI 2 yX12_well cX12_well 4 (some .int) (fun ad => [.ref (ad 53), vI z1, vI z2, vI z3]) μ u := MtI.of pf_X12_well (fun _ => Nat.le_of_ble_eq_true rfl) (fun G C hQ => w_X12_well_0 C hQ hz1 hz2 hz3 hμ h)
def f_X12_rain (z1 : Int) (z2 : Int) (μ : GM) : Option (Int × GM) :=
  lm (gF μ 53 0 0) fun μ1 =>
  bd (f_X12_noCell z1 μ1) fun x2 μ3 =>
  if x2 = 0 then
    bd (f_X12_in z2 0 99 μ3) fun x4 μ5 =>
    if x4 = 0 then
      some ((-10000002), μ5)
    else
      ck (0 ≤ z1 ∧ z1 < 6) (
      lt (μ5.1 55 z1) fun x6 =>
      ck (0 ≤ z1 ∧ z1 < 6) (lm (gA μ5 55 z1 z2) fun μ7 =>
      some (x6, μ7)))
  else
    some ((-10000001), μ3)
set_option maxHeartbeats 4000000 in
set_option maxRecDepth 100000 in
theorem w_X12_rain_0 {G : GX} {u : Int × GM} (C : CX G 2 cX12_rain 4 RX12) (hQ : gQI G (some .int) u) {z1 : Int} (hz1 : r32 z1) {z2 : Int} (hz2 : r32 z2) {μ : GM} (hμ : gRg μ) (h : f_X12_rain z1 z2 μ = some u) : WM G 4 μ 0 [(0, gR G 53), (1, vI z1), (2, vI z2)] [] := by
  unfold f_X12_rain at h
  refine o_aload_n C 0 dX12_rain_0 rfl rfl ?_
  refine o_iconst C dX12_rain_1 ?_
  refine o_putI (j := 0) C kt_53 rfl rfl tyX12_ok nmX12 (Nat.le_of_ble_eq_true rfl) lkf_RX12_133 rfl rfl ⟨by decide, by decide⟩ hμ dX12_rain_2 h (fun μ1 hμ1 h => ?_)
  refine o_aload_n C 0 dX12_rain_5 rfl rfl ?_
  refine o_iload_n C 1 dX12_rain_6 rfl rfl ?_
  refine o_cVI C [vI z1] mb_X12_noCell (by decide) (fun _ hu => c_X12_noCell hz1 hμ1 hu) rfl (Nat.le_of_ble_eq_true rfl) h mi_X12_noCell me_X12_noCell lkm_RX12_155 kt_53 rfl rfl rfl dX12_rain_7 (fun x2 μ3 hx2 hμ3 h => ?_)
  refine o_if_eq (tgt := 16) C hx2 dX12_rain_10 (by decide) h (fun _ h => ?_) (fun _ h => ?_)
  · refine o_iload_n C 2 dX12_rain_16 rfl rfl ?_
    refine o_i2l C hz2 dX12_rain_17 ?_
    refine o_lconst (v := 0) C dX12_rain_18 rfl ?_
    refine o_ldc2 (v := 99) C lkc_RX12_149 rfl dX12_rain_19 ?_
    refine o_cSI C [vJ z2, vJ 0, vJ 99] mb_X12_in (by decide) (fun _ hu => c_X12_in (r32_r64 hz2) ⟨by decide, by decide⟩ ⟨by decide, by decide⟩ hμ3 hu) rfl (Nat.le_of_ble_eq_true rfl) h ms_X12_in lkm_RX12_140 rfl rfl dX12_rain_22 (fun x4 μ5 hx4 hμ5 h => ?_)
    refine o_if_ne (tgt := 31) C hx4 dX12_rain_25 (by decide) h (fun _ h => ?_) (fun _ h => ?_)
    · refine o_aload_n C 0 dX12_rain_31 rfl rfl ?_
      refine o_getR (j := 3) C kt_53 rfl rfl (Nat.le_of_ble_eq_true rfl) lkf_RX12_13 dX12_rain_32 ?_
      refine o_iload_n C 1 dX12_rain_35 rfl rfl ?_
      refine o_iald C kt_55 rfl hz1 dX12_rain_36 h (fun h => ?_)
      refine o_lt h (hμ5.i kt_55 (by decide) _) (fun x6 hx6 h => ?_)
      refine o_istore_n (lv2 := [(3, vI x6), (0, gR G 53), (1, vI z1), (2, vI z2)]) C dX12_rain_37 rfl (by decide) rfl ?_
      refine o_aload_n C 1 dX12_rain_38 rfl rfl ?_
      refine o_getR (j := 3) C kt_53 rfl rfl (Nat.le_of_ble_eq_true rfl) lkf_RX12_13 dX12_rain_39 ?_
      refine o_iload_n C 2 dX12_rain_42 rfl rfl ?_
      refine o_iload_n C 3 dX12_rain_43 rfl rfl ?_
      refine o_iast C kt_55 rfl hz1 hz2 hμ5 dX12_rain_44 h (fun μ7 hμ7 h => ?_)
      refine o_iload_n C 0 dX12_rain_45 rfl rfl ?_
      exact o_iret C hQ dX12_rain_46 h hx6 hμ7
    · refine o_ldc (v := (-10000002)) C lkc_RX12_153 rfl dX12_rain_28 ?_
      exact o_iret C hQ dX12_rain_30 h ⟨by decide, by decide⟩ hμ5
  · refine o_ldc (v := (-10000001)) C lkc_RX12_159 rfl dX12_rain_13 ?_
    exact o_iret C hQ dX12_rain_15 h ⟨by decide, by decide⟩ hμ3
theorem c_X12_rain {z1 : Int} (hz1 : r32 z1) {z2 : Int} (hz2 : r32 z2) {μ : GM} (hμ : gRg μ) {u : Int × GM} (h : f_X12_rain z1 z2 μ = some u) : MtI 2 yX12_rain cX12_rain 4 (some .int) (fun ad => [.ref (ad 53), vI z1, vI z2]) μ u := MtI.of pf_X12_rain (fun _ => Nat.le_of_ble_eq_true rfl) (fun G C hQ => w_X12_rain_0 C hQ hz1 hz2 hμ h)
def f_X12_ease (z1 : Int) (z2 : Int) (μ : GM) : Option (Int × GM) :=
  lm (gF μ 53 0 0) fun μ1 =>
  bd (f_X12_in z1 0 (w32 ((μ1.2 53 5) - 1)) μ1) fun x2 μ3 =>
  if x2 = 0 then
    some ((-10000001), μ3)
  else
    bd (f_X12_noEase z2 μ3) fun x4 μ5 =>
    if x4 = 0 then
      ck (0 ≤ z1 ∧ z1 < 12) (
      lt (μ5.1 59 z1) fun x6 =>
      ck (0 ≤ z1 ∧ z1 < 12) (lm (gA μ5 59 z1 z2) fun μ7 =>
      some (x6, μ7)))
    else
      some ((-10000002), μ5)
set_option maxHeartbeats 4000000 in
set_option maxRecDepth 100000 in
theorem w_X12_ease_0 {G : GX} {u : Int × GM} (C : CX G 2 cX12_ease 4 RX12) (hQ : gQI G (some .int) u) {z1 : Int} (hz1 : r32 z1) {z2 : Int} (hz2 : r32 z2) {μ : GM} (hμ : gRg μ) (h : f_X12_ease z1 z2 μ = some u) : WM G 4 μ 0 [(0, gR G 53), (1, vI z1), (2, vI z2)] [] := by
  unfold f_X12_ease at h
  refine o_aload_n C 0 dX12_ease_0 rfl rfl ?_
  refine o_iconst C dX12_ease_1 ?_
  refine o_putI (j := 0) C kt_53 rfl rfl tyX12_ok nmX12 (Nat.le_of_ble_eq_true rfl) lkf_RX12_133 rfl rfl ⟨by decide, by decide⟩ hμ dX12_ease_2 h (fun μ1 hμ1 h => ?_)
  refine o_iload_n C 1 dX12_ease_5 rfl rfl ?_
  refine o_i2l C hz1 dX12_ease_6 ?_
  refine o_lconst (v := 0) C dX12_ease_7 rfl ?_
  refine o_aload_n C 0 dX12_ease_8 rfl rfl ?_
  refine o_getI (j := 5) C kt_53 rfl rfl (Nat.le_of_ble_eq_true rfl) lkf_RX12_164 dX12_ease_9 ?_
  refine o_iconst C dX12_ease_12 ?_
  refine o_isub C dX12_ease_13 ?_
  refine o_i2l C (r32_w _) dX12_ease_14 ?_
  refine o_cSI C [vJ z1, vJ 0, vJ (w32 ((μ1.2 53 5) - 1))] mb_X12_in (by decide) (fun _ hu => c_X12_in (r32_r64 hz1) ⟨by decide, by decide⟩ (r32_r64 (r32_w _)) hμ1 hu) rfl (Nat.le_of_ble_eq_true rfl) h ms_X12_in lkm_RX12_140 rfl rfl dX12_ease_15 (fun x2 μ3 hx2 hμ3 h => ?_)
  refine o_if_ne (tgt := 24) C hx2 dX12_ease_18 (by decide) h (fun _ h => ?_) (fun _ h => ?_)
  · refine o_iload_n C 2 dX12_ease_24 rfl rfl ?_
    refine o_cSI C [vI z2] mb_X12_noEase (by decide) (fun _ hu => c_X12_noEase hz2 hμ3 hu) rfl (Nat.le_of_ble_eq_true rfl) h ms_X12_noEase lkm_RX12_160 rfl rfl dX12_ease_25 (fun x4 μ5 hx4 hμ5 h => ?_)
    refine o_if_eq (tgt := 34) C hx4 dX12_ease_28 (by decide) h (fun _ h => ?_) (fun _ h => ?_)
    · refine o_aload_n C 0 dX12_ease_34 rfl rfl ?_
      refine o_getR (j := 8) C kt_53 rfl rfl (Nat.le_of_ble_eq_true rfl) lkf_RX12_25 dX12_ease_35 ?_
      refine o_iload_n C 1 dX12_ease_38 rfl rfl ?_
      refine o_iald C kt_59 rfl hz1 dX12_ease_39 h (fun h => ?_)
      refine o_lt h (hμ5.i kt_59 (by decide) _) (fun x6 hx6 h => ?_)
      refine o_istore_n (lv2 := [(3, vI x6), (0, gR G 53), (1, vI z1), (2, vI z2)]) C dX12_ease_40 rfl (by decide) rfl ?_
      refine o_aload_n C 1 dX12_ease_41 rfl rfl ?_
      refine o_getR (j := 8) C kt_53 rfl rfl (Nat.le_of_ble_eq_true rfl) lkf_RX12_25 dX12_ease_42 ?_
      refine o_iload_n C 2 dX12_ease_45 rfl rfl ?_
      refine o_iload_n C 3 dX12_ease_46 rfl rfl ?_
      refine o_iast C kt_59 rfl hz1 hz2 hμ5 dX12_ease_47 h (fun μ7 hμ7 h => ?_)
      refine o_iload_n C 0 dX12_ease_48 rfl rfl ?_
      exact o_iret C hQ dX12_ease_49 h hx6 hμ7
    · refine o_ldc (v := (-10000002)) C lkc_RX12_153 rfl dX12_ease_31 ?_
      exact o_iret C hQ dX12_ease_33 h ⟨by decide, by decide⟩ hμ5
  · refine o_ldc (v := (-10000001)) C lkc_RX12_159 rfl dX12_ease_21 ?_
    exact o_iret C hQ dX12_ease_23 h ⟨by decide, by decide⟩ hμ3
theorem c_X12_ease {z1 : Int} (hz1 : r32 z1) {z2 : Int} (hz2 : r32 z2) {μ : GM} (hμ : gRg μ) {u : Int × GM} (h : f_X12_ease z1 z2 μ = some u) : MtI 2 yX12_ease cX12_ease 4 (some .int) (fun ad => [.ref (ad 53), vI z1, vI z2]) μ u := MtI.of pf_X12_ease (fun _ => Nat.le_of_ble_eq_true rfl) (fun G C hQ => w_X12_ease_0 C hQ hz1 hz2 hμ h)
def f_X12_rate (z1 : Int) (z2 : Int) (μ : GM) : Option (Int × GM) :=
  lm (gF μ 53 0 0) fun μ1 =>
  bd (f_X12_noWell z1 μ1) fun x2 μ3 =>
  if x2 = 0 then
    ck (0 ≤ z1 ∧ z1 < 3) (
    bd (f_X12_in z2 0 (μ3.1 68 z1) μ3) fun x4 μ5 =>
    if x4 = 0 then
      some ((-10000002), μ5)
    else
      ck (0 ≤ z1 ∧ z1 < 3) (
      lt (μ5.1 70 z1) fun x6 =>
      ck (0 ≤ z1 ∧ z1 < 3) (lm (gA μ5 70 z1 z2) fun μ7 =>
      some (x6, μ7))))
  else
    some ((-10000001), μ3)
set_option maxHeartbeats 4000000 in
set_option maxRecDepth 100000 in
theorem w_X12_rate_0 {G : GX} {u : Int × GM} (C : CX G 2 cX12_rate 4 RX12) (hQ : gQI G (some .int) u) {z1 : Int} (hz1 : r32 z1) {z2 : Int} (hz2 : r32 z2) {μ : GM} (hμ : gRg μ) (h : f_X12_rate z1 z2 μ = some u) : WM G 4 μ 0 [(0, gR G 53), (1, vI z1), (2, vI z2)] [] := by
  unfold f_X12_rate at h
  refine o_aload_n C 0 dX12_rate_0 rfl rfl ?_
  refine o_iconst C dX12_rate_1 ?_
  refine o_putI (j := 0) C kt_53 rfl rfl tyX12_ok nmX12 (Nat.le_of_ble_eq_true rfl) lkf_RX12_133 rfl rfl ⟨by decide, by decide⟩ hμ dX12_rate_2 h (fun μ1 hμ1 h => ?_)
  refine o_aload_n C 0 dX12_rate_5 rfl rfl ?_
  refine o_iload_n C 1 dX12_rate_6 rfl rfl ?_
  refine o_cVI C [vI z1] mb_X12_noWell (by decide) (fun _ hu => c_X12_noWell hz1 hμ1 hu) rfl (Nat.le_of_ble_eq_true rfl) h mi_X12_noWell me_X12_noWell lkm_RX12_175 kt_53 rfl rfl rfl dX12_rate_7 (fun x2 μ3 hx2 hμ3 h => ?_)
  refine o_if_eq (tgt := 16) C hx2 dX12_rate_10 (by decide) h (fun _ h => ?_) (fun _ h => ?_)
  · refine o_iload_n C 2 dX12_rate_16 rfl rfl ?_
    refine o_i2l C hz2 dX12_rate_17 ?_
    refine o_lconst (v := 0) C dX12_rate_18 rfl ?_
    refine o_aload_n C 0 dX12_rate_19 rfl rfl ?_
    refine o_getR (j := 20) C kt_53 rfl rfl (Nat.le_of_ble_eq_true rfl) lkf_RX12_52 dX12_rate_20 ?_
    refine o_iload_n C 1 dX12_rate_23 rfl rfl ?_
    refine o_iald C kt_68 rfl hz1 dX12_rate_24 h (fun h => ?_)
    refine o_i2l C (hμ3.i kt_68 (by decide) _) dX12_rate_25 ?_
    refine o_cSI C [vJ z2, vJ 0, vJ (μ3.1 68 z1)] mb_X12_in (by decide) (fun _ hu => c_X12_in (r32_r64 hz2) ⟨by decide, by decide⟩ (r32_r64 (hμ3.i kt_68 (by decide) _)) hμ3 hu) rfl (Nat.le_of_ble_eq_true rfl) h ms_X12_in lkm_RX12_140 rfl rfl dX12_rate_26 (fun x4 μ5 hx4 hμ5 h => ?_)
    refine o_if_ne (tgt := 35) C hx4 dX12_rate_29 (by decide) h (fun _ h => ?_) (fun _ h => ?_)
    · refine o_aload_n C 0 dX12_rate_35 rfl rfl ?_
      refine o_getR (j := 22) C kt_53 rfl rfl (Nat.le_of_ble_eq_true rfl) lkf_RX12_58 dX12_rate_36 ?_
      refine o_iload_n C 1 dX12_rate_39 rfl rfl ?_
      refine o_iald C kt_70 rfl hz1 dX12_rate_40 h (fun h => ?_)
      refine o_lt h (hμ5.i kt_70 (by decide) _) (fun x6 hx6 h => ?_)
      refine o_istore_n (lv2 := [(3, vI x6), (0, gR G 53), (1, vI z1), (2, vI z2)]) C dX12_rate_41 rfl (by decide) rfl ?_
      refine o_aload_n C 1 dX12_rate_42 rfl rfl ?_
      refine o_getR (j := 22) C kt_53 rfl rfl (Nat.le_of_ble_eq_true rfl) lkf_RX12_58 dX12_rate_43 ?_
      refine o_iload_n C 2 dX12_rate_46 rfl rfl ?_
      refine o_iload_n C 3 dX12_rate_47 rfl rfl ?_
      refine o_iast C kt_70 rfl hz1 hz2 hμ5 dX12_rate_48 h (fun μ7 hμ7 h => ?_)
      refine o_iload_n C 0 dX12_rate_49 rfl rfl ?_
      exact o_iret C hQ dX12_rate_50 h hx6 hμ7
    · refine o_ldc (v := (-10000002)) C lkc_RX12_153 rfl dX12_rate_32 ?_
      exact o_iret C hQ dX12_rate_34 h ⟨by decide, by decide⟩ hμ5
  · refine o_ldc (v := (-10000001)) C lkc_RX12_159 rfl dX12_rate_13 ?_
    exact o_iret C hQ dX12_rate_15 h ⟨by decide, by decide⟩ hμ3
theorem c_X12_rate {z1 : Int} (hz1 : r32 z1) {z2 : Int} (hz2 : r32 z2) {μ : GM} (hμ : gRg μ) {u : Int × GM} (h : f_X12_rate z1 z2 μ = some u) : MtI 2 yX12_rate cX12_rate 4 (some .int) (fun ad => [.ref (ad 53), vI z1, vI z2]) μ u := MtI.of pf_X12_rate (fun _ => Nat.le_of_ble_eq_true rfl) (fun G C hQ => w_X12_rate_0 C hQ hz1 hz2 hμ h)
