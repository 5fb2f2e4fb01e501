def FU : Nat := 5000
theorem r32_len (k : Nat) : r32 ((gLen k : Nat) : Int) := by
  have h : ∀ e ∈ gKT, e.2.1 ≤ 1000 := by decide +kernel
  have h2 : gLen k ≤ 1000 := by
    unfold gLen
    rw [List.getD_eq_getElem?_getD]
    cases hk : gKT[k]? with
    | none => exact Nat.zero_le _
    | some e => exact h e (List.mem_of_getElem? hk)
  exact ⟨by omega, by omega⟩
theorem r32_fac (i : Nat) : r32 (gfac i) := by
  unfold gfac
  split <;> exact ⟨by decide, by decide⟩
def f_J9_abs_0f7a4 (z0 : Int) (μ : GM) : Option (Int × GM) :=
  if z0 < 0 then
    some ((w32 (-z0)), μ)
  else
    some (z0, μ)
set_option maxHeartbeats 4000000 in
set_option maxRecDepth 100000 in
theorem w_J9_abs_0f7a4_0 {G : GX} {u : Int × GM} (C : CX G 0 cJ9_abs_0f7a4 1 RJ9) (hQ : gQI G (some .int) u) {z0 : Int} (hz0 : r32 z0) {μ : GM} (hμ : gRg μ) (h : f_J9_abs_0f7a4 z0 μ = some u) : WM G 1 μ 0 [(0, vI z0)] [] := by
  unfold f_J9_abs_0f7a4 at h
  refine o_iload_n C 0 dJ9_abs_0f7a4_0 rfl rfl ?_
  refine o_if_ge (tgt := 9) C hz0 dJ9_abs_0f7a4_1 (by decide) h (fun _ h => ?_) (fun _ h => ?_)
  · refine o_iload_n C 0 dJ9_abs_0f7a4_9 rfl rfl ?_
    exact o_iret C hQ dJ9_abs_0f7a4_10 h hz0 hμ
  · refine o_iload_n C 0 dJ9_abs_0f7a4_4 rfl rfl ?_
    refine o_ineg C dJ9_abs_0f7a4_5 ?_
    refine o_goto (tgt := 10) C dJ9_abs_0f7a4_6 (by decide) ?_
    exact o_iret C hQ dJ9_abs_0f7a4_10 h (r32_w _) hμ
theorem c_J9_abs_0f7a4 {z0 : Int} (hz0 : r32 z0) {μ : GM} (hμ : gRg μ) {u : Int × GM} (h : f_J9_abs_0f7a4 z0 μ = some u) : MtI 0 yJ9_abs_0f7a4 cJ9_abs_0f7a4 1 (some .int) (fun ad => [vI z0]) μ u := MtI.of pf_J9_abs_0f7a4 (fun _ => Nat.le_of_ble_eq_true rfl) (fun G C hQ => w_J9_abs_0f7a4_0 C hQ hz0 hμ h)
def f_J9_abs_067f4 (z0 : Int) (μ : GM) : Option (Int × GM) :=
  if z0 < 0 then
    some ((w64 (-z0)), μ)
  else
    some (z0, μ)
set_option maxHeartbeats 4000000 in
set_option maxRecDepth 100000 in
theorem w_J9_abs_067f4_0 {G : GX} {u : Int × GM} (C : CX G 0 cJ9_abs_067f4 2 RJ9) (hQ : gQL G (some .long) u) {z0 : Int} (hz0 : r64 z0) {μ : GM} (hμ : gRg μ) (h : f_J9_abs_067f4 z0 μ = some u) : WM G 2 μ 0 [(0, vJ z0)] [] := by
  unfold f_J9_abs_067f4 at h
  refine o_lload_n C 0 dJ9_abs_067f4_0 rfl rfl ?_
  refine o_lconst (v := 0) C dJ9_abs_067f4_1 rfl ?_
  refine o_lcmp_ge (tgt := 11) C hz0 ⟨by decide, by decide⟩ dJ9_abs_067f4_2 dJ9_abs_067f4_3 (by decide) h (fun _ h => ?_) (fun _ h => ?_)
  · refine o_lload_n C 0 dJ9_abs_067f4_11 rfl rfl ?_
    exact o_lret C hQ dJ9_abs_067f4_12 h hz0 hμ
  · refine o_lload_n C 0 dJ9_abs_067f4_6 rfl rfl ?_
    refine o_lneg C dJ9_abs_067f4_7 ?_
    refine o_goto (tgt := 12) C dJ9_abs_067f4_8 (by decide) ?_
    exact o_lret C hQ dJ9_abs_067f4_12 h (r64_w _) hμ
theorem c_J9_abs_067f4 {z0 : Int} (hz0 : r64 z0) {μ : GM} (hμ : gRg μ) {u : Int × GM} (h : f_J9_abs_067f4 z0 μ = some u) : MtL 0 yJ9_abs_067f4 cJ9_abs_067f4 2 (some .long) (fun ad => [vJ z0]) μ u := MtL.of pf_J9_abs_067f4 (fun _ => Nat.le_of_ble_eq_true rfl) (fun G C hQ => w_J9_abs_067f4_0 C hQ hz0 hμ h)
def f_J9_floorDiv_f86c9 (z0 : Int) (z2 : Int) (μ : GM) : Option (Int × GM) :=
  ck (z2 ≠ 0) (
  lt (w64 (Int.tdiv z0 z2)) fun x1 =>
  if (glxor z0 z2) < 0 then
    if (w64 (x1 * z2)) = z0 then
      some (x1, μ)
    else
      some ((w64 (x1 - 1)), μ)
  else
    some (x1, μ))
set_option maxHeartbeats 4000000 in
set_option maxRecDepth 100000 in
theorem w_J9_floorDiv_f86c9_0 {G : GX} {u : Int × GM} (C : CX G 0 cJ9_floorDiv_f86c9 6 RJ9) (hQ : gQL G (some .long) u) {z0 : Int} (hz0 : r64 z0) {z2 : Int} (hz2 : r64 z2) {μ : GM} (hμ : gRg μ) (h : f_J9_floorDiv_f86c9 z0 z2 μ = some u) : WM G 6 μ 0 [(0, vJ z0), (2, vJ z2)] [] := by
  unfold f_J9_floorDiv_f86c9 at h
  refine o_lload_n C 0 dJ9_floorDiv_f86c9_0 rfl rfl ?_
  refine o_lload_n C 1 dJ9_floorDiv_f86c9_1 rfl rfl ?_
  refine o_ldiv C hz0 hz2 dJ9_floorDiv_f86c9_2 h (fun h => ?_)
  refine o_ltl h (r64_w _) (fun x1 hx1 h => ?_)
  refine o_lstore (lv2 := [(4, vJ x1), (0, vJ z0), (2, vJ z2)]) C dJ9_floorDiv_f86c9_3 (by decide) rfl ?_
  refine o_lload_n C 1 dJ9_floorDiv_f86c9_5 rfl rfl ?_
  refine o_lload_n C 2 dJ9_floorDiv_f86c9_6 rfl rfl ?_
  refine o_lxor C dJ9_floorDiv_f86c9_7 ?_
  refine o_lconst (v := 0) C dJ9_floorDiv_f86c9_8 rfl ?_
  refine o_lcmp_ge (tgt := 27) C (r64_toInt _) ⟨by decide, by decide⟩ dJ9_floorDiv_f86c9_9 dJ9_floorDiv_f86c9_10 (by decide) h (fun _ h => ?_) (fun _ h => ?_)
  · refine o_lload C 0 dJ9_floorDiv_f86c9_27 rfl ?_
    exact o_lret C hQ dJ9_floorDiv_f86c9_29 h hx1 hμ
  · refine o_lload C 0 dJ9_floorDiv_f86c9_13 rfl ?_
    refine o_lload_n C 2 dJ9_floorDiv_f86c9_15 rfl rfl ?_
    refine o_lmul C dJ9_floorDiv_f86c9_16 ?_
    refine o_lload_n C 1 dJ9_floorDiv_f86c9_17 rfl rfl ?_
    refine o_lcmp_eq (tgt := 27) C (r64_w _) hz0 dJ9_floorDiv_f86c9_18 dJ9_floorDiv_f86c9_19 (by decide) h (fun _ h => ?_) (fun _ h => ?_)
    · refine o_lload C 0 dJ9_floorDiv_f86c9_27 rfl ?_
      exact o_lret C hQ dJ9_floorDiv_f86c9_29 h hx1 hμ
    · refine o_lload C 0 dJ9_floorDiv_f86c9_22 rfl ?_
      refine o_lconst (v := 1) C dJ9_floorDiv_f86c9_24 rfl ?_
      refine o_lsub C dJ9_floorDiv_f86c9_25 ?_
      exact o_lret C hQ dJ9_floorDiv_f86c9_26 h (r64_w _) hμ
theorem c_J9_floorDiv_f86c9 {z0 : Int} (hz0 : r64 z0) {z2 : Int} (hz2 : r64 z2) {μ : GM} (hμ : gRg μ) {u : Int × GM} (h : f_J9_floorDiv_f86c9 z0 z2 μ = some u) : MtL 0 yJ9_floorDiv_f86c9 cJ9_floorDiv_f86c9 6 (some .long) (fun ad => [vJ z0, vJ z2]) μ u := MtL.of pf_J9_floorDiv_f86c9 (fun _ => Nat.le_of_ble_eq_true rfl) (fun G C hQ => w_J9_floorDiv_f86c9_0 C hQ hz0 hz2 hμ h)
def f_J9_max_7cf53 (z0 : Int) (z1 : Int) (μ : GM) : Option (Int × GM) :=
  if z0 < z1 then
    some (z1, μ)
  else
    some (z0, μ)
set_option maxHeartbeats 4000000 in
set_option maxRecDepth 100000 in
theorem w_J9_max_7cf53_0 {G : GX} {u : Int × GM} (C : CX G 0 cJ9_max_7cf53 2 RJ9) (hQ : gQI G (some .int) u) {z0 : Int} (hz0 : r32 z0) {z1 : Int} (hz1 : r32 z1) {μ : GM} (hμ : gRg μ) (h : f_J9_max_7cf53 z0 z1 μ = some u) : WM G 2 μ 0 [(0, vI z0), (1, vI z1)] [] := by
  unfold f_J9_max_7cf53 at h
  refine o_iload_n C 0 dJ9_max_7cf53_0 rfl rfl ?_
  refine o_iload_n C 1 dJ9_max_7cf53_1 rfl rfl ?_
  refine o_icmp_lt (tgt := 9) C hz0 hz1 dJ9_max_7cf53_2 (by decide) h (fun _ h => ?_) (fun _ h => ?_)
  · refine o_iload_n C 1 dJ9_max_7cf53_9 rfl rfl ?_
    exact o_iret C hQ dJ9_max_7cf53_10 h hz1 hμ
  · refine o_iload_n C 0 dJ9_max_7cf53_5 rfl rfl ?_
    refine o_goto (tgt := 10) C dJ9_max_7cf53_6 (by decide) ?_
    exact o_iret C hQ dJ9_max_7cf53_10 h hz0 hμ
theorem c_J9_max_7cf53 {z0 : Int} (hz0 : r32 z0) {z1 : Int} (hz1 : r32 z1) {μ : GM} (hμ : gRg μ) {u : Int × GM} (h : f_J9_max_7cf53 z0 z1 μ = some u) : MtI 0 yJ9_max_7cf53 cJ9_max_7cf53 2 (some .int) (fun ad => [vI z0, vI z1]) μ u := MtI.of pf_J9_max_7cf53 (fun _ => Nat.le_of_ble_eq_true rfl) (fun G C hQ => w_J9_max_7cf53_0 C hQ hz0 hz1 hμ h)
def f_J9_max_f86c9 (z0 : Int) (z2 : Int) (μ : GM) : Option (Int × GM) :=
  if z0 < z2 then
    some (z2, μ)
  else
    some (z0, μ)
set_option maxHeartbeats 4000000 in
set_option maxRecDepth 100000 in
theorem w_J9_max_f86c9_0 {G : GX} {u : Int × GM} (C : CX G 0 cJ9_max_f86c9 4 RJ9) (hQ : gQL G (some .long) u) {z0 : Int} (hz0 : r64 z0) {z2 : Int} (hz2 : r64 z2) {μ : GM} (hμ : gRg μ) (h : f_J9_max_f86c9 z0 z2 μ = some u) : WM G 4 μ 0 [(0, vJ z0), (2, vJ z2)] [] := by
  unfold f_J9_max_f86c9 at h
  refine o_lload_n C 0 dJ9_max_f86c9_0 rfl rfl ?_
  refine o_lload_n C 1 dJ9_max_f86c9_1 rfl rfl ?_
  refine o_lcmp_lt (tgt := 10) C hz0 hz2 dJ9_max_f86c9_2 dJ9_max_f86c9_3 (by decide) h (fun _ h => ?_) (fun _ h => ?_)
  · refine o_lload_n C 1 dJ9_max_f86c9_10 rfl rfl ?_
    exact o_lret C hQ dJ9_max_f86c9_11 h hz2 hμ
  · refine o_lload_n C 0 dJ9_max_f86c9_6 rfl rfl ?_
    refine o_goto (tgt := 11) C dJ9_max_f86c9_7 (by decide) ?_
    exact o_lret C hQ dJ9_max_f86c9_11 h hz0 hμ
theorem c_J9_max_f86c9 {z0 : Int} (hz0 : r64 z0) {z2 : Int} (hz2 : r64 z2) {μ : GM} (hμ : gRg μ) {u : Int × GM} (h : f_J9_max_f86c9 z0 z2 μ = some u) : MtL 0 yJ9_max_f86c9 cJ9_max_f86c9 4 (some .long) (fun ad => [vJ z0, vJ z2]) μ u := MtL.of pf_J9_max_f86c9 (fun _ => Nat.le_of_ble_eq_true rfl) (fun G C hQ => w_J9_max_f86c9_0 C hQ hz0 hz2 hμ h)
def f_J9_min_7cf53 (z0 : Int) (z1 : Int) (μ : GM) : Option (Int × GM) :=
  if z1 < z0 then
    some (z1, μ)
  else
    some (z0, μ)
set_option maxHeartbeats 4000000 in
set_option maxRecDepth 100000 in
theorem w_J9_min_7cf53_0 {G : GX} {u : Int × GM} (C : CX G 0 cJ9_min_7cf53 2 RJ9) (hQ : gQI G (some .int) u) {z0 : Int} (hz0 : r32 z0) {z1 : Int} (hz1 : r32 z1) {μ : GM} (hμ : gRg μ) (h : f_J9_min_7cf53 z0 z1 μ = some u) : WM G 2 μ 0 [(0, vI z0), (1, vI z1)] [] := by
  unfold f_J9_min_7cf53 at h
  refine o_iload_n C 0 dJ9_min_7cf53_0 rfl rfl ?_
  refine o_iload_n C 1 dJ9_min_7cf53_1 rfl rfl ?_
  refine o_icmp_gt (tgt := 9) C hz0 hz1 dJ9_min_7cf53_2 (by decide) h (fun _ h => ?_) (fun _ h => ?_)
  · refine o_iload_n C 1 dJ9_min_7cf53_9 rfl rfl ?_
    exact o_iret C hQ dJ9_min_7cf53_10 h hz1 hμ
  · refine o_iload_n C 0 dJ9_min_7cf53_5 rfl rfl ?_
    refine o_goto (tgt := 10) C dJ9_min_7cf53_6 (by decide) ?_
    exact o_iret C hQ dJ9_min_7cf53_10 h hz0 hμ
theorem c_J9_min_7cf53 {z0 : Int} (hz0 : r32 z0) {z1 : Int} (hz1 : r32 z1) {μ : GM} (hμ : gRg μ) {u : Int × GM} (h : f_J9_min_7cf53 z0 z1 μ = some u) : MtI 0 yJ9_min_7cf53 cJ9_min_7cf53 2 (some .int) (fun ad => [vI z0, vI z1]) μ u := MtI.of pf_J9_min_7cf53 (fun _ => Nat.le_of_ble_eq_true rfl) (fun G C hQ => w_J9_min_7cf53_0 C hQ hz0 hz1 hμ h)
def f_J6_bitCount_0f7a4 (z0 : Int) (μ : GM) : Option (Int × GM) :=
  lt (w32 (z0 - (gand (gushr z0 1) 1431655765))) fun x1 =>
  lt (w32 ((gand x1 858993459) + (gand (gushr x1 2) 858993459))) fun x2 =>
  lt (gand (w32 (x2 + (gushr x2 4))) 252645135) fun x3 =>
  lt (w32 (x3 + (gushr x3 8))) fun x4 =>
  lt (w32 (x4 + (gushr x4 16))) fun x5 =>
  some ((gand x5 63), μ)
set_option maxHeartbeats 4000000 in
set_option maxRecDepth 100000 in
theorem w_J6_bitCount_0f7a4_0 {G : GX} {u : Int × GM} (C : CX G 0 cJ6_bitCount_0f7a4 1 RJ6) (hQ : gQI G (some .int) u) {z0 : Int} (hz0 : r32 z0) {μ : GM} (hμ : gRg μ) (h : f_J6_bitCount_0f7a4 z0 μ = some u) : WM G 1 μ 0 [(0, vI z0)] [] := by
  unfold f_J6_bitCount_0f7a4 at h
  refine o_iload_n C 0 dJ6_bitCount_0f7a4_0 rfl rfl ?_
  refine o_iload_n C 0 dJ6_bitCount_0f7a4_1 rfl rfl ?_
  refine o_iconst C dJ6_bitCount_0f7a4_2 ?_
  refine o_iushr C dJ6_bitCount_0f7a4_3 ?_
  refine o_ldcw (v := 1431655765) C lkc_RJ6_265 rfl dJ6_bitCount_0f7a4_4 ?_
  refine o_iand C dJ6_bitCount_0f7a4_7 ?_
  refine o_isub C dJ6_bitCount_0f7a4_8 ?_
  refine o_lt h (r32_w _) (fun x1 hx1 h => ?_)
  refine o_istore_n (lv2 := [(0, vI x1)]) C dJ6_bitCount_0f7a4_9 rfl (by decide) rfl ?_
  refine o_iload_n C 0 dJ6_bitCount_0f7a4_10 rfl rfl ?_
  refine o_ldcw (v := 858993459) C lkc_RJ6_266 rfl dJ6_bitCount_0f7a4_11 ?_
  refine o_iand C dJ6_bitCount_0f7a4_14 ?_
  refine o_iload_n C 0 dJ6_bitCount_0f7a4_15 rfl rfl ?_
  refine o_iconst C dJ6_bitCount_0f7a4_16 ?_
  refine o_iushr C dJ6_bitCount_0f7a4_17 ?_
  refine o_ldcw (v := 858993459) C lkc_RJ6_266 rfl dJ6_bitCount_0f7a4_18 ?_
  refine o_iand C dJ6_bitCount_0f7a4_21 ?_
  refine o_iadd C dJ6_bitCount_0f7a4_22 ?_
  refine o_lt h (r32_w _) (fun x2 hx2 h => ?_)
  refine o_istore_n (lv2 := [(0, vI x2)]) C dJ6_bitCount_0f7a4_23 rfl (by decide) rfl ?_
  refine o_iload_n C 0 dJ6_bitCount_0f7a4_24 rfl rfl ?_
  refine o_iload_n C 0 dJ6_bitCount_0f7a4_25 rfl rfl ?_
  refine o_iconst C dJ6_bitCount_0f7a4_26 ?_
  refine o_iushr C dJ6_bitCount_0f7a4_27 ?_
  refine o_iadd C dJ6_bitCount_0f7a4_28 ?_
  refine o_ldcw (v := 252645135) C lkc_RJ6_267 rfl dJ6_bitCount_0f7a4_29 ?_
  refine o_iand C dJ6_bitCount_0f7a4_32 ?_
  refine o_lt h (r32_toInt _) (fun x3 hx3 h => ?_)
  refine o_istore_n (lv2 := [(0, vI x3)]) C dJ6_bitCount_0f7a4_33 rfl (by decide) rfl ?_
  refine o_iload_n C 0 dJ6_bitCount_0f7a4_34 rfl rfl ?_
  refine o_iload_n C 0 dJ6_bitCount_0f7a4_35 rfl rfl ?_
  refine o_bipush (v := 8) C dJ6_bitCount_0f7a4_36 (by decide) ?_
  refine o_iushr C dJ6_bitCount_0f7a4_38 ?_
  refine o_iadd C dJ6_bitCount_0f7a4_39 ?_
  refine o_lt h (r32_w _) (fun x4 hx4 h => ?_)
  refine o_istore_n (lv2 := [(0, vI x4)]) C dJ6_bitCount_0f7a4_40 rfl (by decide) rfl ?_
  refine o_iload_n C 0 dJ6_bitCount_0f7a4_41 rfl rfl ?_
  refine o_iload_n C 0 dJ6_bitCount_0f7a4_42 rfl rfl ?_
  refine o_bipush (v := 16) C dJ6_bitCount_0f7a4_43 (by decide) ?_
  refine o_iushr C dJ6_bitCount_0f7a4_45 ?_
  refine o_iadd C dJ6_bitCount_0f7a4_46 ?_
  refine o_lt h (r32_w _) (fun x5 hx5 h => ?_)
  refine o_istore_n (lv2 := [(0, vI x5)]) C dJ6_bitCount_0f7a4_47 rfl (by decide) rfl ?_
  refine o_iload_n C 0 dJ6_bitCount_0f7a4_48 rfl rfl ?_
  refine o_bipush (v := 63) C dJ6_bitCount_0f7a4_49 (by decide) ?_
  refine o_iand C dJ6_bitCount_0f7a4_51 ?_
  exact o_iret C hQ dJ6_bitCount_0f7a4_52 h (r32_toInt _) hμ
theorem c_J6_bitCount_0f7a4 {z0 : Int} (hz0 : r32 z0) {μ : GM} (hμ : gRg μ) {u : Int × GM} (h : f_J6_bitCount_0f7a4 z0 μ = some u) : MtI 0 yJ6_bitCount_0f7a4 cJ6_bitCount_0f7a4 1 (some .int) (fun ad => [vI z0]) μ u := MtI.of pf_J6_bitCount_0f7a4 (fun _ => Nat.le_of_ble_eq_true rfl) (fun G C hQ => w_J6_bitCount_0f7a4_0 C hQ hz0 hμ h)
def k_J7_fill_53178_5 (a0 : Nat) : Nat → Int → Int → Int → GM → Option (Int × GM)
  | 0, _, _, _, _ => none
  | n + 1, z1, z2, z3, μ =>
    if z2 < z3 then
      ck (0 ≤ z2 ∧ z2 < ((gLen a0 : Nat) : Int)) (lm (gA μ a0 z2 z1) fun μ1 =>
      lt (w32 (z2 + 1)) fun x2 =>
      k_J7_fill_53178_5 a0 n z1 x2 z3 μ1)
    else
      some (0, μ)
set_option maxHeartbeats 4000000 in
set_option maxRecDepth 100000 in
theorem w_J7_fill_53178_5 {G : GX} {u : Int × GM} (C : CX G 0 cJ7_fill_53178 4 RJ7) (hQ : gQV G none u) {a0 : Nat} (ha0 : gKT[a0]? = some (0, gLen a0, 0, [])) : ∀ (n : Nat) (z1 : Int) (hz1 : r32 z1) (z2 : Int) (hz2 : r32 z2) (z3 : Int) (hz3 : r32 z3) (μ : GM) (hμ : gRg μ), k_J7_fill_53178_5 a0 n z1 z2 z3 μ = some u → WM G 4 μ 5 [(0, gR G a0), (1, vI z1), (2, vI z2), (3, vI z3)] [] := by
  intro n
  induction n with
  | zero =>
    intro z1 hz1 z2 hz2 z3 hz3 μ hμ h
    cases h
  | succ n ih =>
    intro z1 hz1 z2 hz2 z3 hz3 μ hμ h
    rw [k_J7_fill_53178_5] at h
    refine o_iload_n C 2 dJ7_fill_53178_5 rfl rfl ?_
    refine o_iload_n C 3 dJ7_fill_53178_6 rfl rfl ?_
    refine o_icmp_ge (tgt := 20) C hz2 hz3 dJ7_fill_53178_7 (by decide) h (fun _ h => ?_) (fun _ h => ?_)
    · exact o_vret C hQ dJ7_fill_53178_20 h hμ
    · refine o_aload_n C 0 dJ7_fill_53178_10 rfl rfl ?_
      refine o_iload_n C 2 dJ7_fill_53178_11 rfl rfl ?_
      refine o_iload_n C 1 dJ7_fill_53178_12 rfl rfl ?_
      refine o_iast C ha0 rfl hz2 hz1 hμ dJ7_fill_53178_13 h (fun μ1 hμ1 h => ?_)
      refine o_iinc (lv2 := fun x2 => [(2, vI x2), (0, gR G a0), (1, vI z1), (3, vI z3)]) C 2 dJ7_fill_53178_14 rfl (by decide) (fun _ => rfl) h (fun x2 hx2 h => ?_)
      refine o_goto (tgt := 5) C dJ7_fill_53178_17 (by decide) ?_
      exact WM.sub [1, 2, 0, 3] rfl (ih z1 hz1 x2 hx2 z3 hz3 μ1 hμ1 h)
def f_J7_fill_53178 (a0 : Nat) (z1 : Int) (μ : GM) : Option (Int × GM) :=
  lt ((gLen a0 : Nat) : Int) fun x1 =>
  k_J7_fill_53178_5 a0 FU z1 0 x1 μ
set_option maxHeartbeats 4000000 in
set_option maxRecDepth 100000 in
theorem w_J7_fill_53178_0 {G : GX} {u : Int × GM} (C : CX G 0 cJ7_fill_53178 4 RJ7) (hQ : gQV G none u) {a0 : Nat} (ha0 : gKT[a0]? = some (0, gLen a0, 0, [])) {z1 : Int} (hz1 : r32 z1) {μ : GM} (hμ : gRg μ) (h : f_J7_fill_53178 a0 z1 μ = some u) : WM G 4 μ 0 [(0, gR G a0), (1, vI z1)] [] := by
  unfold f_J7_fill_53178 at h
  refine o_iconst C dJ7_fill_53178_0 ?_
  refine o_istore_n (lv2 := [(2, vI 0), (0, gR G a0), (1, vI z1)]) C dJ7_fill_53178_1 rfl (by decide) rfl ?_
  refine o_aload_n C 1 dJ7_fill_53178_2 rfl rfl ?_
  refine o_alen C ha0 (by decide) dJ7_fill_53178_3 ?_
  refine o_lt h (r32_len _) (fun x1 hx1 h => ?_)
  refine o_istore_n (lv2 := [(3, vI x1), (2, vI 0), (0, gR G a0), (1, vI z1)]) C dJ7_fill_53178_4 rfl (by decide) rfl ?_
  exact WM.sub [2, 3, 1, 0] rfl (w_J7_fill_53178_5 C hQ ha0 FU z1 hz1 0 ⟨by decide, by decide⟩ x1 hx1 μ hμ h)
theorem c_J7_fill_53178 {a0 : Nat} (ha0 : gKT[a0]? = some (0, gLen a0, 0, [])) {z1 : Int} (hz1 : r32 z1) {μ : GM} (hμ : gRg μ) {u : Int × GM} (h : f_J7_fill_53178 a0 z1 μ = some u) : MtV 0 yJ7_fill_53178 cJ7_fill_53178 4 none (fun ad => [.ref (ad a0), vI z1]) μ u := MtV.of pf_J7_fill_53178 (fun _ => Nat.le_of_ble_eq_true rfl) (fun G C hQ => w_J7_fill_53178_0 C hQ ha0 hz1 hμ h)
def k_J7_fill_d0a16_6 (a0 : Nat) : Nat → Int → Int → Int → GM → Option (Int × GM)
  | 0, _, _, _, _ => none
  | n + 1, z1, z3, z4, μ =>
    if z3 < z4 then
      ck (0 ≤ z3 ∧ z3 < ((gLen a0 : Nat) : Int)) (lm (gA μ a0 z3 z1) fun μ1 =>
      lt (w32 (z3 + 1)) fun x2 =>
      k_J7_fill_d0a16_6 a0 n z1 x2 z4 μ1)
    else
      some (0, μ)
set_option maxHeartbeats 4000000 in
set_option maxRecDepth 100000 in
theorem w_J7_fill_d0a16_6 {G : GX} {u : Int × GM} (C : CX G 0 cJ7_fill_d0a16 5 RJ7) (hQ : gQV G none u) {a0 : Nat} (ha0 : gKT[a0]? = some (2, gLen a0, 0, [])) : ∀ (n : Nat) (z1 : Int) (hz1 : r64 z1) (z3 : Int) (hz3 : r32 z3) (z4 : Int) (hz4 : r32 z4) (μ : GM) (hμ : gRg μ), k_J7_fill_d0a16_6 a0 n z1 z3 z4 μ = some u → WM G 5 μ 6 [(0, gR G a0), (1, vJ z1), (3, vI z3), (4, vI z4)] [] := by
  intro n
  induction n with
  | zero =>
    intro z1 hz1 z3 hz3 z4 hz4 μ hμ h
    cases h
  | succ n ih =>
    intro z1 hz1 z3 hz3 z4 hz4 μ hμ h
    rw [k_J7_fill_d0a16_6] at h
    refine o_iload_n C 2 dJ7_fill_d0a16_6 rfl rfl ?_
    refine o_iload C 3 dJ7_fill_d0a16_7 rfl ?_
    refine o_icmp_ge (tgt := 22) C hz3 hz4 dJ7_fill_d0a16_9 (by decide) h (fun _ h => ?_) (fun _ h => ?_)
    · exact o_vret C hQ dJ7_fill_d0a16_22 h hμ
    · refine o_aload_n C 0 dJ7_fill_d0a16_12 rfl rfl ?_
      refine o_iload_n C 2 dJ7_fill_d0a16_13 rfl rfl ?_
      refine o_lload_n C 1 dJ7_fill_d0a16_14 rfl rfl ?_
      refine o_last C ha0 rfl hz3 hz1 hμ dJ7_fill_d0a16_15 h (fun μ1 hμ1 h => ?_)
      refine o_iinc (lv2 := fun x2 => [(3, vI x2), (0, gR G a0), (1, vJ z1), (4, vI z4)]) C 2 dJ7_fill_d0a16_16 rfl (by decide) (fun _ => rfl) h (fun x2 hx2 h => ?_)
      refine o_goto (tgt := 6) C dJ7_fill_d0a16_19 (by decide) ?_
      exact WM.sub [1, 2, 0, 3] rfl (ih z1 hz1 x2 hx2 z4 hz4 μ1 hμ1 h)
def f_J7_fill_d0a16 (a0 : Nat) (z1 : Int) (μ : GM) : Option (Int × GM) :=
  lt ((gLen a0 : Nat) : Int) fun x1 =>
  k_J7_fill_d0a16_6 a0 FU z1 0 x1 μ
set_option maxHeartbeats 4000000 in
set_option maxRecDepth 100000 in
theorem w_J7_fill_d0a16_0 {G : GX} {u : Int × GM} (C : CX G 0 cJ7_fill_d0a16 5 RJ7) (hQ : gQV G none u) {a0 : Nat} (ha0 : gKT[a0]? = some (2, gLen a0, 0, [])) {z1 : Int} (hz1 : r64 z1) {μ : GM} (hμ : gRg μ) (h : f_J7_fill_d0a16 a0 z1 μ = some u) : WM G 5 μ 0 [(0, gR G a0), (1, vJ z1)] [] := by
  unfold f_J7_fill_d0a16 at h
  refine o_iconst C dJ7_fill_d0a16_0 ?_
  refine o_istore_n (lv2 := [(3, vI 0), (0, gR G a0), (1, vJ z1)]) C dJ7_fill_d0a16_1 rfl (by decide) rfl ?_
  refine o_aload_n C 1 dJ7_fill_d0a16_2 rfl rfl ?_
  refine o_alen C ha0 (by decide) dJ7_fill_d0a16_3 ?_
  refine o_lt h (r32_len _) (fun x1 hx1 h => ?_)
  refine o_istore (lv2 := [(4, vI x1), (3, vI 0), (0, gR G a0), (1, vJ z1)]) C dJ7_fill_d0a16_4 (by decide) rfl ?_
  exact WM.sub [2, 3, 1, 0] rfl (w_J7_fill_d0a16_6 C hQ ha0 FU z1 hz1 0 ⟨by decide, by decide⟩ x1 hx1 μ hμ h)
theorem c_J7_fill_d0a16 {a0 : Nat} (ha0 : gKT[a0]? = some (2, gLen a0, 0, [])) {z1 : Int} (hz1 : r64 z1) {μ : GM} (hμ : gRg μ) {u : Int × GM} (h : f_J7_fill_d0a16 a0 z1 μ = some u) : MtV 0 yJ7_fill_d0a16 cJ7_fill_d0a16 5 none (fun ad => [.ref (ad a0), vJ z1]) μ u := MtV.of pf_J7_fill_d0a16 (fun _ => Nat.le_of_ble_eq_true rfl) (fun G C hQ => w_J7_fill_d0a16_0 C hQ ha0 hz1 hμ h)
def f_X3_has (z1 : Int) (μ : GM) : Option (Int × GM) :=
  if z1 < 0 then
    some (0 % 2, μ)
  else
    if z1 < (μ.2 5 0) then
      some (1 % 2, μ)
    else
      some (0 % 2, μ)
set_option maxHeartbeats 4000000 in
set_option maxRecDepth 100000 in
theorem w_X3_has_0 {G : GX} {u : Int × GM} (C : CX G 0 cX3_has 2 RX3) (hQ : gQI G (some .boolean) u) {z1 : Int} (hz1 : r32 z1) {μ : GM} (hμ : gRg μ) (h : f_X3_has z1 μ = some u) : WM G 2 μ 0 [(0, gR G 5), (1, vI z1)] [] := by
  unfold f_X3_has at h
  refine o_iload_n C 1 dX3_has_0 rfl rfl ?_
  refine o_if_lt (tgt := 16) C hz1 dX3_has_1 (by decide) h (fun _ h => ?_) (fun _ h => ?_)
  · refine o_iconst C dX3_has_16 ?_
    exact o_zret C hQ dX3_has_17 h hμ
  · refine o_iload_n C 1 dX3_has_4 rfl rfl ?_
    refine o_aload_n C 0 dX3_has_5 rfl rfl ?_
    refine o_getI (j := 0) C kt_5 rfl rfl (Nat.le_of_ble_eq_true rfl) lkf_RX3_9 dX3_has_6 ?_
    refine o_icmp_ge (tgt := 16) C hz1 (hμ.fi kt_5 rfl (by decide)) dX3_has_9 (by decide) h (fun _ h => ?_) (fun _ h => ?_)
    · refine o_iconst C dX3_has_16 ?_
      exact o_zret C hQ dX3_has_17 h hμ
    · refine o_iconst C dX3_has_12 ?_
      refine o_goto (tgt := 17) C dX3_has_13 (by decide) ?_
      exact o_zret C hQ dX3_has_17 h hμ
theorem c_X3_has {z1 : Int} (hz1 : r32 z1) {μ : GM} (hμ : gRg μ) {u : Int × GM} (h : f_X3_has z1 μ = some u) : MtI 0 yX3_has cX3_has 2 (some .boolean) (fun ad => [.ref (ad 5), vI z1]) μ u := MtI.of pf_X3_has (fun _ => Nat.le_of_ble_eq_true rfl) (fun G C hQ => w_X3_has_0 C hQ hz1 hμ h)
def f_X3_add (z1 : Int) (z2 : Int) (z3 : Int) (μ : GM) : Option (Int × GM) :=
  ck (0 ≤ (μ.2 5 0) ∧ (μ.2 5 0) < 12) (lm (gA μ 6 (μ.2 5 0) z1) fun μ1 =>
  ck (0 ≤ (μ1.2 5 0) ∧ (μ1.2 5 0) < 12) (lm (gA μ1 7 (μ1.2 5 0) z2) fun μ2 =>
  ck (0 ≤ (μ2.2 5 0) ∧ (μ2.2 5 0) < 12) (lm (gA μ2 8 (μ2.2 5 0) z3) fun μ3 =>
  lm (gF μ3 5 0 (w32 ((μ3.2 5 0) + 1))) fun μ4 =>
  some ((μ3.2 5 0), μ4))))
set_option maxHeartbeats 4000000 in
set_option maxRecDepth 100000 in
theorem w_X3_add_0 {G : GX} {u : Int × GM} (C : CX G 0 cX3_add 4 RX3) (hQ : gQI G (some .int) u) {z1 : Int} (hz1 : r32 z1) {z2 : Int} (hz2 : r32 z2) {z3 : Int} (hz3 : r32 z3) {μ : GM} (hμ : gRg μ) (h : f_X3_add z1 z2 z3 μ = some u) : WM G 4 μ 0 [(0, gR G 5), (1, vI z1), (2, vI z2), (3, vI z3)] [] := by
  unfold f_X3_add at h
  refine o_aload_n C 0 dX3_add_0 rfl rfl ?_
  refine o_getR (j := 1) C kt_5 rfl rfl (Nat.le_of_ble_eq_true rfl) lkf_RX3_15 dX3_add_1 ?_
  refine o_aload_n C 0 dX3_add_4 rfl rfl ?_
  refine o_getI (j := 0) C kt_5 rfl rfl (Nat.le_of_ble_eq_true rfl) lkf_RX3_9 dX3_add_5 ?_
  refine o_iload_n C 1 dX3_add_8 rfl rfl ?_
  refine o_iast C kt_6 rfl (hμ.fi kt_5 rfl (by decide)) hz1 hμ dX3_add_9 h (fun μ1 hμ1 h => ?_)
  refine o_aload_n C 0 dX3_add_10 rfl rfl ?_
  refine o_getR (j := 2) C kt_5 rfl rfl (Nat.le_of_ble_eq_true rfl) lkf_RX3_19 dX3_add_11 ?_
  refine o_aload_n C 0 dX3_add_14 rfl rfl ?_
  refine o_getI (j := 0) C kt_5 rfl rfl (Nat.le_of_ble_eq_true rfl) lkf_RX3_9 dX3_add_15 ?_
  refine o_iload_n C 2 dX3_add_18 rfl rfl ?_
  refine o_iast C kt_7 rfl (hμ1.fi kt_5 rfl (by decide)) hz2 hμ1 dX3_add_19 h (fun μ2 hμ2 h => ?_)
  refine o_aload_n C 0 dX3_add_20 rfl rfl ?_
  refine o_getR (j := 3) C kt_5 rfl rfl (Nat.le_of_ble_eq_true rfl) lkf_RX3_22 dX3_add_21 ?_
  refine o_aload_n C 0 dX3_add_24 rfl rfl ?_
  refine o_getI (j := 0) C kt_5 rfl rfl (Nat.le_of_ble_eq_true rfl) lkf_RX3_9 dX3_add_25 ?_
  refine o_iload_n C 3 dX3_add_28 rfl rfl ?_
  refine o_iast C kt_8 rfl (hμ2.fi kt_5 rfl (by decide)) hz3 hμ2 dX3_add_29 h (fun μ3 hμ3 h => ?_)
  refine o_aload_n C 0 dX3_add_30 rfl rfl ?_
  refine o_dupr C dX3_add_31 ?_
  refine o_getI (j := 0) C kt_5 rfl rfl (Nat.le_of_ble_eq_true rfl) lkf_RX3_9 dX3_add_32 ?_
  refine o_dupx1ri C dX3_add_35 ?_
  refine o_iconst C dX3_add_36 ?_
  refine o_iadd C dX3_add_37 ?_
  refine o_putI (j := 0) C kt_5 rfl rfl tyX3_ok nmX3 (Nat.le_of_ble_eq_true rfl) lkf_RX3_9 rfl rfl (r32_w _) hμ3 dX3_add_38 h (fun μ4 hμ4 h => ?_)
  exact o_iret C hQ dX3_add_41 h (hμ3.fi kt_5 rfl (by decide)) hμ4
theorem c_X3_add {z1 : Int} (hz1 : r32 z1) {z2 : Int} (hz2 : r32 z2) {z3 : Int} (hz3 : r32 z3) {μ : GM} (hμ : gRg μ) {u : Int × GM} (h : f_X3_add z1 z2 z3 μ = some u) : MtI 0 yX3_add cX3_add 4 (some .int) (fun ad => [.ref (ad 5), vI z1, vI z2, vI z3]) μ u := MtI.of pf_X3_add (fun _ => Nat.le_of_ble_eq_true rfl) (fun G C hQ => w_X3_add_0 C hQ hz1 hz2 hz3 hμ h)
def f_X7_has (z1 : Int) (μ : GM) : Option (Int × GM) :=
  if z1 < 0 then
    some (0 % 2, μ)
  else
    if z1 < (μ.2 9 0) then
      some (1 % 2, μ)
    else
      some (0 % 2, μ)
set_option maxHeartbeats 4000000 in
set_option maxRecDepth 100000 in
theorem w_X7_has_0 {G : GX} {u : Int × GM} (C : CX G 0 cX7_has 2 RX7) (hQ : gQI G (some .boolean) u) {z1 : Int} (hz1 : r32 z1) {μ : GM} (hμ : gRg μ) (h : f_X7_has z1 μ = some u) : WM G 2 μ 0 [(0, gR G 9), (1, vI z1)] [] := by
  unfold f_X7_has at h
  refine o_iload_n C 1 dX7_has_0 rfl rfl ?_
  refine o_if_lt (tgt := 16) C hz1 dX7_has_1 (by decide) h (fun _ h => ?_) (fun _ h => ?_)
  · refine o_iconst C dX7_has_16 ?_
    exact o_zret C hQ dX7_has_17 h hμ
  · refine o_iload_n C 1 dX7_has_4 rfl rfl ?_
    refine o_aload_n C 0 dX7_has_5 rfl rfl ?_
    refine o_getI (j := 0) C kt_9 rfl rfl (Nat.le_of_ble_eq_true rfl) lkf_RX7_9 dX7_has_6 ?_
    refine o_icmp_ge (tgt := 16) C hz1 (hμ.fi kt_9 rfl (by decide)) dX7_has_9 (by decide) h (fun _ h => ?_) (fun _ h => ?_)
    · refine o_iconst C dX7_has_16 ?_
      exact o_zret C hQ dX7_has_17 h hμ
    · refine o_iconst C dX7_has_12 ?_
      refine o_goto (tgt := 17) C dX7_has_13 (by decide) ?_
      exact o_zret C hQ dX7_has_17 h hμ
theorem c_X7_has {z1 : Int} (hz1 : r32 z1) {μ : GM} (hμ : gRg μ) {u : Int × GM} (h : f_X7_has z1 μ = some u) : MtI 0 yX7_has cX7_has 2 (some .boolean) (fun ad => [.ref (ad 9), vI z1]) μ u := MtI.of pf_X7_has (fun _ => Nat.le_of_ble_eq_true rfl) (fun G C hQ => w_X7_has_0 C hQ hz1 hμ h)
def f_X7_add (z1 : Int) (z2 : Int) (z3 : Int) (z4 : Int) (μ : GM) : Option (Int × GM) :=
  ck (0 ≤ (μ.2 9 0) ∧ (μ.2 9 0) < 3) (lm (gA μ 10 (μ.2 9 0) z1) fun μ1 =>
  ck (0 ≤ (μ1.2 9 0) ∧ (μ1.2 9 0) < 3) (lm (gA μ1 11 (μ1.2 9 0) z2) fun μ2 =>
  ck (0 ≤ (μ2.2 9 0) ∧ (μ2.2 9 0) < 3) (lm (gA μ2 12 (μ2.2 9 0) z3) fun μ3 =>
  ck (0 ≤ (μ3.2 9 0) ∧ (μ3.2 9 0) < 3) (lm (gA μ3 13 (μ3.2 9 0) z4) fun μ4 =>
  lm (gF μ4 9 0 (w32 ((μ4.2 9 0) + 1))) fun μ5 =>
  some ((μ4.2 9 0), μ5)))))
set_option maxHeartbeats 4000000 in
set_option maxRecDepth 100000 in
theorem w_X7_add_0 {G : GX} {u : Int × GM} (C : CX G 0 cX7_add 5 RX7) (hQ : gQI G (some .int) u) {z1 : Int} (hz1 : r32 z1) {z2 : Int} (hz2 : r32 z2) {z3 : Int} (hz3 : r32 z3) {z4 : Int} (hz4 : r32 z4) {μ : GM} (hμ : gRg μ) (h : f_X7_add z1 z2 z3 z4 μ = some u) : WM G 5 μ 0 [(0, gR G 9), (1, vI z1), (2, vI z2), (3, vI z3), (4, vI z4)] [] := by
  unfold f_X7_add at h
  refine o_aload_n C 0 dX7_add_0 rfl rfl ?_
  refine o_getR (j := 1) C kt_9 rfl rfl (Nat.le_of_ble_eq_true rfl) lkf_RX7_15 dX7_add_1 ?_
  refine o_aload_n C 0 dX7_add_4 rfl rfl ?_
  refine o_getI (j := 0) C kt_9 rfl rfl (Nat.le_of_ble_eq_true rfl) lkf_RX7_9 dX7_add_5 ?_
  refine o_iload_n C 1 dX7_add_8 rfl rfl ?_
  refine o_iast C kt_10 rfl (hμ.fi kt_9 rfl (by decide)) hz1 hμ dX7_add_9 h (fun μ1 hμ1 h => ?_)
  refine o_aload_n C 0 dX7_add_10 rfl rfl ?_
  refine o_getR (j := 2) C kt_9 rfl rfl (Nat.le_of_ble_eq_true rfl) lkf_RX7_19 dX7_add_11 ?_
  refine o_aload_n C 0 dX7_add_14 rfl rfl ?_
  refine o_getI (j := 0) C kt_9 rfl rfl (Nat.le_of_ble_eq_true rfl) lkf_RX7_9 dX7_add_15 ?_
  refine o_iload_n C 2 dX7_add_18 rfl rfl ?_
  refine o_iast C kt_11 rfl (hμ1.fi kt_9 rfl (by decide)) hz2 hμ1 dX7_add_19 h (fun μ2 hμ2 h => ?_)
  refine o_aload_n C 0 dX7_add_20 rfl rfl ?_
  refine o_getR (j := 3) C kt_9 rfl rfl (Nat.le_of_ble_eq_true rfl) lkf_RX7_22 dX7_add_21 ?_
  refine o_aload_n C 0 dX7_add_24 rfl rfl ?_
  refine o_getI (j := 0) C kt_9 rfl rfl (Nat.le_of_ble_eq_true rfl) lkf_RX7_9 dX7_add_25 ?_
  refine o_iload_n C 3 dX7_add_28 rfl rfl ?_
  refine o_iast C kt_12 rfl (hμ2.fi kt_9 rfl (by decide)) hz3 hμ2 dX7_add_29 h (fun μ3 hμ3 h => ?_)
  refine o_aload_n C 0 dX7_add_30 rfl rfl ?_
  refine o_getR (j := 4) C kt_9 rfl rfl (Nat.le_of_ble_eq_true rfl) lkf_RX7_25 dX7_add_31 ?_
  refine o_aload_n C 0 dX7_add_34 rfl rfl ?_
  refine o_getI (j := 0) C kt_9 rfl rfl (Nat.le_of_ble_eq_true rfl) lkf_RX7_9 dX7_add_35 ?_
  refine o_iload C 4 dX7_add_38 rfl ?_
  refine o_iast C kt_13 rfl (hμ3.fi kt_9 rfl (by decide)) hz4 hμ3 dX7_add_40 h (fun μ4 hμ4 h => ?_)
  refine o_aload_n C 0 dX7_add_41 rfl rfl ?_
  refine o_dupr C dX7_add_42 ?_
  refine o_getI (j := 0) C kt_9 rfl rfl (Nat.le_of_ble_eq_true rfl) lkf_RX7_9 dX7_add_43 ?_
  refine o_dupx1ri C dX7_add_46 ?_
  refine o_iconst C dX7_add_47 ?_
  refine o_iadd C dX7_add_48 ?_
  refine o_putI (j := 0) C kt_9 rfl rfl tyX7_ok nmX7 (Nat.le_of_ble_eq_true rfl) lkf_RX7_9 rfl rfl (r32_w _) hμ4 dX7_add_49 h (fun μ5 hμ5 h => ?_)
  exact o_iret C hQ dX7_add_52 h (hμ4.fi kt_9 rfl (by decide)) hμ5
theorem c_X7_add {z1 : Int} (hz1 : r32 z1) {z2 : Int} (hz2 : r32 z2) {z3 : Int} (hz3 : r32 z3) {z4 : Int} (hz4 : r32 z4) {μ : GM} (hμ : gRg μ) {u : Int × GM} (h : f_X7_add z1 z2 z3 z4 μ = some u) : MtI 0 yX7_add cX7_add 5 (some .int) (fun ad => [.ref (ad 9), vI z1, vI z2, vI z3, vI z4]) μ u := MtI.of pf_X7_add (fun _ => Nat.le_of_ble_eq_true rfl) (fun G C hQ => w_X7_add_0 C hQ hz1 hz2 hz3 hz4 hμ h)
def f_X1_has (z1 : Int) (μ : GM) : Option (Int × GM) :=
  if z1 < 0 then
    some (0 % 2, μ)
  else
    if z1 < (μ.2 14 0) then
      some (1 % 2, μ)
    else
      some (0 % 2, μ)
set_option maxHeartbeats 4000000 in
set_option maxRecDepth 100000 in
theorem w_X1_has_0 {G : GX} {u : Int × GM} (C : CX G 0 cX1_has 2 RX1) (hQ : gQI G (some .boolean) u) {z1 : Int} (hz1 : r32 z1) {μ : GM} (hμ : gRg μ) (h : f_X1_has z1 μ = some u) : WM G 2 μ 0 [(0, gR G 14), (1, vI z1)] [] := by
  unfold f_X1_has at h
  refine o_iload_n C 1 dX1_has_0 rfl rfl ?_
  refine o_if_lt (tgt := 16) C hz1 dX1_has_1 (by decide) h (fun _ h => ?_) (fun _ h => ?_)
  · refine o_iconst C dX1_has_16 ?_
    exact o_zret C hQ dX1_has_17 h hμ
  · refine o_iload_n C 1 dX1_has_4 rfl rfl ?_
    refine o_aload_n C 0 dX1_has_5 rfl rfl ?_
    refine o_getI (j := 0) C kt_14 rfl rfl (Nat.le_of_ble_eq_true rfl) lkf_RX1_9 dX1_has_6 ?_
    refine o_icmp_ge (tgt := 16) C hz1 (hμ.fi kt_14 rfl (by decide)) dX1_has_9 (by decide) h (fun _ h => ?_) (fun _ h => ?_)
    · refine o_iconst C dX1_has_16 ?_
      exact o_zret C hQ dX1_has_17 h hμ
    · refine o_iconst C dX1_has_12 ?_
      refine o_goto (tgt := 17) C dX1_has_13 (by decide) ?_
      exact o_zret C hQ dX1_has_17 h hμ
theorem c_X1_has {z1 : Int} (hz1 : r32 z1) {μ : GM} (hμ : gRg μ) {u : Int × GM} (h : f_X1_has z1 μ = some u) : MtI 0 yX1_has cX1_has 2 (some .boolean) (fun ad => [.ref (ad 14), vI z1]) μ u := MtI.of pf_X1_has (fun _ => Nat.le_of_ble_eq_true rfl) (fun G C hQ => w_X1_has_0 C hQ hz1 hμ h)
def f_X1_add (z1 : Int) (z2 : Int) (z3 : Int) (μ : GM) : Option (Int × GM) :=
  ck (0 ≤ (μ.2 14 0) ∧ (μ.2 14 0) < 2) (lm (gA μ 15 (μ.2 14 0) z1) fun μ1 =>
  ck (0 ≤ (μ1.2 14 0) ∧ (μ1.2 14 0) < 2) (lm (gA μ1 16 (μ1.2 14 0) z2) fun μ2 =>
  ck (0 ≤ (μ2.2 14 0) ∧ (μ2.2 14 0) < 2) (lm (gA μ2 17 (μ2.2 14 0) z3) fun μ3 =>
  lm (gF μ3 14 0 (w32 ((μ3.2 14 0) + 1))) fun μ4 =>
  some ((μ3.2 14 0), μ4))))
set_option maxHeartbeats 4000000 in
set_option maxRecDepth 100000 in
theorem w_X1_add_0 {G : GX} {u : Int × GM} (C : CX G 0 cX1_add 4 RX1) (hQ : gQI G (some .int) u) {z1 : Int} (hz1 : r32 z1) {z2 : Int} (hz2 : r32 z2) {z3 : Int} (hz3 : r32 z3) {μ : GM} (hμ : gRg μ) (h : f_X1_add z1 z2 z3 μ = some u) : WM G 4 μ 0 [(0, gR G 14), (1, vI z1), (2, vI z2), (3, vI z3)] [] := by
  unfold f_X1_add at h
  refine o_aload_n C 0 dX1_add_0 rfl rfl ?_
  refine o_getR (j := 1) C kt_14 rfl rfl (Nat.le_of_ble_eq_true rfl) lkf_RX1_15 dX1_add_1 ?_
  refine o_aload_n C 0 dX1_add_4 rfl rfl ?_
  refine o_getI (j := 0) C kt_14 rfl rfl (Nat.le_of_ble_eq_true rfl) lkf_RX1_9 dX1_add_5 ?_
  refine o_iload_n C 1 dX1_add_8 rfl rfl ?_
  refine o_iast C kt_15 rfl (hμ.fi kt_14 rfl (by decide)) hz1 hμ dX1_add_9 h (fun μ1 hμ1 h => ?_)
  refine o_aload_n C 0 dX1_add_10 rfl rfl ?_
  refine o_getR (j := 2) C kt_14 rfl rfl (Nat.le_of_ble_eq_true rfl) lkf_RX1_19 dX1_add_11 ?_
  refine o_aload_n C 0 dX1_add_14 rfl rfl ?_
  refine o_getI (j := 0) C kt_14 rfl rfl (Nat.le_of_ble_eq_true rfl) lkf_RX1_9 dX1_add_15 ?_
  refine o_iload_n C 2 dX1_add_18 rfl rfl ?_
  refine o_iast C kt_16 rfl (hμ1.fi kt_14 rfl (by decide)) hz2 hμ1 dX1_add_19 h (fun μ2 hμ2 h => ?_)
  refine o_aload_n C 0 dX1_add_20 rfl rfl ?_
  refine o_getR (j := 3) C kt_14 rfl rfl (Nat.le_of_ble_eq_true rfl) lkf_RX1_22 dX1_add_21 ?_
  refine o_aload_n C 0 dX1_add_24 rfl rfl ?_
  refine o_getI (j := 0) C kt_14 rfl rfl (Nat.le_of_ble_eq_true rfl) lkf_RX1_9 dX1_add_25 ?_
  refine o_iload_n C 3 dX1_add_28 rfl rfl ?_
  refine o_iast C kt_17 rfl (hμ2.fi kt_14 rfl (by decide)) hz3 hμ2 dX1_add_29 h (fun μ3 hμ3 h => ?_)
  refine o_aload_n C 0 dX1_add_30 rfl rfl ?_
  refine o_dupr C dX1_add_31 ?_
  refine o_getI (j := 0) C kt_14 rfl rfl (Nat.le_of_ble_eq_true rfl) lkf_RX1_9 dX1_add_32 ?_
  refine o_dupx1ri C dX1_add_35 ?_
  refine o_iconst C dX1_add_36 ?_
  refine o_iadd C dX1_add_37 ?_
  refine o_putI (j := 0) C kt_14 rfl rfl tyX1_ok nmX1 (Nat.le_of_ble_eq_true rfl) lkf_RX1_9 rfl rfl (r32_w _) hμ3 dX1_add_38 h (fun μ4 hμ4 h => ?_)
  exact o_iret C hQ dX1_add_41 h (hμ3.fi kt_14 rfl (by decide)) hμ4
theorem c_X1_add {z1 : Int} (hz1 : r32 z1) {z2 : Int} (hz2 : r32 z2) {z3 : Int} (hz3 : r32 z3) {μ : GM} (hμ : gRg μ) {u : Int × GM} (h : f_X1_add z1 z2 z3 μ = some u) : MtI 0 yX1_add cX1_add 4 (some .int) (fun ad => [.ref (ad 14), vI z1, vI z2, vI z3]) μ u := MtI.of pf_X1_add (fun _ => Nat.le_of_ble_eq_true rfl) (fun G C hQ => w_X1_add_0 C hQ hz1 hz2 hz3 hμ h)
def f_X9_has (z1 : Int) (μ : GM) : Option (Int × GM) :=
  if z1 < 0 then
    some (0 % 2, μ)
  else
    if z1 < (μ.2 18 0) then
      some (1 % 2, μ)
    else
      some (0 % 2, μ)
set_option maxHeartbeats 4000000 in
set_option maxRecDepth 100000 in
theorem w_X9_has_0 {G : GX} {u : Int × GM} (C : CX G 0 cX9_has 2 RX9) (hQ : gQI G (some .boolean) u) {z1 : Int} (hz1 : r32 z1) {μ : GM} (hμ : gRg μ) (h : f_X9_has z1 μ = some u) : WM G 2 μ 0 [(0, gR G 18), (1, vI z1)] [] := by
  unfold f_X9_has at h
  refine o_iload_n C 1 dX9_has_0 rfl rfl ?_
  refine o_if_lt (tgt := 16) C hz1 dX9_has_1 (by decide) h (fun _ h => ?_) (fun _ h => ?_)
  · refine o_iconst C dX9_has_16 ?_
    exact o_zret C hQ dX9_has_17 h hμ
  · refine o_iload_n C 1 dX9_has_4 rfl rfl ?_
    refine o_aload_n C 0 dX9_has_5 rfl rfl ?_
    refine o_getI (j := 0) C kt_18 rfl rfl (Nat.le_of_ble_eq_true rfl) lkf_RX9_9 dX9_has_6 ?_
    refine o_icmp_ge (tgt := 16) C hz1 (hμ.fi kt_18 rfl (by decide)) dX9_has_9 (by decide) h (fun _ h => ?_) (fun _ h => ?_)
    · refine o_iconst C dX9_has_16 ?_
      exact o_zret C hQ dX9_has_17 h hμ
    · refine o_iconst C dX9_has_12 ?_
      refine o_goto (tgt := 17) C dX9_has_13 (by decide) ?_
      exact o_zret C hQ dX9_has_17 h hμ
theorem c_X9_has {z1 : Int} (hz1 : r32 z1) {μ : GM} (hμ : gRg μ) {u : Int × GM} (h : f_X9_has z1 μ = some u) : MtI 0 yX9_has cX9_has 2 (some .boolean) (fun ad => [.ref (ad 18), vI z1]) μ u := MtI.of pf_X9_has (fun _ => Nat.le_of_ble_eq_true rfl) (fun G C hQ => w_X9_has_0 C hQ hz1 hμ h)
def f_X9_add (z1 : Int) (z2 : Int) (z3 : Int) (μ : GM) : Option (Int × GM) :=
  ck (0 ≤ (μ.2 18 0) ∧ (μ.2 18 0) < 3) (lm (gA μ 19 (μ.2 18 0) z1) fun μ1 =>
  ck (0 ≤ (μ1.2 18 0) ∧ (μ1.2 18 0) < 3) (lm (gA μ1 20 (μ1.2 18 0) z2) fun μ2 =>
  ck (0 ≤ (μ2.2 18 0) ∧ (μ2.2 18 0) < 3) (lm (gA μ2 21 (μ2.2 18 0) z3) fun μ3 =>
  lm (gF μ3 18 0 (w32 ((μ3.2 18 0) + 1))) fun μ4 =>
  some ((μ3.2 18 0), μ4))))
set_option maxHeartbeats 4000000 in
set_option maxRecDepth 100000 in
theorem w_X9_add_0 {G : GX} {u : Int × GM} (C : CX G 0 cX9_add 4 RX9) (hQ : gQI G (some .int) u) {z1 : Int} (hz1 : r32 z1) {z2 : Int} (hz2 : r32 z2) {z3 : Int} (hz3 : r32 z3) {μ : GM} (hμ : gRg μ) (h : f_X9_add z1 z2 z3 μ = some u) : WM G 4 μ 0 [(0, gR G 18), (1, vI z1), (2, vI z2), (3, vI z3)] [] := by
  unfold f_X9_add at h
  refine o_aload_n C 0 dX9_add_0 rfl rfl ?_
  refine o_getR (j := 1) C kt_18 rfl rfl (Nat.le_of_ble_eq_true rfl) lkf_RX9_15 dX9_add_1 ?_
  refine o_aload_n C 0 dX9_add_4 rfl rfl ?_
  refine o_getI (j := 0) C kt_18 rfl rfl (Nat.le_of_ble_eq_true rfl) lkf_RX9_9 dX9_add_5 ?_
  refine o_iload_n C 1 dX9_add_8 rfl rfl ?_
  refine o_iast C kt_19 rfl (hμ.fi kt_18 rfl (by decide)) hz1 hμ dX9_add_9 h (fun μ1 hμ1 h => ?_)
  refine o_aload_n C 0 dX9_add_10 rfl rfl ?_
  refine o_getR (j := 2) C kt_18 rfl rfl (Nat.le_of_ble_eq_true rfl) lkf_RX9_19 dX9_add_11 ?_
  refine o_aload_n C 0 dX9_add_14 rfl rfl ?_
  refine o_getI (j := 0) C kt_18 rfl rfl (Nat.le_of_ble_eq_true rfl) lkf_RX9_9 dX9_add_15 ?_
  refine o_iload_n C 2 dX9_add_18 rfl rfl ?_
  refine o_iast C kt_20 rfl (hμ1.fi kt_18 rfl (by decide)) hz2 hμ1 dX9_add_19 h (fun μ2 hμ2 h => ?_)
  refine o_aload_n C 0 dX9_add_20 rfl rfl ?_
  refine o_getR (j := 3) C kt_18 rfl rfl (Nat.le_of_ble_eq_true rfl) lkf_RX9_22 dX9_add_21 ?_
  refine o_aload_n C 0 dX9_add_24 rfl rfl ?_
  refine o_getI (j := 0) C kt_18 rfl rfl (Nat.le_of_ble_eq_true rfl) lkf_RX9_9 dX9_add_25 ?_
  refine o_iload_n C 3 dX9_add_28 rfl rfl ?_
  refine o_iast C kt_21 rfl (hμ2.fi kt_18 rfl (by decide)) hz3 hμ2 dX9_add_29 h (fun μ3 hμ3 h => ?_)
  refine o_aload_n C 0 dX9_add_30 rfl rfl ?_
  refine o_dupr C dX9_add_31 ?_
  refine o_getI (j := 0) C kt_18 rfl rfl (Nat.le_of_ble_eq_true rfl) lkf_RX9_9 dX9_add_32 ?_
  refine o_dupx1ri C dX9_add_35 ?_
  refine o_iconst C dX9_add_36 ?_
  refine o_iadd C dX9_add_37 ?_
  refine o_putI (j := 0) C kt_18 rfl rfl tyX9_ok nmX9 (Nat.le_of_ble_eq_true rfl) lkf_RX9_9 rfl rfl (r32_w _) hμ3 dX9_add_38 h (fun μ4 hμ4 h => ?_)
  exact o_iret C hQ dX9_add_41 h (hμ3.fi kt_18 rfl (by decide)) hμ4
theorem c_X9_add {z1 : Int} (hz1 : r32 z1) {z2 : Int} (hz2 : r32 z2) {z3 : Int} (hz3 : r32 z3) {μ : GM} (hμ : gRg μ) {u : Int × GM} (h : f_X9_add z1 z2 z3 μ = some u) : MtI 0 yX9_add cX9_add 4 (some .int) (fun ad => [.ref (ad 18), vI z1, vI z2, vI z3]) μ u := MtI.of pf_X9_add (fun _ => Nat.le_of_ble_eq_true rfl) (fun G C hQ => w_X9_add_0 C hQ hz1 hz2 hz3 hμ h)
def f_X9_rateAt (z1 : Int) (z2 : Int) (μ : GM) : Option (Int × GM) :=
  ck (0 ≤ z1 ∧ z1 < 3) (
  ck (4 ≠ 0) (
  some ((w32 (Int.tdiv (w32 ((μ.1 20 z1) * z2)) 4)), μ)))
set_option maxHeartbeats 4000000 in
set_option maxRecDepth 100000 in
theorem w_X9_rateAt_0 {G : GX} {u : Int × GM} (C : CX G 0 cX9_rateAt 3 RX9) (hQ : gQI G (some .int) u) {z1 : Int} (hz1 : r32 z1) {z2 : Int} (hz2 : r32 z2) {μ : GM} (hμ : gRg μ) (h : f_X9_rateAt z1 z2 μ = some u) : WM G 3 μ 0 [(0, gR G 18), (1, vI z1), (2, vI z2)] [] := by
  unfold f_X9_rateAt at h
  refine o_aload_n C 0 dX9_rateAt_0 rfl rfl ?_
  refine o_getR (j := 2) C kt_18 rfl rfl (Nat.le_of_ble_eq_true rfl) lkf_RX9_19 dX9_rateAt_1 ?_
  refine o_iload_n C 1 dX9_rateAt_4 rfl rfl ?_
  refine o_iald C kt_20 rfl hz1 dX9_rateAt_5 h (fun h => ?_)
  refine o_iload_n C 2 dX9_rateAt_6 rfl rfl ?_
  refine o_imul C dX9_rateAt_7 ?_
  refine o_iconst C dX9_rateAt_8 ?_
  refine o_idiv C (r32_w _) ⟨by decide, by decide⟩ dX9_rateAt_9 h (fun h => ?_)
  exact o_iret C hQ dX9_rateAt_10 h (r32_w _) hμ
theorem c_X9_rateAt {z1 : Int} (hz1 : r32 z1) {z2 : Int} (hz2 : r32 z2) {μ : GM} (hμ : gRg μ) {u : Int × GM} (h : f_X9_rateAt z1 z2 μ = some u) : MtI 0 yX9_rateAt cX9_rateAt 3 (some .int) (fun ad => [.ref (ad 18), vI z1, vI z2]) μ u := MtI.of pf_X9_rateAt (fun _ => Nat.le_of_ble_eq_true rfl) (fun G C hQ => w_X9_rateAt_0 C hQ hz1 hz2 hμ h)
def k_X9_allRates_4 : Nat → Int → Int → GM → Option (Int × GM)
  | 0, _, _, _ => none
  | n + 1, z1, z2, μ =>
    if z2 < (μ.2 18 0) then
      ck (0 ≤ z2 ∧ z2 < 3) (
      lt (w32 (z1 + (μ.1 22 z2))) fun x1 =>
      lt (w32 (z2 + 1)) fun x2 =>
      k_X9_allRates_4 n x1 x2 μ)
    else
      some (z1, μ)
set_option maxHeartbeats 4000000 in
set_option maxRecDepth 100000 in
theorem w_X9_allRates_4 {G : GX} {u : Int × GM} (C : CX G 0 cX9_allRates 3 RX9) (hQ : gQI G (some .int) u) : ∀ (n : Nat) (z1 : Int) (hz1 : r32 z1) (z2 : Int) (hz2 : r32 z2) (μ : GM) (hμ : gRg μ), k_X9_allRates_4 n z1 z2 μ = some u → WM G 3 μ 4 [(0, gR G 18), (1, vI z1), (2, vI z2)] [] := by
  intro n
  induction n with
  | zero =>
    intro z1 hz1 z2 hz2 μ hμ h
    cases h
  | succ n ih =>
    intro z1 hz1 z2 hz2 μ hμ h
    rw [k_X9_allRates_4] at h
    refine o_iload_n C 2 dX9_allRates_4 rfl rfl ?_
    refine o_aload_n C 0 dX9_allRates_5 rfl rfl ?_
    refine o_getI (j := 0) C kt_18 rfl rfl (Nat.le_of_ble_eq_true rfl) lkf_RX9_9 dX9_allRates_6 ?_
    refine o_icmp_ge (tgt := 27) C hz2 (hμ.fi kt_18 rfl (by decide)) dX9_allRates_9 (by decide) h (fun _ h => ?_) (fun _ h => ?_)
    · refine o_iload_n C 1 dX9_allRates_27 rfl rfl ?_
      exact o_iret C hQ dX9_allRates_28 h hz1 hμ
    · refine o_iload_n C 1 dX9_allRates_12 rfl rfl ?_
      refine o_aload_n C 0 dX9_allRates_13 rfl rfl ?_
      refine o_getR (j := 4) C kt_18 rfl rfl (Nat.le_of_ble_eq_true rfl) lkf_RX9_25 dX9_allRates_14 ?_
      refine o_iload_n C 2 dX9_allRates_17 rfl rfl ?_
      refine o_iald C kt_22 rfl hz2 dX9_allRates_18 h (fun h => ?_)
      refine o_iadd C dX9_allRates_19 ?_
      refine o_lt h (r32_w _) (fun x1 hx1 h => ?_)
      refine o_istore_n (lv2 := [(1, vI x1), (0, gR G 18), (2, vI z2)]) C dX9_allRates_20 rfl (by decide) rfl ?_
      refine o_iinc (lv2 := fun x2 => [(2, vI x2), (1, vI x1), (0, gR G 18)]) C 2 dX9_allRates_21 rfl (by decide) (fun _ => rfl) h (fun x2 hx2 h => ?_)
      refine o_goto (tgt := 4) C dX9_allRates_24 (by decide) ?_
      exact WM.sub [2, 1, 0] rfl (ih x1 hx1 x2 hx2 μ hμ h)
def f_X9_allRates (μ : GM) : Option (Int × GM) :=
  k_X9_allRates_4 FU 0 0 μ
set_option maxHeartbeats 4000000 in
set_option maxRecDepth 100000 in
theorem w_X9_allRates_0 {G : GX} {u : Int × GM} (C : CX G 0 cX9_allRates 3 RX9) (hQ : gQI G (some .int) u) {μ : GM} (hμ : gRg μ) (h : f_X9_allRates μ = some u) : WM G 3 μ 0 [(0, gR G 18)] [] := by
  unfold f_X9_allRates at h
  refine o_iconst C dX9_allRates_0 ?_
  refine o_istore_n (lv2 := [(1, vI 0), (0, gR G 18)]) C dX9_allRates_1 rfl (by decide) rfl ?_
  refine o_iconst C dX9_allRates_2 ?_
  refine o_istore_n (lv2 := [(2, vI 0), (1, vI 0), (0, gR G 18)]) C dX9_allRates_3 rfl (by decide) rfl ?_
  exact WM.sub [2, 1, 0] rfl (w_X9_allRates_4 C hQ FU 0 ⟨by decide, by decide⟩ 0 ⟨by decide, by decide⟩ μ hμ h)
theorem c_X9_allRates {μ : GM} (hμ : gRg μ) {u : Int × GM} (h : f_X9_allRates μ = some u) : MtI 0 yX9_allRates cX9_allRates 3 (some .int) (fun ad => [.ref (ad 18)]) μ u := MtI.of pf_X9_allRates (fun _ => Nat.le_of_ble_eq_true rfl) (fun G C hQ => w_X9_allRates_0 C hQ hμ h)
def f_X2_hasCell (z1 : Int) (μ : GM) : Option (Int × GM) :=
  if z1 < 0 then
    some (0 % 2, μ)
  else
    if z1 < (μ.2 1 0) then
      some (1 % 2, μ)
    else
      some (0 % 2, μ)
set_option maxHeartbeats 4000000 in
set_option maxRecDepth 100000 in
theorem w_X2_hasCell_0 {G : GX} {u : Int × GM} (C : CX G 0 cX2_hasCell 2 RX2) (hQ : gQI G (some .boolean) u) {z1 : Int} (hz1 : r32 z1) {μ : GM} (hμ : gRg μ) (h : f_X2_hasCell z1 μ = some u) : WM G 2 μ 0 [(0, gR G 1), (1, vI z1)] [] := by
  unfold f_X2_hasCell at h
  refine o_iload_n C 1 dX2_hasCell_0 rfl rfl ?_
  refine o_if_lt (tgt := 16) C hz1 dX2_hasCell_1 (by decide) h (fun _ h => ?_) (fun _ h => ?_)
  · refine o_iconst C dX2_hasCell_16 ?_
    exact o_zret C hQ dX2_hasCell_17 h hμ
  · refine o_iload_n C 1 dX2_hasCell_4 rfl rfl ?_
    refine o_aload_n C 0 dX2_hasCell_5 rfl rfl ?_
    refine o_getI (j := 0) C kt_1 rfl rfl (Nat.le_of_ble_eq_true rfl) lkf_RX2_9 dX2_hasCell_6 ?_
    refine o_icmp_ge (tgt := 16) C hz1 (hμ.fi kt_1 rfl (by decide)) dX2_hasCell_9 (by decide) h (fun _ h => ?_) (fun _ h => ?_)
    · refine o_iconst C dX2_hasCell_16 ?_
      exact o_zret C hQ dX2_hasCell_17 h hμ
    · refine o_iconst C dX2_hasCell_12 ?_
      refine o_goto (tgt := 17) C dX2_hasCell_13 (by decide) ?_
      exact o_zret C hQ dX2_hasCell_17 h hμ
theorem c_X2_hasCell {z1 : Int} (hz1 : r32 z1) {μ : GM} (hμ : gRg μ) {u : Int × GM} (h : f_X2_hasCell z1 μ = some u) : MtI 0 yX2_hasCell cX2_hasCell 2 (some .boolean) (fun ad => [.ref (ad 1), vI z1]) μ u := MtI.of pf_X2_hasCell (fun _ => Nat.le_of_ble_eq_true rfl) (fun G C hQ => w_X2_hasCell_0 C hQ hz1 hμ h)
def f_X2_hasEnd (z1 : Int) (μ : GM) : Option (Int × GM) :=
  bd (f_X2_hasCell z1 μ) fun x1 μ2 =>
  if x1 = 0 then
    bd (f_X7_has (w32 (z1 - 100)) μ2) fun x3 μ4 =>
    if x3 = 0 then
      bd (f_X1_has (w32 (z1 - 200)) μ4) fun x5 μ6 =>
      if x5 = 0 then
        bd (f_X9_has (w32 (z1 - 300)) μ6) fun x7 μ8 =>
        if x7 = 0 then
          some (0 % 2, μ8)
        else
          some (1 % 2, μ8)
      else
        some (1 % 2, μ6)
    else
      some (1 % 2, μ4)
  else
    some (1 % 2, μ2)
set_option maxHeartbeats 4000000 in
set_option maxRecDepth 100000 in
theorem w_X2_hasEnd_0 {G : GX} {u : Int × GM} (C : CX G 1 cX2_hasEnd 2 RX2) (hQ : gQI G (some .boolean) u) {z1 : Int} (hz1 : r32 z1) {μ : GM} (hμ : gRg μ) (h : f_X2_hasEnd z1 μ = some u) : WM G 2 μ 0 [(0, gR G 1), (1, vI z1)] [] := by
  unfold f_X2_hasEnd at h
  refine o_aload_n C 0 dX2_hasEnd_0 rfl rfl ?_
  refine o_iload_n C 1 dX2_hasEnd_1 rfl rfl ?_
  refine o_cVI C [vI z1] mb_X2_hasCell (by decide) (fun _ hu => c_X2_hasCell hz1 hμ hu) rfl (Nat.le_of_ble_eq_true rfl) h mi_X2_hasCell me_X2_hasCell lkm_RX2_53 kt_1 rfl rfl rfl dX2_hasEnd_2 (fun x1 μ2 hx1 hμ2 h => ?_)
  refine o_if_ne (tgt := 52) C hx1 dX2_hasEnd_5 (by decide) h (fun _ h => ?_) (fun _ h => ?_)
  · refine o_iconst C dX2_hasEnd_52 ?_
    refine o_goto (tgt := 57) C dX2_hasEnd_53 (by decide) ?_
    exact o_zret C hQ dX2_hasEnd_57 h hμ2
  · refine o_aload_n C 0 dX2_hasEnd_8 rfl rfl ?_
    refine o_getR (j := 5) C kt_1 rfl rfl (Nat.le_of_ble_eq_true rfl) lkf_RX2_35 dX2_hasEnd_9 ?_
    refine o_iload_n C 1 dX2_hasEnd_12 rfl rfl ?_
    refine o_bipush (v := 100) C dX2_hasEnd_13 (by decide) ?_
    refine o_isub C dX2_hasEnd_15 ?_
    refine o_cVI C [vI (w32 (z1 - 100))] mb_X7_has (by decide) (fun _ hu => c_X7_has (r32_w _) hμ2 hu) rfl (Nat.le_of_ble_eq_true rfl) h mi_X7_has me_X7_has lkm_RX2_57 kt_9 rfl rfl rfl dX2_hasEnd_16 (fun x3 μ4 hx3 hμ4 h => ?_)
    refine o_if_ne (tgt := 52) C hx3 dX2_hasEnd_19 (by decide) h (fun _ h => ?_) (fun _ h => ?_)
    · refine o_iconst C dX2_hasEnd_52 ?_
      refine o_goto (tgt := 57) C dX2_hasEnd_53 (by decide) ?_
      exact o_zret C hQ dX2_hasEnd_57 h hμ4
    · refine o_aload_n C 0 dX2_hasEnd_22 rfl rfl ?_
      refine o_getR (j := 6) C kt_1 rfl rfl (Nat.le_of_ble_eq_true rfl) lkf_RX2_42 dX2_hasEnd_23 ?_
      refine o_iload_n C 1 dX2_hasEnd_26 rfl rfl ?_
      refine o_sipush (v := 200) C dX2_hasEnd_27 (by decide) ?_
      refine o_isub C dX2_hasEnd_30 ?_
      refine o_cVI C [vI (w32 (z1 - 200))] mb_X1_has (by decide) (fun _ hu => c_X1_has (r32_w _) hμ4 hu) rfl (Nat.le_of_ble_eq_true rfl) h mi_X1_has me_X1_has lkm_RX2_60 kt_14 rfl rfl rfl dX2_hasEnd_31 (fun x5 μ6 hx5 hμ6 h => ?_)
      refine o_if_ne (tgt := 52) C hx5 dX2_hasEnd_34 (by decide) h (fun _ h => ?_) (fun _ h => ?_)
      · refine o_iconst C dX2_hasEnd_52 ?_
        refine o_goto (tgt := 57) C dX2_hasEnd_53 (by decide) ?_
        exact o_zret C hQ dX2_hasEnd_57 h hμ6
      · refine o_aload_n C 0 dX2_hasEnd_37 rfl rfl ?_
        refine o_getR (j := 7) C kt_1 rfl rfl (Nat.le_of_ble_eq_true rfl) lkf_RX2_49 dX2_hasEnd_38 ?_
        refine o_iload_n C 1 dX2_hasEnd_41 rfl rfl ?_
        refine o_sipush (v := 300) C dX2_hasEnd_42 (by decide) ?_
        refine o_isub C dX2_hasEnd_45 ?_
        refine o_cVI C [vI (w32 (z1 - 300))] mb_X9_has (by decide) (fun _ hu => c_X9_has (r32_w _) hμ6 hu) rfl (Nat.le_of_ble_eq_true rfl) h mi_X9_has me_X9_has lkm_RX2_61 kt_18 rfl rfl rfl dX2_hasEnd_46 (fun x7 μ8 hx7 hμ8 h => ?_)
        refine o_if_eq (tgt := 56) C hx7 dX2_hasEnd_49 (by decide) h (fun _ h => ?_) (fun _ h => ?_)
        · refine o_iconst C dX2_hasEnd_56 ?_
          exact o_zret C hQ dX2_hasEnd_57 h hμ8
        · refine o_iconst C dX2_hasEnd_52 ?_
          refine o_goto (tgt := 57) C dX2_hasEnd_53 (by decide) ?_
          exact o_zret C hQ dX2_hasEnd_57 h hμ8
theorem c_X2_hasEnd {z1 : Int} (hz1 : r32 z1) {μ : GM} (hμ : gRg μ) {u : Int × GM} (h : f_X2_hasEnd z1 μ = some u) : MtI 1 yX2_hasEnd cX2_hasEnd 2 (some .boolean) (fun ad => [.ref (ad 1), vI z1]) μ u := MtI.of pf_X2_hasEnd (fun _ => Nat.le_of_ble_eq_true rfl) (fun G C hQ => w_X2_hasEnd_0 C hQ hz1 hμ h)
def f_X2_addCell (z1 : Int) (z2 : Int) (z3 : Int) (μ : GM) : Option (Int × GM) :=
  ck (0 ≤ (μ.2 1 0) ∧ (μ.2 1 0) < 6) (lm (gA μ 2 (μ.2 1 0) z1) fun μ1 =>
  ck (0 ≤ (μ1.2 1 0) ∧ (μ1.2 1 0) < 6) (lm (gA μ1 3 (μ1.2 1 0) z2) fun μ2 =>
  ck (0 ≤ (μ2.2 1 0) ∧ (μ2.2 1 0) < 6) (lm (gA μ2 4 (μ2.2 1 0) z3) fun μ3 =>
  lm (gF μ3 1 0 (w32 ((μ3.2 1 0) + 1))) fun μ4 =>
  some ((μ3.2 1 0), μ4))))
set_option maxHeartbeats 4000000 in
set_option maxRecDepth 100000 in
theorem w_X2_addCell_0 {G : GX} {u : Int × GM} (C : CX G 0 cX2_addCell 4 RX2) (hQ : gQI G (some .int) u) {z1 : Int} (hz1 : r32 z1) {z2 : Int} (hz2 : r32 z2) {z3 : Int} (hz3 : r32 z3) {μ : GM} (hμ : gRg μ) (h : f_X2_addCell z1 z2 z3 μ = some u) : WM G 4 μ 0 [(0, gR G 1), (1, vI z1), (2, vI z2), (3, vI z3)] [] := by
  unfold f_X2_addCell at h
  refine o_aload_n C 0 dX2_addCell_0 rfl rfl ?_
  refine o_getR (j := 1) C kt_1 rfl rfl (Nat.le_of_ble_eq_true rfl) lkf_RX2_15 dX2_addCell_1 ?_
  refine o_aload_n C 0 dX2_addCell_4 rfl rfl ?_
  refine o_getI (j := 0) C kt_1 rfl rfl (Nat.le_of_ble_eq_true rfl) lkf_RX2_9 dX2_addCell_5 ?_
  refine o_iload_n C 1 dX2_addCell_8 rfl rfl ?_
  refine o_iast C kt_2 rfl (hμ.fi kt_1 rfl (by decide)) hz1 hμ dX2_addCell_9 h (fun μ1 hμ1 h => ?_)
  refine o_aload_n C 0 dX2_addCell_10 rfl rfl ?_
  refine o_getR (j := 2) C kt_1 rfl rfl (Nat.le_of_ble_eq_true rfl) lkf_RX2_19 dX2_addCell_11 ?_
  refine o_aload_n C 0 dX2_addCell_14 rfl rfl ?_
  refine o_getI (j := 0) C kt_1 rfl rfl (Nat.le_of_ble_eq_true rfl) lkf_RX2_9 dX2_addCell_15 ?_
  refine o_iload_n C 2 dX2_addCell_18 rfl rfl ?_
  refine o_iast C kt_3 rfl (hμ1.fi kt_1 rfl (by decide)) hz2 hμ1 dX2_addCell_19 h (fun μ2 hμ2 h => ?_)
  refine o_aload_n C 0 dX2_addCell_20 rfl rfl ?_
  refine o_getR (j := 3) C kt_1 rfl rfl (Nat.le_of_ble_eq_true rfl) lkf_RX2_22 dX2_addCell_21 ?_
  refine o_aload_n C 0 dX2_addCell_24 rfl rfl ?_
  refine o_getI (j := 0) C kt_1 rfl rfl (Nat.le_of_ble_eq_true rfl) lkf_RX2_9 dX2_addCell_25 ?_
  refine o_iload_n C 3 dX2_addCell_28 rfl rfl ?_
  refine o_iast C kt_4 rfl (hμ2.fi kt_1 rfl (by decide)) hz3 hμ2 dX2_addCell_29 h (fun μ3 hμ3 h => ?_)
  refine o_aload_n C 0 dX2_addCell_30 rfl rfl ?_
  refine o_dupr C dX2_addCell_31 ?_
  refine o_getI (j := 0) C kt_1 rfl rfl (Nat.le_of_ble_eq_true rfl) lkf_RX2_9 dX2_addCell_32 ?_
  refine o_dupx1ri C dX2_addCell_35 ?_
  refine o_iconst C dX2_addCell_36 ?_
  refine o_iadd C dX2_addCell_37 ?_
  refine o_putI (j := 0) C kt_1 rfl rfl tyX2_ok nmX2 (Nat.le_of_ble_eq_true rfl) lkf_RX2_9 rfl rfl (r32_w _) hμ3 dX2_addCell_38 h (fun μ4 hμ4 h => ?_)
  exact o_iret C hQ dX2_addCell_41 h (hμ3.fi kt_1 rfl (by decide)) hμ4
theorem c_X2_addCell {z1 : Int} (hz1 : r32 z1) {z2 : Int} (hz2 : r32 z2) {z3 : Int} (hz3 : r32 z3) {μ : GM} (hμ : gRg μ) {u : Int × GM} (h : f_X2_addCell z1 z2 z3 μ = some u) : MtI 0 yX2_addCell cX2_addCell 4 (some .int) (fun ad => [.ref (ad 1), vI z1, vI z2, vI z3]) μ u := MtI.of pf_X2_addCell (fun _ => Nat.le_of_ble_eq_true rfl) (fun G C hQ => w_X2_addCell_0 C hQ hz1 hz2 hz3 hμ h)
def f_X2_patternBits (μ : GM) : Option (Int × GM) :=
  some ((gor (w32 ((gshl 1 (μ.2 9 0)) - 1)) (gshl (w32 ((gshl 1 (μ.2 14 0)) - 1)) 3)), μ)
set_option maxHeartbeats 4000000 in
set_option maxRecDepth 100000 in
theorem w_X2_patternBits_0 {G : GX} {u : Int × GM} (C : CX G 0 cX2_patternBits 1 RX2) (hQ : gQI G (some .int) u) {μ : GM} (hμ : gRg μ) (h : f_X2_patternBits μ = some u) : WM G 1 μ 0 [(0, gR G 1)] [] := by
  unfold f_X2_patternBits at h
  refine o_iconst C dX2_patternBits_0 ?_
  refine o_aload_n C 0 dX2_patternBits_1 rfl rfl ?_
  refine o_getR (j := 5) C kt_1 rfl rfl (Nat.le_of_ble_eq_true rfl) lkf_RX2_35 dX2_patternBits_2 ?_
  refine o_getI (j := 0) C kt_9 rfl rfl (Nat.le_of_ble_eq_true rfl) lkf_RX2_62 dX2_patternBits_5 ?_
  refine o_ishl C dX2_patternBits_8 ?_
  refine o_iconst C dX2_patternBits_9 ?_
  refine o_isub C dX2_patternBits_10 ?_
  refine o_iconst C dX2_patternBits_11 ?_
  refine o_aload_n C 0 dX2_patternBits_12 rfl rfl ?_
  refine o_getR (j := 6) C kt_1 rfl rfl (Nat.le_of_ble_eq_true rfl) lkf_RX2_42 dX2_patternBits_13 ?_
  refine o_getI (j := 0) C kt_14 rfl rfl (Nat.le_of_ble_eq_true rfl) lkf_RX2_65 dX2_patternBits_16 ?_
  refine o_ishl C dX2_patternBits_19 ?_
  refine o_iconst C dX2_patternBits_20 ?_
  refine o_isub C dX2_patternBits_21 ?_
  refine o_iconst C dX2_patternBits_22 ?_
  refine o_ishl C dX2_patternBits_23 ?_
  refine o_ior C dX2_patternBits_24 ?_
  exact o_iret C hQ dX2_patternBits_25 h (r32_toInt _) hμ
theorem c_X2_patternBits {μ : GM} (hμ : gRg μ) {u : Int × GM} (h : f_X2_patternBits μ = some u) : MtI 0 yX2_patternBits cX2_patternBits 1 (some .int) (fun ad => [.ref (ad 1)]) μ u := MtI.of pf_X2_patternBits (fun _ => Nat.le_of_ble_eq_true rfl) (fun G C hQ => w_X2_patternBits_0 C hQ hμ h)
def f_X6_forget (t : Nat) (μ : GM) : Option (Int × GM) :=
  bd (f_J7_fill_53178 (t + 1) (-10000009) μ) fun _x1 μ2 =>
  some (0, μ2)
set_option maxHeartbeats 4000000 in
set_option maxRecDepth 100000 in
theorem w_X6_forget_0 {G : GX} {u : Int × GM} (C : CX G 1 cX6_forget 1 RX6) (hQ : gQV G none u) {t : Nat} (ht : gRt t) {μ : GM} (hμ : gRg μ) (h : f_X6_forget t μ = some u) : WM G 1 μ 0 [(0, gR G t)] [] := by
  unfold f_X6_forget at h
  refine o_aload_n C 0 dX6_forget_0 rfl rfl ?_
  refine o_getR (j := 2) C (ktR_0 ht) rfl rfl (Nat.le_of_ble_eq_true rfl) lkf_RX6_39 dX6_forget_1 ?_
  refine o_ldc (v := (-10000009)) C lkc_RX6_51 rfl dX6_forget_4 ?_
  refine o_cSV C [gR G (t + 1), vI (-10000009)] mb_J7_fill_53178 (by decide) (fun _ hu => c_J7_fill_53178 (kt_gen (ktR_1 ht)) ⟨by decide, by decide⟩ hμ hu) rfl (Nat.le_of_ble_eq_true rfl) h ms_J7_fill_53178 lkm_RX6_52 rfl rfl dX6_forget_6 (fun _x1 μ2 hμ2 h => ?_)
  exact o_vret C hQ dX6_forget_9 h hμ2
theorem c_X6_forget {t : Nat} (ht : gRt t) {μ : GM} (hμ : gRg μ) {u : Int × GM} (h : f_X6_forget t μ = some u) : MtV 1 yX6_forget cX6_forget 1 none (fun ad => [.ref (ad t)]) μ u := MtV.of pf_X6_forget (fun _ => Nat.le_of_ble_eq_true rfl) (fun G C hQ => w_X6_forget_0 C hQ ht hμ h)
