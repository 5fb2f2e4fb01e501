def k_X12_shareOf_36 (kL10 : Int → Int → Int → Int → Int → Int → GM → Option (Int × GM)) (z0 : Int) (z1 : Int) (z3 : Int) (z5 : Int) (z9 : Int) (s0 : Int) (s1 : Int) (μ : GM) : Option (Int × GM) :=
  lt (w64 (s0 + s1)) fun x1 =>
  ck (z3 ≠ 0) (
  lt (w64 ((w64 (2 * z5)) + (w64 (Int.tdiv x1 z3)))) fun x2 =>
  ck (z3 ≠ 0) (
  lt (Int.tmod x1 z3) fun x3 =>
  lt (w32 (z9 + (-1))) fun x4 =>
  kL10 z0 z1 z3 x2 x3 x4 μ))
set_option maxHeartbeats 4000000 in
set_option maxRecDepth 100000 in
theorem w_X12_shareOf_36 {G : GX} {u : Int × GM} (C : CX G 0 cX12_shareOf 12 RX12) (hQ : gQI G (some .int) u) {kL10 : Int → Int → Int → Int → Int → Int → GM → Option (Int × GM)} (hL10 : ∀ (z0 : Int) (hz0 : r32 z0) (z1 : Int) (hz1 : r64 z1) (z3 : Int) (hz3 : r64 z3) (z5 : Int) (hz5 : r64 z5) (z7 : Int) (hz7 : r64 z7) (z9 : Int) (hz9 : r32 z9) (μ : GM) (hμ : gRg μ), kL10 z0 z1 z3 z5 z7 z9 μ = some u → WM G 12 μ 10 [(0, vI z0), (1, vJ z1), (3, vJ z3), (5, vJ z5), (7, vJ z7), (9, vI z9)] []) {z0 : Int} (hz0 : r32 z0) {z1 : Int} (hz1 : r64 z1) {z3 : Int} (hz3 : r64 z3) {z5 : Int} (hz5 : r64 z5) {z9 : Int} (hz9 : r32 z9) {s0 : Int} (hs0 : r64 s0) {s1 : Int} (hs1 : r64 s1) {μ : GM} (hμ : gRg μ) (h : k_X12_shareOf_36 kL10 z0 z1 z3 z5 z9 s0 s1 μ = some u) : WM G 12 μ 36 [(0, vI z0), (1, vJ z1), (3, vJ z3), (5, vJ z5), (9, vI z9)] [vJ s1, vJ s0] := by
  unfold k_X12_shareOf_36 at h
  refine o_ladd C dX12_shareOf_36 ?_
  refine o_ltl h (r64_w _) (fun x1 hx1 h => ?_)
  refine o_lstore (lv2 := [(10, vJ x1), (0, vI z0), (1, vJ z1), (3, vJ z3), (5, vJ z5), (9, vI z9)]) C dX12_shareOf_37 (by decide) rfl ?_
  refine o_ldc2 (v := 2) C lkc_RX12_178 rfl dX12_shareOf_39 ?_
  refine o_lload C 4 dX12_shareOf_42 rfl ?_
  refine o_lmul C dX12_shareOf_44 ?_
  refine o_lload C 0 dX12_shareOf_45 rfl ?_
  refine o_lload_n C 3 dX12_shareOf_47 rfl rfl ?_
  refine o_ldiv C hx1 hz3 dX12_shareOf_48 h (fun h => ?_)
  refine o_ladd C dX12_shareOf_49 ?_
  refine o_ltl h (r64_w _) (fun x2 hx2 h => ?_)
  refine o_lstore (lv2 := [(5, vJ x2), (10, vJ x1), (0, vI z0), (1, vJ z1), (3, vJ z3), (9, vI z9)]) C dX12_shareOf_50 (by decide) rfl ?_
  refine o_lload C 1 dX12_shareOf_52 rfl ?_
  refine o_lload_n C 4 dX12_shareOf_54 rfl rfl ?_
  refine o_lrem C hx1 hz3 dX12_shareOf_55 h (fun h => ?_)
  refine o_ltl h (r64_rem _ hx1) (fun x3 hx3 h => ?_)
  refine o_lstore (lv2 := [(7, vJ x3), (5, vJ x2), (10, vJ x1), (0, vI z0), (1, vJ z1), (3, vJ z3), (9, vI z9)]) C dX12_shareOf_56 (by decide) rfl ?_
  refine o_iinc (lv2 := fun x4 => [(9, vI x4), (7, vJ x3), (5, vJ x2), (10, vJ x1), (0, vI z0), (1, vJ z1), (3, vJ z3)]) C 6 dX12_shareOf_58 rfl (by decide) (fun _ => rfl) h (fun x4 hx4 h => ?_)
  refine o_goto (tgt := 10) C dX12_shareOf_61 (by decide) ?_
  exact WM.sub [4, 5, 6, 2, 1, 0] rfl (hL10 z0 hz0 z1 hz1 z3 hz3 x2 hx2 x3 hx3 x4 hx4 μ hμ h)
def k_X12_shareOf_10 : Nat → Int → Int → Int → Int → Int → Int → GM → Option (Int × GM)
  | 0, _, _, _, _, _, _, _ => none
  | n + 1, z0, z1, z3, z5, z7, z9, μ =>
    if z9 < 0 then
      some ((w32 z5), μ)
    else
      if (gand (gshr z0 z9) 1) = 1 then
        k_X12_shareOf_36 (k_X12_shareOf_10 n) z0 z1 z3 z5 z9 (w64 (2 * z7)) z1 μ
      else
        k_X12_shareOf_36 (k_X12_shareOf_10 n) z0 z1 z3 z5 z9 (w64 (2 * z7)) 0 μ
set_option maxHeartbeats 4000000 in
set_option maxRecDepth 100000 in
theorem w_X12_shareOf_10 {G : GX} {u : Int × GM} (C : CX G 0 cX12_shareOf 12 RX12) (hQ : gQI G (some .int) u) : ∀ (n : Nat) (z0 : Int) (hz0 : r32 z0) (z1 : Int) (hz1 : r64 z1) (z3 : Int) (hz3 : r64 z3) (z5 : Int) (hz5 : r64 z5) (z7 : Int) (hz7 : r64 z7) (z9 : Int) (hz9 : r32 z9) (μ : GM) (hμ : gRg μ), k_X12_shareOf_10 n z0 z1 z3 z5 z7 z9 μ = some u → WM G 12 μ 10 [(0, vI z0), (1, vJ z1), (3, vJ z3), (5, vJ z5), (7, vJ z7), (9, vI z9)] [] := by
  intro n
  induction n with
  | zero =>
    intro z0 hz0 z1 hz1 z3 hz3 z5 hz5 z7 hz7 z9 hz9 μ hμ h
    cases h
  | succ n ih =>
    intro z0 hz0 z1 hz1 z3 hz3 z5 hz5 z7 hz7 z9 hz9 μ hμ h
    rw [k_X12_shareOf_10] at h
    refine o_iload C 5 dX12_shareOf_10 rfl ?_
    refine o_if_lt (tgt := 64) C hz9 dX12_shareOf_12 (by decide) h (fun _ h => ?_) (fun _ h => ?_)
    · refine o_lload C 3 dX12_shareOf_64 rfl ?_
      refine o_l2i C dX12_shareOf_66 ?_
      exact o_iret C hQ dX12_shareOf_67 h (r32_w _) hμ
    · refine o_ldc2 (v := 2) C lkc_RX12_178 rfl dX12_shareOf_15 ?_
      refine o_lload C 4 dX12_shareOf_18 rfl ?_
      refine o_lmul C dX12_shareOf_20 ?_
      refine o_iload_n C 0 dX12_shareOf_21 rfl rfl ?_
      refine o_iload C 5 dX12_shareOf_22 rfl ?_
      refine o_ishr C dX12_shareOf_24 ?_
      refine o_iconst C dX12_shareOf_25 ?_
      refine o_iand C dX12_shareOf_26 ?_
      refine o_iconst C dX12_shareOf_27 ?_
      refine o_icmp_ne (tgt := 35) C (r32_toInt _) ⟨by decide, by decide⟩ dX12_shareOf_28 (by decide) h (fun _ h => ?_) (fun _ h => ?_)
      · refine o_lconst (v := 0) C dX12_shareOf_35 rfl ?_
        exact WM.sub [0, 1, 2, 3, 5] rfl (w_X12_shareOf_36 C hQ ih hz0 hz1 hz3 hz5 hz9 (r64_w _) ⟨by decide, by decide⟩ hμ h)
      · refine o_lload_n C 1 dX12_shareOf_31 rfl rfl ?_
        refine o_goto (tgt := 36) C dX12_shareOf_32 (by decide) ?_
        exact WM.sub [0, 1, 2, 3, 5] rfl (w_X12_shareOf_36 C hQ ih hz0 hz1 hz3 hz5 hz9 (r64_w _) hz1 hμ h)
def f_X12_shareOf (z0 : Int) (z1 : Int) (z3 : Int) (μ : GM) : Option (Int × GM) :=
  k_X12_shareOf_10 FU z0 z1 z3 0 0 20 μ
set_option maxHeartbeats 4000000 in
set_option maxRecDepth 100000 in
theorem w_X12_shareOf_0 {G : GX} {u : Int × GM} (C : CX G 0 cX12_shareOf 12 RX12) (hQ : gQI G (some .int) u) {z0 : Int} (hz0 : r32 z0) {z1 : Int} (hz1 : r64 z1) {z3 : Int} (hz3 : r64 z3) {μ : GM} (hμ : gRg μ) (h : f_X12_shareOf z0 z1 z3 μ = some u) : WM G 12 μ 0 [(0, vI z0), (1, vJ z1), (3, vJ z3)] [] := by
  unfold f_X12_shareOf at h
  refine o_lconst (v := 0) C dX12_shareOf_0 rfl ?_
  refine o_lstore (lv2 := [(5, vJ 0), (0, vI z0), (1, vJ z1), (3, vJ z3)]) C dX12_shareOf_1 (by decide) rfl ?_
  refine o_lconst (v := 0) C dX12_shareOf_3 rfl ?_
  refine o_lstore (lv2 := [(7, vJ 0), (5, vJ 0), (0, vI z0), (1, vJ z1), (3, vJ z3)]) C dX12_shareOf_4 (by decide) rfl ?_
  refine o_bipush (v := 20) C dX12_shareOf_6 (by decide) ?_
  refine o_istore (lv2 := [(9, vI 20), (7, vJ 0), (5, vJ 0), (0, vI z0), (1, vJ z1), (3, vJ z3)]) C dX12_shareOf_8 (by decide) rfl ?_
  exact WM.sub [3, 4, 5, 2, 1, 0] rfl (w_X12_shareOf_10 C hQ FU z0 hz0 z1 hz1 z3 hz3 0 ⟨by decide, by decide⟩ 0 ⟨by decide, by decide⟩ 20 ⟨by decide, by decide⟩ μ hμ h)
theorem c_X12_shareOf {z0 : Int} (hz0 : r32 z0) {z1 : Int} (hz1 : r64 z1) {z3 : Int} (hz3 : r64 z3) {μ : GM} (hμ : gRg μ) {u : Int × GM} (h : f_X12_shareOf z0 z1 z3 μ = some u) : MtI 0 yX12_shareOf cX12_shareOf 12 (some .int) (fun ad => [vI z0, vJ z1, vJ z3]) μ u := MtI.of pf_X12_shareOf (fun _ => Nat.le_of_ble_eq_true rfl) (fun G C hQ => w_X12_shareOf_0 C hQ hz0 hz1 hz3 hμ h)
def k_X12_spill_382 (kL156 : Int → Int → Int → Int → GM → Option (Int × GM)) (kL312 : Int → Int → Int → Int → Int → Int → Int → Int → Int → GM → Option (Int × GM)) (z2 : Int) (z4 : Int) (z5 : Int) (z6 : Int) (z7 : Int) (z8 : Int) (z10 : Int) (z11 : Int) (z12 : Int) (z13 : Int) (μ : GM) : Option (Int × GM) :=
  ck (0 ≤ z12 ∧ z12 < 20) (
  if (μ.1 77 z12) = z2 then
    if z2 < 100 then
      lt (w32 (z5 + 0)) fun x3 =>
      lt (w32 (z12 + 1)) fun x4 =>
      kL312 z2 z4 x3 z6 z7 z8 z10 z11 x4 μ
    else
      lt (w32 (z5 + z13)) fun x5 =>
      lt (w32 (z12 + 1)) fun x6 =>
      kL312 z2 z4 x5 z6 z7 z8 z10 z11 x6 μ
  else
    lt (w32 (z5 + 0)) fun x1 =>
    lt (w32 (z12 + 1)) fun x2 =>
    kL312 z2 z4 x1 z6 z7 z8 z10 z11 x2 μ)
set_option maxHeartbeats 4000000 in
set_option maxRecDepth 100000 in
theorem w_X12_spill_382 {G : GX} {u : Int × GM} (C : CX G 5 cX12_spill 14 RX12) (hQ : gQI G (some .int) u) {kL156 : Int → Int → Int → Int → GM → Option (Int × GM)} (hL156 : ∀ (z2 : Int) (hz2 : r32 z2) (z4 : Int) (hz4 : r32 z4) (z5 : Int) (hz5 : r32 z5) (z6 : Int) (hz6 : r32 z6) (μ : GM) (hμ : gRg μ), kL156 z2 z4 z5 z6 μ = some u → WM G 14 μ 156 [(0, gR G 53), (2, vI z2), (4, vI z4), (5, vI z5), (6, vI z6)] []) {kL312 : Int → Int → Int → Int → Int → Int → Int → Int → Int → GM → Option (Int × GM)} (hL312 : ∀ (z2 : Int) (hz2 : r32 z2) (z4 : Int) (hz4 : r32 z4) (z5 : Int) (hz5 : r32 z5) (z6 : Int) (hz6 : r32 z6) (z7 : Int) (hz7 : r32 z7) (z8 : Int) (hz8 : r64 z8) (z10 : Int) (hz10 : r32 z10) (z11 : Int) (hz11 : r32 z11) (z12 : Int) (hz12 : r32 z12) (μ : GM) (hμ : gRg μ), kL312 z2 z4 z5 z6 z7 z8 z10 z11 z12 μ = some u → WM G 14 μ 312 [(0, gR G 53), (2, vI z2), (4, vI z4), (5, vI z5), (6, vI z6), (7, vI z7), (8, vJ z8), (10, vI z10), (11, vI z11), (12, vI z12)] []) {z2 : Int} (hz2 : r32 z2) {z4 : Int} (hz4 : r32 z4) {z5 : Int} (hz5 : r32 z5) {z6 : Int} (hz6 : r32 z6) {z7 : Int} (hz7 : r32 z7) {z8 : Int} (hz8 : r64 z8) {z10 : Int} (hz10 : r32 z10) {z11 : Int} (hz11 : r32 z11) {z12 : Int} (hz12 : r32 z12) {z13 : Int} (hz13 : r32 z13) {μ : GM} (hμ : gRg μ) (h : k_X12_spill_382 kL156 kL312 z2 z4 z5 z6 z7 z8 z10 z11 z12 z13 μ = some u) : WM G 14 μ 382 [(0, gR G 53), (2, vI z2), (4, vI z4), (5, vI z5), (6, vI z6), (7, vI z7), (8, vJ z8), (10, vI z10), (11, vI z11), (12, vI z12), (13, vI z13)] [] := by
  unfold k_X12_spill_382 at h
  refine o_iload C 3 dX12_spill_382 rfl ?_
  refine o_aload_n C 0 dX12_spill_384 rfl rfl ?_
  refine o_getR (j := 32) C kt_53 rfl rfl (Nat.le_of_ble_eq_true rfl) lkf_RX12_80 dX12_spill_385 ?_
  refine o_iload C 9 dX12_spill_388 rfl ?_
  refine o_iald C kt_77 rfl hz12 dX12_spill_390 h (fun h => ?_)
  refine o_iload_n C 1 dX12_spill_391 rfl rfl ?_
  refine o_icmp_ne (tgt := 406) C (hμ.i kt_77 (by decide) _) hz2 dX12_spill_392 (by decide) h (fun _ h => ?_) (fun _ h => ?_)
  · refine o_iconst C dX12_spill_406 ?_
    refine o_iadd C dX12_spill_407 ?_
    refine o_lt h (r32_w _) (fun x1 hx1 h => ?_)
    refine o_istore (lv2 := [(5, vI x1), (0, gR G 53), (2, vI z2), (4, vI z4), (6, vI z6), (7, vI z7), (8, vJ z8), (10, vI z10), (11, vI z11), (12, vI z12), (13, vI z13)]) C dX12_spill_408 (by decide) rfl ?_
    refine o_iinc (lv2 := fun x2 => [(12, vI x2), (5, vI x1), (0, gR G 53), (2, vI z2), (4, vI z4), (6, vI z6), (7, vI z7), (8, vJ z8), (10, vI z10), (11, vI z11), (13, vI z13)]) C 9 dX12_spill_410 rfl (by decide) (fun _ => rfl) h (fun x2 hx2 h => ?_)
    refine o_goto (tgt := 312) C dX12_spill_413 (by decide) ?_
    exact WM.sub [2, 3, 4, 1, 5, 6, 7, 8, 9, 0] rfl (hL312 z2 hz2 z4 hz4 x1 hx1 z6 hz6 z7 hz7 z8 hz8 z10 hz10 z11 hz11 x2 hx2 μ hμ h)
  · refine o_iload_n C 1 dX12_spill_395 rfl rfl ?_
    refine o_bipush (v := 100) C dX12_spill_396 (by decide) ?_
    refine o_icmp_lt (tgt := 406) C hz2 ⟨by decide, by decide⟩ dX12_spill_398 (by decide) h (fun _ h => ?_) (fun _ h => ?_)
    · refine o_iconst C dX12_spill_406 ?_
      refine o_iadd C dX12_spill_407 ?_
      refine o_lt h (r32_w _) (fun x3 hx3 h => ?_)
      refine o_istore (lv2 := [(5, vI x3), (0, gR G 53), (2, vI z2), (4, vI z4), (6, vI z6), (7, vI z7), (8, vJ z8), (10, vI z10), (11, vI z11), (12, vI z12), (13, vI z13)]) C dX12_spill_408 (by decide) rfl ?_
      refine o_iinc (lv2 := fun x4 => [(12, vI x4), (5, vI x3), (0, gR G 53), (2, vI z2), (4, vI z4), (6, vI z6), (7, vI z7), (8, vJ z8), (10, vI z10), (11, vI z11), (13, vI z13)]) C 9 dX12_spill_410 rfl (by decide) (fun _ => rfl) h (fun x4 hx4 h => ?_)
      refine o_goto (tgt := 312) C dX12_spill_413 (by decide) ?_
      exact WM.sub [2, 3, 4, 1, 5, 6, 7, 8, 9, 0] rfl (hL312 z2 hz2 z4 hz4 x3 hx3 z6 hz6 z7 hz7 z8 hz8 z10 hz10 z11 hz11 x4 hx4 μ hμ h)
    · refine o_iload C 10 dX12_spill_401 rfl ?_
      refine o_goto (tgt := 407) C dX12_spill_403 (by decide) ?_
      refine o_iadd C dX12_spill_407 ?_
      refine o_lt h (r32_w _) (fun x5 hx5 h => ?_)
      refine o_istore (lv2 := [(5, vI x5), (0, gR G 53), (2, vI z2), (4, vI z4), (6, vI z6), (7, vI z7), (8, vJ z8), (10, vI z10), (11, vI z11), (12, vI z12), (13, vI z13)]) C dX12_spill_408 (by decide) rfl ?_
      refine o_iinc (lv2 := fun x6 => [(12, vI x6), (5, vI x5), (0, gR G 53), (2, vI z2), (4, vI z4), (6, vI z6), (7, vI z7), (8, vJ z8), (10, vI z10), (11, vI z11), (13, vI z13)]) C 9 dX12_spill_410 rfl (by decide) (fun _ => rfl) h (fun x6 hx6 h => ?_)
      refine o_goto (tgt := 312) C dX12_spill_413 (by decide) ?_
      exact WM.sub [2, 3, 4, 1, 5, 6, 7, 8, 9, 0] rfl (hL312 z2 hz2 z4 hz4 x5 hx5 z6 hz6 z7 hz7 z8 hz8 z10 hz10 z11 hz11 x6 hx6 μ hμ h)
def k_X12_spill_350 (kL156 : Int → Int → Int → Int → GM → Option (Int × GM)) (kL312 : Int → Int → Int → Int → Int → Int → Int → Int → Int → GM → Option (Int × GM)) (z2 : Int) (z4 : Int) (z5 : Int) (z6 : Int) (z7 : Int) (z8 : Int) (z10 : Int) (z11 : Int) (z12 : Int) (s0 : Int) (s1 : Int) (μ : GM) : Option (Int × GM) :=
  lt (w32 (s0 + s1)) fun x1 =>
  ck (0 ≤ z12 ∧ z12 < 20) (
  if (μ.1 77 z12) < 100 then
    ck (0 ≤ z12 ∧ z12 < 20) (
    ck (0 ≤ (μ.1 77 z12) ∧ (μ.1 77 z12) < 6) (
    ck (0 ≤ (μ.1 77 z12) ∧ (μ.1 77 z12) < 6) (lm (gA μ 93 (μ.1 77 z12) (w32 ((μ.1 93 (μ.1 77 z12)) + x1))) fun μ2 =>
    k_X12_spill_382 kL156 kL312 z2 z4 z5 z6 z7 z8 z10 z11 z12 x1 μ2)))
  else
    k_X12_spill_382 kL156 kL312 z2 z4 z5 z6 z7 z8 z10 z11 z12 x1 μ)
set_option maxHeartbeats 4000000 in
set_option maxRecDepth 100000 in
theorem w_X12_spill_350 {G : GX} {u : Int × GM} (C : CX G 5 cX12_spill 14 RX12) (hQ : gQI G (some .int) u) {kL156 : Int → Int → Int → Int → GM → Option (Int × GM)} (hL156 : ∀ (z2 : Int) (hz2 : r32 z2) (z4 : Int) (hz4 : r32 z4) (z5 : Int) (hz5 : r32 z5) (z6 : Int) (hz6 : r32 z6) (μ : GM) (hμ : gRg μ), kL156 z2 z4 z5 z6 μ = some u → WM G 14 μ 156 [(0, gR G 53), (2, vI z2), (4, vI z4), (5, vI z5), (6, vI z6)] []) {kL312 : Int → Int → Int → Int → Int → Int → Int → Int → Int → GM → Option (Int × GM)} (hL312 : ∀ (z2 : Int) (hz2 : r32 z2) (z4 : Int) (hz4 : r32 z4) (z5 : Int) (hz5 : r32 z5) (z6 : Int) (hz6 : r32 z6) (z7 : Int) (hz7 : r32 z7) (z8 : Int) (hz8 : r64 z8) (z10 : Int) (hz10 : r32 z10) (z11 : Int) (hz11 : r32 z11) (z12 : Int) (hz12 : r32 z12) (μ : GM) (hμ : gRg μ), kL312 z2 z4 z5 z6 z7 z8 z10 z11 z12 μ = some u → WM G 14 μ 312 [(0, gR G 53), (2, vI z2), (4, vI z4), (5, vI z5), (6, vI z6), (7, vI z7), (8, vJ z8), (10, vI z10), (11, vI z11), (12, vI z12)] []) {z2 : Int} (hz2 : r32 z2) {z4 : Int} (hz4 : r32 z4) {z5 : Int} (hz5 : r32 z5) {z6 : Int} (hz6 : r32 z6) {z7 : Int} (hz7 : r32 z7) {z8 : Int} (hz8 : r64 z8) {z10 : Int} (hz10 : r32 z10) {z11 : Int} (hz11 : r32 z11) {z12 : Int} (hz12 : r32 z12) {s0 : Int} (hs0 : r32 s0) {s1 : Int} (hs1 : r32 s1) {μ : GM} (hμ : gRg μ) (h : k_X12_spill_350 kL156 kL312 z2 z4 z5 z6 z7 z8 z10 z11 z12 s0 s1 μ = some u) : WM G 14 μ 350 [(0, gR G 53), (2, vI z2), (4, vI z4), (5, vI z5), (6, vI z6), (7, vI z7), (8, vJ z8), (10, vI z10), (11, vI z11), (12, vI z12)] [vI s1, vI s0] := by
  unfold k_X12_spill_350 at h
  refine o_iadd C dX12_spill_350 ?_
  refine o_lt h (r32_w _) (fun x1 hx1 h => ?_)
  refine o_istore (lv2 := [(13, vI x1), (0, gR G 53), (2, vI z2), (4, vI z4), (5, vI z5), (6, vI z6), (7, vI z7), (8, vJ z8), (10, vI z10), (11, vI z11), (12, vI z12)]) C dX12_spill_351 (by decide) rfl ?_
  refine o_aload_n C 1 dX12_spill_353 rfl rfl ?_
  refine o_getR (j := 32) C kt_53 rfl rfl (Nat.le_of_ble_eq_true rfl) lkf_RX12_80 dX12_spill_354 ?_
  refine o_iload C 10 dX12_spill_357 rfl ?_
  refine o_iald C kt_77 rfl hz12 dX12_spill_359 h (fun h => ?_)
  refine o_bipush (v := 100) C dX12_spill_360 (by decide) ?_
  refine o_icmp_ge (tgt := 382) C (hμ.i kt_77 (by decide) _) ⟨by decide, by decide⟩ dX12_spill_362 (by decide) h (fun _ h => ?_) (fun _ h => ?_)
  · exact WM.sub [1, 2, 3, 4, 5, 6, 7, 8, 9, 10, 0] rfl (w_X12_spill_382 C hQ hL156 hL312 hz2 hz4 hz5 hz6 hz7 hz8 hz10 hz11 hz12 hx1 hμ h)
  · refine o_aload_n C 1 dX12_spill_365 rfl rfl ?_
    refine o_getR (j := 53) C kt_53 rfl rfl (Nat.le_of_ble_eq_true rfl) lkf_RX12_129 dX12_spill_366 ?_
    refine o_aload_n C 1 dX12_spill_369 rfl rfl ?_
    refine o_getR (j := 32) C kt_53 rfl rfl (Nat.le_of_ble_eq_true rfl) lkf_RX12_80 dX12_spill_370 ?_
    refine o_iload C 10 dX12_spill_373 rfl ?_
    refine o_iald C kt_77 rfl hz12 dX12_spill_375 h (fun h => ?_)
    refine o_dup2ri C dX12_spill_376 ?_
    refine o_iald C kt_93 rfl (hμ.i kt_77 (by decide) _) dX12_spill_377 h (fun h => ?_)
    refine o_iload C 0 dX12_spill_378 rfl ?_
    refine o_iadd C dX12_spill_380 ?_
    refine o_iast C kt_93 rfl (hμ.i kt_77 (by decide) _) (r32_w _) hμ dX12_spill_381 h (fun μ2 hμ2 h => ?_)
    exact WM.sub [1, 2, 3, 4, 5, 6, 7, 8, 9, 10, 0] rfl (w_X12_spill_382 C hQ hL156 hL312 hz2 hz4 hz5 hz6 hz7 hz8 hz10 hz11 hz12 hx1 hμ2 h)
def k_X12_spill_312 (kL156 : Int → Int → Int → Int → GM → Option (Int × GM)) : Nat → Int → Int → Int → Int → Int → Int → Int → Int → Int → GM → Option (Int × GM)
  | 0, _, _, _, _, _, _, _, _, _, _ => none
  | n + 1, z2, z4, z5, z6, z7, z8, z10, z11, z12, μ =>
    if z12 < (μ.2 53 31) then
      ck (0 ≤ z12 ∧ z12 < 20) (
      bd (f_X12_shareOf z10 (μ.1 78 z12) z8 μ) fun x3 μ4 =>
      bd (f_X12_greatest μ4) fun x5 μ6 =>
      if z12 = x5 then
        k_X12_spill_350 kL156 (k_X12_spill_312 kL156 n) z2 z4 z5 z6 z7 z8 z10 z11 z12 x3 z11 μ6
      else
        k_X12_spill_350 kL156 (k_X12_spill_312 kL156 n) z2 z4 z5 z6 z7 z8 z10 z11 z12 x3 0 μ6)
    else
      ck (0 ≤ z7 ∧ z7 < 6) (lm (gA μ 93 z7 0) fun μ1 =>
      lt (w32 (z6 + 1)) fun x2 =>
      kL156 z2 z4 z5 x2 μ1)
set_option maxHeartbeats 4000000 in
set_option maxRecDepth 100000 in
theorem w_X12_spill_312 {G : GX} {u : Int × GM} (C : CX G 5 cX12_spill 14 RX12) (hQ : gQI G (some .int) u) {kL156 : Int → Int → Int → Int → GM → Option (Int × GM)} (hL156 : ∀ (z2 : Int) (hz2 : r32 z2) (z4 : Int) (hz4 : r32 z4) (z5 : Int) (hz5 : r32 z5) (z6 : Int) (hz6 : r32 z6) (μ : GM) (hμ : gRg μ), kL156 z2 z4 z5 z6 μ = some u → WM G 14 μ 156 [(0, gR G 53), (2, vI z2), (4, vI z4), (5, vI z5), (6, vI z6)] []) : ∀ (n : Nat) (z2 : Int) (hz2 : r32 z2) (z4 : Int) (hz4 : r32 z4) (z5 : Int) (hz5 : r32 z5) (z6 : Int) (hz6 : r32 z6) (z7 : Int) (hz7 : r32 z7) (z8 : Int) (hz8 : r64 z8) (z10 : Int) (hz10 : r32 z10) (z11 : Int) (hz11 : r32 z11) (z12 : Int) (hz12 : r32 z12) (μ : GM) (hμ : gRg μ), k_X12_spill_312 kL156 n z2 z4 z5 z6 z7 z8 z10 z11 z12 μ = some u → WM G 14 μ 312 [(0, gR G 53), (2, vI z2), (4, vI z4), (5, vI z5), (6, vI z6), (7, vI z7), (8, vJ z8), (10, vI z10), (11, vI z11), (12, vI z12)] [] := by
  intro n
  induction n with
  | zero =>
    intro z2 hz2 z4 hz4 z5 hz5 z6 hz6 z7 hz7 z8 hz8 z10 hz10 z11 hz11 z12 hz12 μ hμ h
    cases h
  | succ n ih =>
    intro z2 hz2 z4 hz4 z5 hz5 z6 hz6 z7 hz7 z8 hz8 z10 hz10 z11 hz11 z12 hz12 μ hμ h
    rw [k_X12_spill_312] at h
    refine o_iload C 9 dX12_spill_312 rfl ?_
    refine o_aload_n C 0 dX12_spill_314 rfl rfl ?_
    refine o_getI (j := 31) C kt_53 rfl rfl (Nat.le_of_ble_eq_true rfl) lkf_RX12_261 dX12_spill_315 ?_
    refine o_icmp_ge (tgt := 416) C hz12 (hμ.fi kt_53 rfl (by decide)) dX12_spill_318 (by decide) h (fun _ h => ?_) (fun _ h => ?_)
    · refine o_aload_n C 0 dX12_spill_416 rfl rfl ?_
      refine o_getR (j := 53) C kt_53 rfl rfl (Nat.le_of_ble_eq_true rfl) lkf_RX12_129 dX12_spill_417 ?_
      refine o_iload C 5 dX12_spill_420 rfl ?_
      refine o_iconst C dX12_spill_422 ?_
      refine o_iast C kt_93 rfl hz7 ⟨by decide, by decide⟩ hμ dX12_spill_423 h (fun μ1 hμ1 h => ?_)
      refine o_iinc (lv2 := fun x2 => [(6, vI x2), (0, gR G 53), (2, vI z2), (4, vI z4), (5, vI z5), (7, vI z7), (8, vJ z8), (10, vI z10), (11, vI z11), (12, vI z12)]) C 4 dX12_spill_424 rfl (by decide) (fun _ => rfl) h (fun x2 hx2 h => ?_)
      refine o_goto (tgt := 156) C dX12_spill_427 (by decide) ?_
      exact WM.sub [1, 2, 3, 4, 0] rfl (hL156 z2 hz2 z4 hz4 z5 hz5 x2 hx2 μ1 hμ1 h)
    · refine o_iload C 7 dX12_spill_321 rfl ?_
      refine o_aload_n C 0 dX12_spill_323 rfl rfl ?_
      refine o_getR (j := 33) C kt_53 rfl rfl (Nat.le_of_ble_eq_true rfl) lkf_RX12_83 dX12_spill_324 ?_
      refine o_iload C 9 dX12_spill_327 rfl ?_
      refine o_lald C kt_78 rfl hz12 dX12_spill_329 h (fun h => ?_)
      refine o_lload C 6 dX12_spill_330 rfl ?_
      refine o_cSI C [vI z10, vJ (μ.1 78 z12), vJ z8] mb_X12_shareOf (by decide) (fun _ hu => c_X12_shareOf hz10 (hμ.l kt_78 _) hz8 hμ hu) rfl (Nat.le_of_ble_eq_true rfl) h ms_X12_shareOf lkm_RX12_297 rfl rfl dX12_spill_332 (fun x3 μ4 hx3 hμ4 h => ?_)
      refine o_iload C 9 dX12_spill_335 rfl ?_
      refine o_aload_n C 0 dX12_spill_337 rfl rfl ?_
      refine o_cVI C [] mb_X12_greatest (by decide) (fun _ hu => c_X12_greatest hμ4 hu) rfl (Nat.le_of_ble_eq_true rfl) h mi_X12_greatest me_X12_greatest lkm_RX12_271 kt_53 rfl rfl rfl dX12_spill_338 (fun x5 μ6 hx5 hμ6 h => ?_)
      refine o_icmp_ne (tgt := 349) C hz12 hx5 dX12_spill_341 (by decide) h (fun _ h => ?_) (fun _ h => ?_)
      · refine o_iconst C dX12_spill_349 ?_
        exact WM.sub [0, 1, 2, 3, 4, 5, 6, 7, 8, 9] rfl (w_X12_spill_350 C hQ hL156 ih hz2 hz4 hz5 hz6 hz7 hz8 hz10 hz11 hz12 hx3 ⟨by decide, by decide⟩ hμ6 h)
      · refine o_iload C 8 dX12_spill_344 rfl ?_
        refine o_goto (tgt := 350) C dX12_spill_346 (by decide) ?_
        exact WM.sub [0, 1, 2, 3, 4, 5, 6, 7, 8, 9] rfl (w_X12_spill_350 C hQ hL156 ih hz2 hz4 hz5 hz6 hz7 hz8 hz10 hz11 hz12 hx3 hz11 hμ6 h)
def k_X12_spill_275 (kL156 : Int → Int → Int → Int → GM → Option (Int × GM)) : Nat → Int → Int → Int → Int → Int → Int → Int → Int → Int → GM → Option (Int × GM)
  | 0, _, _, _, _, _, _, _, _, _, _ => none
  | n + 1, z2, z4, z5, z6, z7, z8, z10, z11, z12, μ =>
    if z12 < (μ.2 53 31) then
      ck (0 ≤ z12 ∧ z12 < 20) (
      bd (f_X12_shareOf z10 (μ.1 78 z12) z8 μ) fun x1 μ2 =>
      lt (w32 (z11 - x1)) fun x3 =>
      lt (w32 (z12 + 1)) fun x4 =>
      k_X12_spill_275 kL156 n z2 z4 z5 z6 z7 z8 z10 x3 x4 μ2)
    else
      k_X12_spill_312 kL156 FU z2 z4 z5 z6 z7 z8 z10 z11 0 μ
set_option maxHeartbeats 4000000 in
set_option maxRecDepth 100000 in
theorem w_X12_spill_275 {G : GX} {u : Int × GM} (C : CX G 5 cX12_spill 14 RX12) (hQ : gQI G (some .int) u) {kL156 : Int → Int → Int → Int → GM → Option (Int × GM)} (hL156 : ∀ (z2 : Int) (hz2 : r32 z2) (z4 : Int) (hz4 : r32 z4) (z5 : Int) (hz5 : r32 z5) (z6 : Int) (hz6 : r32 z6) (μ : GM) (hμ : gRg μ), kL156 z2 z4 z5 z6 μ = some u → WM G 14 μ 156 [(0, gR G 53), (2, vI z2), (4, vI z4), (5, vI z5), (6, vI z6)] []) : ∀ (n : Nat) (z2 : Int) (hz2 : r32 z2) (z4 : Int) (hz4 : r32 z4) (z5 : Int) (hz5 : r32 z5) (z6 : Int) (hz6 : r32 z6) (z7 : Int) (hz7 : r32 z7) (z8 : Int) (hz8 : r64 z8) (z10 : Int) (hz10 : r32 z10) (z11 : Int) (hz11 : r32 z11) (z12 : Int) (hz12 : r32 z12) (μ : GM) (hμ : gRg μ), k_X12_spill_275 kL156 n z2 z4 z5 z6 z7 z8 z10 z11 z12 μ = some u → WM G 14 μ 275 [(0, gR G 53), (2, vI z2), (4, vI z4), (5, vI z5), (6, vI z6), (7, vI z7), (8, vJ z8), (10, vI z10), (11, vI z11), (12, vI z12)] [] := by
  intro n
  induction n with
  | zero =>
    intro z2 hz2 z4 hz4 z5 hz5 z6 hz6 z7 hz7 z8 hz8 z10 hz10 z11 hz11 z12 hz12 μ hμ h
    cases h
  | succ n ih =>
    intro z2 hz2 z4 hz4 z5 hz5 z6 hz6 z7 hz7 z8 hz8 z10 hz10 z11 hz11 z12 hz12 μ hμ h
    rw [k_X12_spill_275] at h
    refine o_iload C 9 dX12_spill_275 rfl ?_
    refine o_aload_n C 0 dX12_spill_277 rfl rfl ?_
    refine o_getI (j := 31) C kt_53 rfl rfl (Nat.le_of_ble_eq_true rfl) lkf_RX12_261 dX12_spill_278 ?_
    refine o_icmp_ge (tgt := 309) C hz12 (hμ.fi kt_53 rfl (by decide)) dX12_spill_281 (by decide) h (fun _ h => ?_) (fun _ h => ?_)
    · refine o_iconst C dX12_spill_309 ?_
      refine o_istore (lv2 := [(12, vI 0), (0, gR G 53), (2, vI z2), (4, vI z4), (5, vI z5), (6, vI z6), (7, vI z7), (8, vJ z8), (10, vI z10), (11, vI z11)]) C dX12_spill_310 (by decide) rfl ?_
      exact WM.sub [1, 2, 3, 4, 5, 6, 7, 8, 9, 0] rfl (w_X12_spill_312 C hQ hL156 FU z2 hz2 z4 hz4 z5 hz5 z6 hz6 z7 hz7 z8 hz8 z10 hz10 z11 hz11 0 ⟨by decide, by decide⟩ μ hμ h)
    · refine o_iload C 8 dX12_spill_284 rfl ?_
      refine o_iload C 7 dX12_spill_286 rfl ?_
      refine o_aload_n C 0 dX12_spill_288 rfl rfl ?_
      refine o_getR (j := 33) C kt_53 rfl rfl (Nat.le_of_ble_eq_true rfl) lkf_RX12_83 dX12_spill_289 ?_
      refine o_iload C 9 dX12_spill_292 rfl ?_
      refine o_lald C kt_78 rfl hz12 dX12_spill_294 h (fun h => ?_)
      refine o_lload C 6 dX12_spill_295 rfl ?_
      refine o_cSI C [vI z10, vJ (μ.1 78 z12), vJ z8] mb_X12_shareOf (by decide) (fun _ hu => c_X12_shareOf hz10 (hμ.l kt_78 _) hz8 hμ hu) rfl (Nat.le_of_ble_eq_true rfl) h ms_X12_shareOf lkm_RX12_297 rfl rfl dX12_spill_297 (fun x1 μ2 hx1 hμ2 h => ?_)
      refine o_isub C dX12_spill_300 ?_
      refine o_lt h (r32_w _) (fun x3 hx3 h => ?_)
      refine o_istore (lv2 := [(11, vI x3), (0, gR G 53), (2, vI z2), (4, vI z4), (5, vI z5), (6, vI z6), (7, vI z7), (8, vJ z8), (10, vI z10), (12, vI z12)]) C dX12_spill_301 (by decide) rfl ?_
      refine o_iinc (lv2 := fun x4 => [(12, vI x4), (11, vI x3), (0, gR G 53), (2, vI z2), (4, vI z4), (5, vI z5), (6, vI z6), (7, vI z7), (8, vJ z8), (10, vI z10)]) C 9 dX12_spill_303 rfl (by decide) (fun _ => rfl) h (fun x4 hx4 h => ?_)
      refine o_goto (tgt := 275) C dX12_spill_306 (by decide) ?_
      exact WM.sub [2, 3, 4, 5, 6, 7, 8, 9, 1, 0] rfl (ih z2 hz2 z4 hz4 z5 hz5 z6 hz6 z7 hz7 z8 hz8 z10 hz10 x3 hx3 x4 hx4 μ2 hμ2 h)
def k_X12_spill_172 (kL156 : Int → Int → Int → Int → GM → Option (Int × GM)) : Nat → Int → Int → Int → Int → Int → Int → GM → Option (Int × GM)
  | 0, _, _, _, _, _, _, _ => none
  | n + 1, z2, z4, z5, z6, z7, z8, μ =>
    if z8 < (μ.2 53 1) then
      if (gand (gshr z4 z8) 1) = 0 then
        if z7 = (-10000009) then
          lt (w32 (z8 + 1)) fun x9 =>
          k_X12_spill_172 kL156 n z2 z4 z5 z6 z8 x9 μ
        else
          ck (0 ≤ z8 ∧ z8 < 6) (
          ck (0 ≤ z7 ∧ z7 < 6) (
          if (μ.1 71 z7) < (μ.1 71 z8) then
            lt (w32 (z8 + 1)) fun x11 =>
            k_X12_spill_172 kL156 n z2 z4 z5 z6 z8 x11 μ
          else
            lt (w32 (z8 + 1)) fun x10 =>
            k_X12_spill_172 kL156 n z2 z4 z5 z6 z7 x10 μ))
      else
        lt (w32 (z8 + 1)) fun x8 =>
        k_X12_spill_172 kL156 n z2 z4 z5 z6 z7 x8 μ
    else
      lt (gor z4 (gshl 1 z7)) fun x1 =>
      bd (f_X12_open z7 μ) fun _x2 μ3 =>
      if 0 < (μ3.2 53 31) then
        bd (f_X12_allFlow μ3) fun x5 μ6 =>
        ck (0 ≤ z7 ∧ z7 < 6) (
        lt (μ6.1 93 z7) fun x7 =>
        k_X12_spill_275 kL156 FU z2 x1 z5 z6 z7 x5 x7 x7 0 μ6)
      else
        lt (w32 (z6 + 1)) fun x4 =>
        kL156 z2 x1 z5 x4 μ3
set_option maxHeartbeats 4000000 in
set_option maxRecDepth 100000 in
theorem w_X12_spill_172 {G : GX} {u : Int × GM} (C : CX G 5 cX12_spill 14 RX12) (hQ : gQI G (some .int) u) {kL156 : Int → Int → Int → Int → GM → Option (Int × GM)} (hL156 : ∀ (z2 : Int) (hz2 : r32 z2) (z4 : Int) (hz4 : r32 z4) (z5 : Int) (hz5 : r32 z5) (z6 : Int) (hz6 : r32 z6) (μ : GM) (hμ : gRg μ), kL156 z2 z4 z5 z6 μ = some u → WM G 14 μ 156 [(0, gR G 53), (2, vI z2), (4, vI z4), (5, vI z5), (6, vI z6)] []) : ∀ (n : Nat) (z2 : Int) (hz2 : r32 z2) (z4 : Int) (hz4 : r32 z4) (z5 : Int) (hz5 : r32 z5) (z6 : Int) (hz6 : r32 z6) (z7 : Int) (hz7 : r32 z7) (z8 : Int) (hz8 : r32 z8) (μ : GM) (hμ : gRg μ), k_X12_spill_172 kL156 n z2 z4 z5 z6 z7 z8 μ = some u → WM G 14 μ 172 [(0, gR G 53), (2, vI z2), (4, vI z4), (5, vI z5), (6, vI z6), (7, vI z7), (8, vI z8)] [] := by
  intro n
  induction n with
  | zero =>
    intro z2 hz2 z4 hz4 z5 hz5 z6 hz6 z7 hz7 z8 hz8 μ hμ h
    cases h
  | succ n ih =>
    intro z2 hz2 z4 hz4 z5 hz5 z6 hz6 z7 hz7 z8 hz8 μ hμ h
    rw [k_X12_spill_172] at h
    refine o_iload C 6 dX12_spill_172 rfl ?_
    refine o_aload_n C 0 dX12_spill_174 rfl rfl ?_
    refine o_getI (j := 1) C kt_53 rfl rfl (Nat.le_of_ble_eq_true rfl) lkf_RX12_137 dX12_spill_175 ?_
    refine o_icmp_ge (tgt := 231) C hz8 (hμ.fi kt_53 rfl (by decide)) dX12_spill_178 (by decide) h (fun _ h => ?_) (fun _ h => ?_)
    · refine o_iload C 2 dX12_spill_231 rfl ?_
      refine o_iconst C dX12_spill_233 ?_
      refine o_iload C 5 dX12_spill_234 rfl ?_
      refine o_ishl C dX12_spill_236 ?_
      refine o_ior C dX12_spill_237 ?_
      refine o_lt h (r32_toInt _) (fun x1 hx1 h => ?_)
      refine o_istore (lv2 := [(4, vI x1), (0, gR G 53), (2, vI z2), (5, vI z5), (6, vI z6), (7, vI z7), (8, vI z8)]) C dX12_spill_238 (by decide) rfl ?_
      refine o_aload_n C 1 dX12_spill_240 rfl rfl ?_
      refine o_iload C 5 dX12_spill_241 rfl ?_
      refine o_cVV C [vI z7] mb_X12_open (by decide) (fun _ hu => c_X12_open hz7 hμ hu) rfl (Nat.le_of_ble_eq_true rfl) h mi_X12_open me_X12_open lkm_RX12_268 kt_53 rfl rfl rfl dX12_spill_243 (fun _x2 μ3 hμ3 h => ?_)
      refine o_aload_n C 1 dX12_spill_246 rfl rfl ?_
      refine o_getI (j := 31) C kt_53 rfl rfl (Nat.le_of_ble_eq_true rfl) lkf_RX12_261 dX12_spill_247 ?_
      refine o_if_le (tgt := 424) C (hμ3.fi kt_53 rfl (by decide)) dX12_spill_250 (by decide) h (fun _ h => ?_) (fun _ h => ?_)
      · refine o_iinc (lv2 := fun x4 => [(6, vI x4), (4, vI x1), (0, gR G 53), (2, vI z2), (5, vI z5), (7, vI z7), (8, vI z8)]) C 4 dX12_spill_424 rfl (by decide) (fun _ => rfl) h (fun x4 hx4 h => ?_)
        refine o_goto (tgt := 156) C dX12_spill_427 (by decide) ?_
        exact WM.sub [2, 3, 1, 4, 0] rfl (hL156 z2 hz2 x1 hx1 z5 hz5 x4 hx4 μ3 hμ3 h)
      · refine o_aload_n C 1 dX12_spill_253 rfl rfl ?_
        refine o_cVL C [] mb_X12_allFlow (by decide) (fun _ hu => c_X12_allFlow hμ3 hu) rfl (Nat.le_of_ble_eq_true rfl) h mi_X12_allFlow me_X12_allFlow lkm_RX12_286 kt_53 rfl rfl rfl dX12_spill_254 (fun x5 μ6 hx5 hμ6 h => ?_)
        refine o_lstore (lv2 := [(8, vJ x5), (4, vI x1), (0, gR G 53), (2, vI z2), (5, vI z5), (6, vI z6), (7, vI z7)]) C dX12_spill_257 (by decide) rfl ?_
        refine o_aload_n C 2 dX12_spill_259 rfl rfl ?_
        refine o_getR (j := 53) C kt_53 rfl rfl (Nat.le_of_ble_eq_true rfl) lkf_RX12_129 dX12_spill_260 ?_
        refine o_iload C 6 dX12_spill_263 rfl ?_
        refine o_iald C kt_93 rfl hz7 dX12_spill_265 h (fun h => ?_)
        refine o_lt h (hμ6.i kt_93 (by decide) _) (fun x7 hx7 h => ?_)
        refine o_istore (lv2 := [(10, vI x7), (8, vJ x5), (4, vI x1), (0, gR G 53), (2, vI z2), (5, vI z5), (6, vI z6), (7, vI z7)]) C dX12_spill_266 (by decide) rfl ?_
        refine o_iload C 0 dX12_spill_268 rfl ?_
        refine o_istore (lv2 := [(11, vI x7), (10, vI x7), (8, vJ x5), (4, vI x1), (0, gR G 53), (2, vI z2), (5, vI z5), (6, vI z6), (7, vI z7)]) C dX12_spill_270 (by decide) rfl ?_
        refine o_iconst C dX12_spill_272 ?_
        refine o_istore (lv2 := [(12, vI 0), (11, vI x7), (10, vI x7), (8, vJ x5), (4, vI x1), (0, gR G 53), (2, vI z2), (5, vI z5), (6, vI z6), (7, vI z7)]) C dX12_spill_273 (by decide) rfl ?_
        exact WM.sub [5, 6, 4, 7, 8, 9, 3, 2, 1, 0] rfl (w_X12_spill_275 C hQ hL156 FU z2 hz2 x1 hx1 z5 hz5 z6 hz6 z7 hz7 x5 hx5 x7 hx7 x7 hx7 0 ⟨by decide, by decide⟩ μ6 hμ6 h)
    · refine o_iload C 2 dX12_spill_181 rfl ?_
      refine o_iload C 6 dX12_spill_183 rfl ?_
      refine o_ishr C dX12_spill_185 ?_
      refine o_iconst C dX12_spill_186 ?_
      refine o_iand C dX12_spill_187 ?_
      refine o_if_ne (tgt := 221) C (r32_toInt _) dX12_spill_188 (by decide) h (fun _ h => ?_) (fun _ h => ?_)
      · refine o_iload C 5 dX12_spill_221 rfl ?_
        refine o_istore (lv2 := [(7, vI z7), (0, gR G 53), (2, vI z2), (4, vI z4), (5, vI z5), (6, vI z6), (8, vI z8)]) C dX12_spill_223 (by decide) rfl ?_
        refine o_iinc (lv2 := fun x8 => [(8, vI x8), (7, vI z7), (0, gR G 53), (2, vI z2), (4, vI z4), (5, vI z5), (6, vI z6)]) C 6 dX12_spill_225 rfl (by decide) (fun _ => rfl) h (fun x8 hx8 h => ?_)
        refine o_goto (tgt := 172) C dX12_spill_228 (by decide) ?_
        exact WM.sub [2, 3, 4, 5, 6, 1, 0] rfl (ih z2 hz2 z4 hz4 z5 hz5 z6 hz6 z7 hz7 x8 hx8 μ hμ h)
      · refine o_iload C 5 dX12_spill_191 rfl ?_
        refine o_ldc (v := (-10000009)) C lkc_RX12_132 rfl dX12_spill_193 ?_
        refine o_icmp_eq (tgt := 216) C hz7 ⟨by decide, by decide⟩ dX12_spill_195 (by decide) h (fun _ h => ?_) (fun _ h => ?_)
        · refine o_iload C 6 dX12_spill_216 rfl ?_
          refine o_goto (tgt := 223) C dX12_spill_218 (by decide) ?_
          refine o_istore (lv2 := [(7, vI z8), (0, gR G 53), (2, vI z2), (4, vI z4), (5, vI z5), (6, vI z6), (8, vI z8)]) C dX12_spill_223 (by decide) rfl ?_
          refine o_iinc (lv2 := fun x9 => [(8, vI x9), (7, vI z8), (0, gR G 53), (2, vI z2), (4, vI z4), (5, vI z5), (6, vI z6)]) C 6 dX12_spill_225 rfl (by decide) (fun _ => rfl) h (fun x9 hx9 h => ?_)
          refine o_goto (tgt := 172) C dX12_spill_228 (by decide) ?_
          exact WM.sub [2, 3, 4, 5, 6, 1, 0] rfl (ih z2 hz2 z4 hz4 z5 hz5 z6 hz6 z8 hz8 x9 hx9 μ hμ h)
        · refine o_aload_n C 0 dX12_spill_198 rfl rfl ?_
          refine o_getR (j := 23) C kt_53 rfl rfl (Nat.le_of_ble_eq_true rfl) lkf_RX12_61 dX12_spill_199 ?_
          refine o_iload C 6 dX12_spill_202 rfl ?_
          refine o_lald C kt_71 rfl hz8 dX12_spill_204 h (fun h => ?_)
          refine o_aload_n C 0 dX12_spill_205 rfl rfl ?_
          refine o_getR (j := 23) C kt_53 rfl rfl (Nat.le_of_ble_eq_true rfl) lkf_RX12_61 dX12_spill_206 ?_
          refine o_iload C 5 dX12_spill_209 rfl ?_
          refine o_lald C kt_71 rfl hz7 dX12_spill_211 h (fun h => ?_)
          refine o_lcmp_le (tgt := 221) C (hμ.l kt_71 _) (hμ.l kt_71 _) dX12_spill_212 dX12_spill_213 (by decide) h (fun _ h => ?_) (fun _ h => ?_)
          · refine o_iload C 5 dX12_spill_221 rfl ?_
            refine o_istore (lv2 := [(7, vI z7), (0, gR G 53), (2, vI z2), (4, vI z4), (5, vI z5), (6, vI z6), (8, vI z8)]) C dX12_spill_223 (by decide) rfl ?_
            refine o_iinc (lv2 := fun x10 => [(8, vI x10), (7, vI z7), (0, gR G 53), (2, vI z2), (4, vI z4), (5, vI z5), (6, vI z6)]) C 6 dX12_spill_225 rfl (by decide) (fun _ => rfl) h (fun x10 hx10 h => ?_)
            refine o_goto (tgt := 172) C dX12_spill_228 (by decide) ?_
            exact WM.sub [2, 3, 4, 5, 6, 1, 0] rfl (ih z2 hz2 z4 hz4 z5 hz5 z6 hz6 z7 hz7 x10 hx10 μ hμ h)
          · refine o_iload C 6 dX12_spill_216 rfl ?_
            refine o_goto (tgt := 223) C dX12_spill_218 (by decide) ?_
            refine o_istore (lv2 := [(7, vI z8), (0, gR G 53), (2, vI z2), (4, vI z4), (5, vI z5), (6, vI z6), (8, vI z8)]) C dX12_spill_223 (by decide) rfl ?_
            refine o_iinc (lv2 := fun x11 => [(8, vI x11), (7, vI z8), (0, gR G 53), (2, vI z2), (4, vI z4), (5, vI z5), (6, vI z6)]) C 6 dX12_spill_225 rfl (by decide) (fun _ => rfl) h (fun x11 hx11 h => ?_)
            refine o_goto (tgt := 172) C dX12_spill_228 (by decide) ?_
            exact WM.sub [2, 3, 4, 5, 6, 1, 0] rfl (ih z2 hz2 z4 hz4 z5 hz5 z6 hz6 z8 hz8 x11 hx11 μ hμ h)
def k_X12_spill_156 : Nat → Int → Int → Int → Int → GM → Option (Int × GM)
  | 0, _, _, _, _, _ => none
  | n + 1, z2, z4, z5, z6, μ =>
    if z6 < (μ.2 53 1) then
      k_X12_spill_172 (k_X12_spill_156 n) FU z2 z4 z5 z6 (-10000009) 0 μ
    else
      if z2 < 100 then
        ck (0 ≤ z2 ∧ z2 < 6) (
        some ((μ.1 93 z2), μ))
      else
        some (z5, μ)
set_option maxHeartbeats 4000000 in
set_option maxRecDepth 100000 in
theorem w_X12_spill_156 {G : GX} {u : Int × GM} (C : CX G 5 cX12_spill 14 RX12) (hQ : gQI G (some .int) u) : ∀ (n : Nat) (z2 : Int) (hz2 : r32 z2) (z4 : Int) (hz4 : r32 z4) (z5 : Int) (hz5 : r32 z5) (z6 : Int) (hz6 : r32 z6) (μ : GM) (hμ : gRg μ), k_X12_spill_156 n z2 z4 z5 z6 μ = some u → WM G 14 μ 156 [(0, gR G 53), (2, vI z2), (4, vI z4), (5, vI z5), (6, vI z6)] [] := by
  intro n
  induction n with
  | zero =>
    intro z2 hz2 z4 hz4 z5 hz5 z6 hz6 μ hμ h
    cases h
  | succ n ih =>
    intro z2 hz2 z4 hz4 z5 hz5 z6 hz6 μ hμ h
    rw [k_X12_spill_156] at h
    refine o_iload C 4 dX12_spill_156 rfl ?_
    refine o_aload_n C 0 dX12_spill_158 rfl rfl ?_
    refine o_getI (j := 1) C kt_53 rfl rfl (Nat.le_of_ble_eq_true rfl) lkf_RX12_137 dX12_spill_159 ?_
    refine o_icmp_ge (tgt := 430) C hz6 (hμ.fi kt_53 rfl (by decide)) dX12_spill_162 (by decide) h (fun _ h => ?_) (fun _ h => ?_)
    · refine o_iload_n C 1 dX12_spill_430 rfl rfl ?_
      refine o_bipush (v := 100) C dX12_spill_431 (by decide) ?_
      refine o_icmp_ge (tgt := 445) C hz2 ⟨by decide, by decide⟩ dX12_spill_433 (by decide) h (fun _ h => ?_) (fun _ h => ?_)
      · refine o_iload C 3 dX12_spill_445 rfl ?_
        exact o_iret C hQ dX12_spill_447 h hz5 hμ
      · refine o_aload_n C 0 dX12_spill_436 rfl rfl ?_
        refine o_getR (j := 53) C kt_53 rfl rfl (Nat.le_of_ble_eq_true rfl) lkf_RX12_129 dX12_spill_437 ?_
        refine o_iload_n C 1 dX12_spill_440 rfl rfl ?_
        refine o_iald C kt_93 rfl hz2 dX12_spill_441 h (fun h => ?_)
        refine o_goto (tgt := 447) C dX12_spill_442 (by decide) ?_
        exact o_iret C hQ dX12_spill_447 h (hμ.i kt_93 (by decide) _) hμ
    · refine o_ldc (v := (-10000009)) C lkc_RX12_132 rfl dX12_spill_165 ?_
      refine o_istore (lv2 := [(7, vI (-10000009)), (0, gR G 53), (2, vI z2), (4, vI z4), (5, vI z5), (6, vI z6)]) C dX12_spill_167 (by decide) rfl ?_
      refine o_iconst C dX12_spill_169 ?_
      refine o_istore (lv2 := [(8, vI 0), (7, vI (-10000009)), (0, gR G 53), (2, vI z2), (4, vI z4), (5, vI z5), (6, vI z6)]) C dX12_spill_170 (by decide) rfl ?_
      exact WM.sub [2, 3, 4, 5, 6, 1, 0] rfl (w_X12_spill_172 C hQ ih FU z2 hz2 z4 hz4 z5 hz5 z6 hz6 (-10000009) ⟨by decide, by decide⟩ 0 ⟨by decide, by decide⟩ μ hμ h)
def k_X12_spill_114 : Nat → Int → Int → Int → GM → Option (Int × GM)
  | 0, _, _, _, _ => none
  | n + 1, z1, z2, z4, μ =>
    if z4 < 6 then
      if z4 = z1 then
        ck (0 ≤ z4 ∧ z4 < 6) (lm (gA μ 93 z4 1000000) fun μ3 =>
        lt (w32 (z4 + 1)) fun x4 =>
        k_X12_spill_114 n z1 z2 x4 μ3)
      else
        ck (0 ≤ z4 ∧ z4 < 6) (lm (gA μ 93 z4 0) fun μ1 =>
        lt (w32 (z4 + 1)) fun x2 =>
        k_X12_spill_114 n z1 z2 x2 μ1)
    else
      k_X12_spill_156 FU z2 0 0 0 μ
set_option maxHeartbeats 4000000 in
set_option maxRecDepth 100000 in
theorem w_X12_spill_114 {G : GX} {u : Int × GM} (C : CX G 5 cX12_spill 14 RX12) (hQ : gQI G (some .int) u) : ∀ (n : Nat) (z1 : Int) (hz1 : r32 z1) (z2 : Int) (hz2 : r32 z2) (z4 : Int) (hz4 : r32 z4) (μ : GM) (hμ : gRg μ), k_X12_spill_114 n z1 z2 z4 μ = some u → WM G 14 μ 114 [(0, gR G 53), (1, vI z1), (2, vI z2), (4, vI z4)] [] := by
  intro n
  induction n with
  | zero =>
    intro z1 hz1 z2 hz2 z4 hz4 μ hμ h
    cases h
  | succ n ih =>
    intro z1 hz1 z2 hz2 z4 hz4 μ hμ h
    rw [k_X12_spill_114] at h
    refine o_iload C 3 dX12_spill_114 rfl ?_
    refine o_bipush (v := 6) C dX12_spill_116 (by decide) ?_
    refine o_icmp_ge (tgt := 147) C hz4 ⟨by decide, by decide⟩ dX12_spill_118 (by decide) h (fun _ h => ?_) (fun _ h => ?_)
    · refine o_iconst C dX12_spill_147 ?_
      refine o_istore (lv2 := [(4, vI 0), (0, gR G 53), (1, vI z1), (2, vI z2)]) C dX12_spill_148 (by decide) rfl ?_
      refine o_iconst C dX12_spill_150 ?_
      refine o_istore (lv2 := [(5, vI 0), (4, vI 0), (0, gR G 53), (1, vI z1), (2, vI z2)]) C dX12_spill_151 (by decide) rfl ?_
      refine o_iconst C dX12_spill_153 ?_
      refine o_istore (lv2 := [(6, vI 0), (5, vI 0), (4, vI 0), (0, gR G 53), (1, vI z1), (2, vI z2)]) C dX12_spill_154 (by decide) rfl ?_
      exact WM.sub [3, 5, 2, 1, 0] rfl (w_X12_spill_156 C hQ FU z2 hz2 0 ⟨by decide, by decide⟩ 0 ⟨by decide, by decide⟩ 0 ⟨by decide, by decide⟩ μ hμ h)
    · refine o_aload_n C 0 dX12_spill_121 rfl rfl ?_
      refine o_getR (j := 53) C kt_53 rfl rfl (Nat.le_of_ble_eq_true rfl) lkf_RX12_129 dX12_spill_122 ?_
      refine o_iload C 3 dX12_spill_125 rfl ?_
      refine o_iload C 3 dX12_spill_127 rfl ?_
      refine o_iload_n C 1 dX12_spill_129 rfl rfl ?_
      refine o_icmp_ne (tgt := 139) C hz4 hz1 dX12_spill_130 (by decide) h (fun _ h => ?_) (fun _ h => ?_)
      · refine o_iconst C dX12_spill_139 ?_
        refine o_iast C kt_93 rfl hz4 ⟨by decide, by decide⟩ hμ dX12_spill_140 h (fun μ1 hμ1 h => ?_)
        refine o_iinc (lv2 := fun x2 => [(4, vI x2), (0, gR G 53), (1, vI z1), (2, vI z2)]) C 3 dX12_spill_141 rfl (by decide) (fun _ => rfl) h (fun x2 hx2 h => ?_)
        refine o_goto (tgt := 114) C dX12_spill_144 (by decide) ?_
        exact WM.sub [1, 2, 3, 0] rfl (ih z1 hz1 z2 hz2 x2 hx2 μ1 hμ1 h)
      · refine o_ldcw (v := 1000000) C lkc_RX12_296 rfl dX12_spill_133 ?_
        refine o_goto (tgt := 140) C dX12_spill_136 (by decide) ?_
        refine o_iast C kt_93 rfl hz4 ⟨by decide, by decide⟩ hμ dX12_spill_140 h (fun μ3 hμ3 h => ?_)
        refine o_iinc (lv2 := fun x4 => [(4, vI x4), (0, gR G 53), (1, vI z1), (2, vI z2)]) C 3 dX12_spill_141 rfl (by decide) (fun _ => rfl) h (fun x4 hx4 h => ?_)
        refine o_goto (tgt := 114) C dX12_spill_144 (by decide) ?_
        exact WM.sub [1, 2, 3, 0] rfl (ih z1 hz1 z2 hz2 x4 hx4 μ3 hμ3 h)
def k_X12_spill_85 (z1 : Int) (z2 : Int) (s0 : Int) (μ : GM) : Option (Int × GM) :=
  bd (f_X12_noCell z1 μ) fun x1 μ2 =>
  if x1 = 0 then
    if s0 = 0 then
      some ((-10000001), μ2)
    else
      bd (f_X12_rests μ2) fun x3 μ4 =>
      if x3 = 0 then
        some ((-10000003), μ4)
      else
        k_X12_spill_114 FU z1 z2 0 μ4
  else
    some ((-10000001), μ2)
set_option maxHeartbeats 4000000 in
set_option maxRecDepth 100000 in
theorem w_X12_spill_85 {G : GX} {u : Int × GM} (C : CX G 5 cX12_spill 14 RX12) (hQ : gQI G (some .int) u) {z1 : Int} (hz1 : r32 z1) {z2 : Int} (hz2 : r32 z2) {s0 : Int} (hs0 : r32 s0) {μ : GM} (hμ : gRg μ) (h : k_X12_spill_85 z1 z2 s0 μ = some u) : WM G 14 μ 85 [(0, gR G 53), (1, vI z1), (2, vI z2)] [vI s0] := by
  unfold k_X12_spill_85 at h
  refine o_istore_n (lv2 := [(3, vI s0), (0, gR G 53), (1, vI z1), (2, vI z2)]) C dX12_spill_85 rfl (by decide) rfl ?_
  refine o_aload_n C 1 dX12_spill_86 rfl rfl ?_
  refine o_iload_n C 2 dX12_spill_87 rfl rfl ?_
  refine o_cVI C [vI z1] mb_X12_noCell (by decide) (fun _ hu => c_X12_noCell hz1 hμ hu) rfl (Nat.le_of_ble_eq_true rfl) h mi_X12_noCell me_X12_noCell lkm_RX12_155 kt_53 rfl rfl rfl dX12_spill_88 (fun x1 μ2 hx1 hμ2 h => ?_)
  refine o_if_ne (tgt := 98) C hx1 dX12_spill_91 (by decide) h (fun _ h => ?_) (fun _ h => ?_)
  · refine o_ldc (v := (-10000001)) C lkc_RX12_159 rfl dX12_spill_98 ?_
    exact o_iret C hQ dX12_spill_100 h ⟨by decide, by decide⟩ hμ2
  · refine o_iload_n C 0 dX12_spill_94 rfl rfl ?_
    refine o_if_ne (tgt := 101) C hs0 dX12_spill_95 (by decide) h (fun _ h => ?_) (fun _ h => ?_)
    · refine o_aload_n C 1 dX12_spill_101 rfl rfl ?_
      refine o_cVI C [] mb_X12_rests (by decide) (fun _ hu => c_X12_rests hμ2 hu) rfl (Nat.le_of_ble_eq_true rfl) h mi_X12_rests me_X12_rests lkm_RX12_229 kt_53 rfl rfl rfl dX12_spill_102 (fun x3 μ4 hx3 hμ4 h => ?_)
      refine o_if_ne (tgt := 111) C hx3 dX12_spill_105 (by decide) h (fun _ h => ?_) (fun _ h => ?_)
      · refine o_iconst C dX12_spill_111 ?_
        refine o_istore (lv2 := [(4, vI 0), (3, vI s0), (0, gR G 53), (1, vI z1), (2, vI z2)]) C dX12_spill_112 (by decide) rfl ?_
        exact WM.sub [2, 3, 4, 0] rfl (w_X12_spill_114 C hQ FU z1 hz1 z2 hz2 0 ⟨by decide, by decide⟩ μ4 hμ4 h)
      · refine o_ldc (v := (-10000003)) C lkc_RX12_163 rfl dX12_spill_108 ?_
        exact o_iret C hQ dX12_spill_110 h ⟨by decide, by decide⟩ hμ4
    · refine o_ldc (v := (-10000001)) C lkc_RX12_159 rfl dX12_spill_98 ?_
      exact o_iret C hQ dX12_spill_100 h ⟨by decide, by decide⟩ hμ2
def f_X12_spill (z1 : Int) (z2 : Int) (μ : GM) : Option (Int × GM) :=
  lm (gF μ 53 0 0) fun μ1 =>
  bd (f_X12_in z2 0 (w32 ((μ1.2 53 1) - 1)) μ1) fun x2 μ3 =>
  if x2 = 0 then
    bd (f_X12_in z2 100 (w32 (99 + (μ3.2 53 9))) μ3) fun x4 μ5 =>
    if x4 = 0 then
      bd (f_X12_in z2 200 (w32 (199 + (μ5.2 53 14))) μ5) fun x6 μ7 =>
      if x6 = 0 then
        bd (f_X12_in z2 300 (w32 (299 + (μ7.2 53 18))) μ7) fun x8 μ9 =>
        if x8 = 0 then
          k_X12_spill_85 z1 z2 0 μ9
        else
          k_X12_spill_85 z1 z2 1 μ9
      else
        k_X12_spill_85 z1 z2 1 μ7
    else
      k_X12_spill_85 z1 z2 1 μ5
  else
    k_X12_spill_85 z1 z2 1 μ3
set_option maxHeartbeats 4000000 in
set_option maxRecDepth 100000 in
theorem w_X12_spill_0 {G : GX} {u : Int × GM} (C : CX G 5 cX12_spill 14 RX12) (hQ : gQI G (some .int) u) {z1 : Int} (hz1 : r32 z1) {z2 : Int} (hz2 : r32 z2) {μ : GM} (hμ : gRg μ) (h : f_X12_spill z1 z2 μ = some u) : WM G 14 μ 0 [(0, gR G 53), (1, vI z1), (2, vI z2)] [] := by
  unfold f_X12_spill at h
  refine o_aload_n C 0 dX12_spill_0 rfl rfl ?_
  refine o_iconst C dX12_spill_1 ?_
  refine o_putI (j := 0) C kt_53 rfl rfl tyX12_ok nmX12 (Nat.le_of_ble_eq_true rfl) lkf_RX12_133 rfl rfl ⟨by decide, by decide⟩ hμ dX12_spill_2 h (fun μ1 hμ1 h => ?_)
  refine o_iload_n C 2 dX12_spill_5 rfl rfl ?_
  refine o_i2l C hz2 dX12_spill_6 ?_
  refine o_lconst (v := 0) C dX12_spill_7 rfl ?_
  refine o_aload_n C 0 dX12_spill_8 rfl rfl ?_
  refine o_getI (j := 1) C kt_53 rfl rfl (Nat.le_of_ble_eq_true rfl) lkf_RX12_137 dX12_spill_9 ?_
  refine o_iconst C dX12_spill_12 ?_
  refine o_isub C dX12_spill_13 ?_
  refine o_i2l C (r32_w _) dX12_spill_14 ?_
  refine o_cSI C [vJ z2, vJ 0, vJ (w32 ((μ1.2 53 1) - 1))] mb_X12_in (by decide) (fun _ hu => c_X12_in (r32_r64 hz2) ⟨by decide, by decide⟩ (r32_r64 (r32_w _)) hμ1 hu) rfl (Nat.le_of_ble_eq_true rfl) h ms_X12_in lkm_RX12_140 rfl rfl dX12_spill_15 (fun x2 μ3 hx2 hμ3 h => ?_)
  refine o_if_ne (tgt := 80) C hx2 dX12_spill_18 (by decide) h (fun _ h => ?_) (fun _ h => ?_)
  · refine o_iconst C dX12_spill_80 ?_
    refine o_goto (tgt := 85) C dX12_spill_81 (by decide) ?_
    exact WM.sub [0, 1, 2] rfl (w_X12_spill_85 C hQ hz1 hz2 ⟨by decide, by decide⟩ hμ3 h)
  · refine o_iload_n C 2 dX12_spill_21 rfl rfl ?_
    refine o_i2l C hz2 dX12_spill_22 ?_
    refine o_ldc2 (v := 100) C lkc_RX12_290 rfl dX12_spill_23 ?_
    refine o_bipush (v := 99) C dX12_spill_26 (by decide) ?_
    refine o_aload_n C 0 dX12_spill_28 rfl rfl ?_
    refine o_getI (j := 9) C kt_53 rfl rfl (Nat.le_of_ble_eq_true rfl) lkf_RX12_169 dX12_spill_29 ?_
    refine o_iadd C dX12_spill_32 ?_
    refine o_i2l C (r32_w _) dX12_spill_33 ?_
    refine o_cSI C [vJ z2, vJ 100, vJ (w32 (99 + (μ3.2 53 9)))] mb_X12_in (by decide) (fun _ hu => c_X12_in (r32_r64 hz2) ⟨by decide, by decide⟩ (r32_r64 (r32_w _)) hμ3 hu) rfl (Nat.le_of_ble_eq_true rfl) h ms_X12_in lkm_RX12_140 rfl rfl dX12_spill_34 (fun x4 μ5 hx4 hμ5 h => ?_)
    refine o_if_ne (tgt := 80) C hx4 dX12_spill_37 (by decide) h (fun _ h => ?_) (fun _ h => ?_)
    · refine o_iconst C dX12_spill_80 ?_
      refine o_goto (tgt := 85) C dX12_spill_81 (by decide) ?_
      exact WM.sub [0, 1, 2] rfl (w_X12_spill_85 C hQ hz1 hz2 ⟨by decide, by decide⟩ hμ5 h)
    · refine o_iload_n C 2 dX12_spill_40 rfl rfl ?_
      refine o_i2l C hz2 dX12_spill_41 ?_
      refine o_ldc2 (v := 200) C lkc_RX12_292 rfl dX12_spill_42 ?_
      refine o_sipush (v := 199) C dX12_spill_45 (by decide) ?_
      refine o_aload_n C 0 dX12_spill_48 rfl rfl ?_
      refine o_getI (j := 14) C kt_53 rfl rfl (Nat.le_of_ble_eq_true rfl) lkf_RX12_172 dX12_spill_49 ?_
      refine o_iadd C dX12_spill_52 ?_
      refine o_i2l C (r32_w _) dX12_spill_53 ?_
      refine o_cSI C [vJ z2, vJ 200, vJ (w32 (199 + (μ5.2 53 14)))] mb_X12_in (by decide) (fun _ hu => c_X12_in (r32_r64 hz2) ⟨by decide, by decide⟩ (r32_r64 (r32_w _)) hμ5 hu) rfl (Nat.le_of_ble_eq_true rfl) h ms_X12_in lkm_RX12_140 rfl rfl dX12_spill_54 (fun x6 μ7 hx6 hμ7 h => ?_)
      refine o_if_ne (tgt := 80) C hx6 dX12_spill_57 (by decide) h (fun _ h => ?_) (fun _ h => ?_)
      · refine o_iconst C dX12_spill_80 ?_
        refine o_goto (tgt := 85) C dX12_spill_81 (by decide) ?_
        exact WM.sub [0, 1, 2] rfl (w_X12_spill_85 C hQ hz1 hz2 ⟨by decide, by decide⟩ hμ7 h)
      · refine o_iload_n C 2 dX12_spill_60 rfl rfl ?_
        refine o_i2l C hz2 dX12_spill_61 ?_
        refine o_ldc2 (v := 300) C lkc_RX12_294 rfl dX12_spill_62 ?_
        refine o_sipush (v := 299) C dX12_spill_65 (by decide) ?_
        refine o_aload_n C 0 dX12_spill_68 rfl rfl ?_
        refine o_getI (j := 18) C kt_53 rfl rfl (Nat.le_of_ble_eq_true rfl) lkf_RX12_144 dX12_spill_69 ?_
        refine o_iadd C dX12_spill_72 ?_
        refine o_i2l C (r32_w _) dX12_spill_73 ?_
        refine o_cSI C [vJ z2, vJ 300, vJ (w32 (299 + (μ7.2 53 18)))] mb_X12_in (by decide) (fun _ hu => c_X12_in (r32_r64 hz2) ⟨by decide, by decide⟩ (r32_r64 (r32_w _)) hμ7 hu) rfl (Nat.le_of_ble_eq_true rfl) h ms_X12_in lkm_RX12_140 rfl rfl dX12_spill_74 (fun x8 μ9 hx8 hμ9 h => ?_)
        refine o_if_eq (tgt := 84) C hx8 dX12_spill_77 (by decide) h (fun _ h => ?_) (fun _ h => ?_)
        · refine o_iconst C dX12_spill_84 ?_
          exact WM.sub [0, 1, 2] rfl (w_X12_spill_85 C hQ hz1 hz2 ⟨by decide, by decide⟩ hμ9 h)
        · refine o_iconst C dX12_spill_80 ?_
          refine o_goto (tgt := 85) C dX12_spill_81 (by decide) ?_
          exact WM.sub [0, 1, 2] rfl (w_X12_spill_85 C hQ hz1 hz2 ⟨by decide, by decide⟩ hμ9 h)
theorem c_X12_spill {z1 : Int} (hz1 : r32 z1) {z2 : Int} (hz2 : r32 z2) {μ : GM} (hμ : gRg μ) {u : Int × GM} (h : f_X12_spill z1 z2 μ = some u) : MtI 5 yX12_spill cX12_spill 14 (some .int) (fun ad => [.ref (ad 53), vI z1, vI z2]) μ u := MtI.of pf_X12_spill (fun _ => Nat.le_of_ble_eq_true rfl) (fun G C hQ => w_X12_spill_0 C hQ hz1 hz2 hμ h)
def k_X12_pour_48 : Nat → Int → Int → GM → Option (Int × GM)
  | 0, _, _, _ => none
  | n + 1, z3, z4, μ =>
    if z4 < 6 then
      ck (0 ≤ z4 ∧ z4 < 6) (lm (gA μ 81 z4 0) fun μ1 =>
      lt (w32 (z4 + 1)) fun x2 =>
      k_X12_pour_48 n z3 x2 μ1)
    else
      some (z3, μ)
set_option maxHeartbeats 4000000 in
set_option maxRecDepth 100000 in
theorem w_X12_pour_48 {G : GX} {u : Int × GM} (C : CX G 2 cX12_pour 5 RX12) (hQ : gQI G (some .int) u) : ∀ (n : Nat) (z3 : Int) (hz3 : r32 z3) (z4 : Int) (hz4 : r32 z4) (μ : GM) (hμ : gRg μ), k_X12_pour_48 n z3 z4 μ = some u → WM G 5 μ 48 [(0, gR G 53), (3, vI z3), (4, vI z4)] [] := by
  intro n
  induction n with
  | zero =>
    intro z3 hz3 z4 hz4 μ hμ h
    cases h
  | succ n ih =>
    intro z3 hz3 z4 hz4 μ hμ h
    rw [k_X12_pour_48] at h
    refine o_iload C 2 dX12_pour_48 rfl ?_
    refine o_bipush (v := 6) C dX12_pour_50 (by decide) ?_
    refine o_icmp_ge (tgt := 69) C hz4 ⟨by decide, by decide⟩ dX12_pour_52 (by decide) h (fun _ h => ?_) (fun _ h => ?_)
    · refine o_iload_n C 1 dX12_pour_69 rfl rfl ?_
      exact o_iret C hQ dX12_pour_70 h hz3 hμ
    · refine o_aload_n C 0 dX12_pour_55 rfl rfl ?_
      refine o_getR (j := 36) C kt_53 rfl rfl (Nat.le_of_ble_eq_true rfl) lkf_RX12_92 dX12_pour_56 ?_
      refine o_iload C 2 dX12_pour_59 rfl ?_
      refine o_lconst (v := 0) C dX12_pour_61 rfl ?_
      refine o_last C kt_81 rfl hz4 ⟨by decide, by decide⟩ hμ dX12_pour_62 h (fun μ1 hμ1 h => ?_)
      refine o_iinc (lv2 := fun x2 => [(4, vI x2), (0, gR G 53), (3, vI z3)]) C 2 dX12_pour_63 rfl (by decide) (fun _ => rfl) h (fun x2 hx2 h => ?_)
      refine o_goto (tgt := 48) C dX12_pour_66 (by decide) ?_
      exact WM.sub [1, 2, 0] rfl (ih z3 hz3 x2 hx2 μ1 hμ1 h)
def f_X12_pour (z1 : Int) (z2 : Int) (μ : GM) : Option (Int × GM) :=
  lm (gF μ 53 0 0) fun μ1 =>
  bd (f_X12_noCell z1 μ1) fun x2 μ3 =>
  if x2 = 0 then
    bd (f_X12_in z2 0 1000000 μ3) fun x4 μ5 =>
    if x4 = 0 then
      some ((-10000002), μ5)
    else
      ck (0 ≤ z1 ∧ z1 < 6) (
      lt (μ5.1 79 z1) fun x6 =>
      ck (0 ≤ z1 ∧ z1 < 6) (lm (gA μ5 79 z1 z2) fun μ7 =>
      k_X12_pour_48 FU x6 0 μ7))
  else
    some ((-10000001), μ3)
set_option maxHeartbeats 4000000 in
set_option maxRecDepth 100000 in
theorem w_X12_pour_0 {G : GX} {u : Int × GM} (C : CX G 2 cX12_pour 5 RX12) (hQ : gQI G (some .int) u) {z1 : Int} (hz1 : r32 z1) {z2 : Int} (hz2 : r32 z2) {μ : GM} (hμ : gRg μ) (h : f_X12_pour z1 z2 μ = some u) : WM G 5 μ 0 [(0, gR G 53), (1, vI z1), (2, vI z2)] [] := by
  unfold f_X12_pour at h
  refine o_aload_n C 0 dX12_pour_0 rfl rfl ?_
  refine o_iconst C dX12_pour_1 ?_
  refine o_putI (j := 0) C kt_53 rfl rfl tyX12_ok nmX12 (Nat.le_of_ble_eq_true rfl) lkf_RX12_133 rfl rfl ⟨by decide, by decide⟩ hμ dX12_pour_2 h (fun μ1 hμ1 h => ?_)
  refine o_aload_n C 0 dX12_pour_5 rfl rfl ?_
  refine o_iload_n C 1 dX12_pour_6 rfl rfl ?_
  refine o_cVI C [vI z1] mb_X12_noCell (by decide) (fun _ hu => c_X12_noCell hz1 hμ1 hu) rfl (Nat.le_of_ble_eq_true rfl) h mi_X12_noCell me_X12_noCell lkm_RX12_155 kt_53 rfl rfl rfl dX12_pour_7 (fun x2 μ3 hx2 hμ3 h => ?_)
  refine o_if_eq (tgt := 16) C hx2 dX12_pour_10 (by decide) h (fun _ h => ?_) (fun _ h => ?_)
  · refine o_iload_n C 2 dX12_pour_16 rfl rfl ?_
    refine o_i2l C hz2 dX12_pour_17 ?_
    refine o_lconst (v := 0) C dX12_pour_18 rfl ?_
    refine o_ldc2 (v := 1000000) C lkc_RX12_301 rfl dX12_pour_19 ?_
    refine o_cSI C [vJ z2, vJ 0, vJ 1000000] mb_X12_in (by decide) (fun _ hu => c_X12_in (r32_r64 hz2) ⟨by decide, by decide⟩ ⟨by decide, by decide⟩ hμ3 hu) rfl (Nat.le_of_ble_eq_true rfl) h ms_X12_in lkm_RX12_140 rfl rfl dX12_pour_22 (fun x4 μ5 hx4 hμ5 h => ?_)
    refine o_if_ne (tgt := 31) C hx4 dX12_pour_25 (by decide) h (fun _ h => ?_) (fun _ h => ?_)
    · refine o_aload_n C 0 dX12_pour_31 rfl rfl ?_
      refine o_getR (j := 34) C kt_53 rfl rfl (Nat.le_of_ble_eq_true rfl) lkf_RX12_86 dX12_pour_32 ?_
      refine o_iload_n C 1 dX12_pour_35 rfl rfl ?_
      refine o_iald C kt_79 rfl hz1 dX12_pour_36 h (fun h => ?_)
      refine o_lt h (hμ5.i kt_79 (by decide) _) (fun x6 hx6 h => ?_)
      refine o_istore_n (lv2 := [(3, vI x6), (0, gR G 53), (1, vI z1), (2, vI z2)]) C dX12_pour_37 rfl (by decide) rfl ?_
      refine o_aload_n C 1 dX12_pour_38 rfl rfl ?_
      refine o_getR (j := 34) C kt_53 rfl rfl (Nat.le_of_ble_eq_true rfl) lkf_RX12_86 dX12_pour_39 ?_
      refine o_iload_n C 2 dX12_pour_42 rfl rfl ?_
      refine o_iload_n C 3 dX12_pour_43 rfl rfl ?_
      refine o_iast C kt_79 rfl hz1 hz2 hμ5 dX12_pour_44 h (fun μ7 hμ7 h => ?_)
      refine o_iconst C dX12_pour_45 ?_
      refine o_istore (lv2 := [(4, vI 0), (3, vI x6), (0, gR G 53), (1, vI z1), (2, vI z2)]) C dX12_pour_46 (by decide) rfl ?_
      exact WM.sub [2, 1, 0] rfl (w_X12_pour_48 C hQ FU x6 hx6 0 ⟨by decide, by decide⟩ μ7 hμ7 h)
    · refine o_ldc (v := (-10000002)) C lkc_RX12_153 rfl dX12_pour_28 ?_
      exact o_iret C hQ dX12_pour_30 h ⟨by decide, by decide⟩ hμ5
  · refine o_ldc (v := (-10000001)) C lkc_RX12_159 rfl dX12_pour_13 ?_
    exact o_iret C hQ dX12_pour_15 h ⟨by decide, by decide⟩ hμ3
theorem c_X12_pour {z1 : Int} (hz1 : r32 z1) {z2 : Int} (hz2 : r32 z2) {μ : GM} (hμ : gRg μ) {u : Int × GM} (h : f_X12_pour z1 z2 μ = some u) : MtI 2 yX12_pour cX12_pour 5 (some .int) (fun ad => [.ref (ad 53), vI z1, vI z2]) μ u := MtI.of pf_X12_pour (fun _ => Nat.le_of_ble_eq_true rfl) (fun G C hQ => w_X12_pour_0 C hQ hz1 hz2 hμ h)
def f_X12_cups (z1 : Int) (μ : GM) : Option (Int × GM) :=
  lm (gF μ 53 0 0) fun μ1 =>
  bd (f_X12_noCell z1 μ1) fun x2 μ3 =>
  if x2 = 0 then
    ck (0 ≤ z1 ∧ z1 < 6) (
    some ((μ3.1 79 z1), μ3))
  else
    some ((-10000001), μ3)
set_option maxHeartbeats 4000000 in
set_option maxRecDepth 100000 in
theorem w_X12_cups_0 {G : GX} {u : Int × GM} (C : CX G 2 cX12_cups 2 RX12) (hQ : gQI G (some .int) u) {z1 : Int} (hz1 : r32 z1) {μ : GM} (hμ : gRg μ) (h : f_X12_cups z1 μ = some u) : WM G 2 μ 0 [(0, gR G 53), (1, vI z1)] [] := by
  unfold f_X12_cups at h
  refine o_aload_n C 0 dX12_cups_0 rfl rfl ?_
  refine o_iconst C dX12_cups_1 ?_
  refine o_putI (j := 0) C kt_53 rfl rfl tyX12_ok nmX12 (Nat.le_of_ble_eq_true rfl) lkf_RX12_133 rfl rfl ⟨by decide, by decide⟩ hμ dX12_cups_2 h (fun μ1 hμ1 h => ?_)
  refine o_aload_n C 0 dX12_cups_5 rfl rfl ?_
  refine o_iload_n C 1 dX12_cups_6 rfl rfl ?_
  refine o_cVI C [vI z1] mb_X12_noCell (by decide) (fun _ hu => c_X12_noCell hz1 hμ1 hu) rfl (Nat.le_of_ble_eq_true rfl) h mi_X12_noCell me_X12_noCell lkm_RX12_155 kt_53 rfl rfl rfl dX12_cups_7 (fun x2 μ3 hx2 hμ3 h => ?_)
  refine o_if_eq (tgt := 18) C hx2 dX12_cups_10 (by decide) h (fun _ h => ?_) (fun _ h => ?_)
  · refine o_aload_n C 0 dX12_cups_18 rfl rfl ?_
    refine o_getR (j := 34) C kt_53 rfl rfl (Nat.le_of_ble_eq_true rfl) lkf_RX12_86 dX12_cups_19 ?_
    refine o_iload_n C 1 dX12_cups_22 rfl rfl ?_
    refine o_iald C kt_79 rfl hz1 dX12_cups_23 h (fun h => ?_)
    exact o_iret C hQ dX12_cups_24 h (hμ3.i kt_79 (by decide) _) hμ3
  · refine o_ldc (v := (-10000001)) C lkc_RX12_159 rfl dX12_cups_13 ?_
    refine o_goto (tgt := 24) C dX12_cups_15 (by decide) ?_
    exact o_iret C hQ dX12_cups_24 h ⟨by decide, by decide⟩ hμ3
theorem c_X12_cups {z1 : Int} (hz1 : r32 z1) {μ : GM} (hμ : gRg μ) {u : Int × GM} (h : f_X12_cups z1 μ = some u) : MtI 2 yX12_cups cX12_cups 2 (some .int) (fun ad => [.ref (ad 53), vI z1]) μ u := MtI.of pf_X12_cups (fun _ => Nat.le_of_ble_eq_true rfl) (fun G C hQ => w_X12_cups_0 C hQ hz1 hμ h)
def f_X12_markOf (z1 : Int) (μ : GM) : Option (Int × GM) :=
  ck (0 ≤ z1 ∧ z1 < 6) (
  ck (0 ≤ z1 ∧ z1 < 6) (
  ck ((μ.1 56 z1) ≠ 0) (
  ck (0 ≤ z1 ∧ z1 < 6) (
  some ((w32 ((w32 (Int.tdiv (μ.1 79 z1) (μ.1 56 z1))) + (μ.1 54 z1))), μ)))))
set_option maxHeartbeats 4000000 in
set_option maxRecDepth 100000 in
theorem w_X12_markOf_0 {G : GX} {u : Int × GM} (C : CX G 0 cX12_markOf 2 RX12) (hQ : gQI G (some .int) u) {z1 : Int} (hz1 : r32 z1) {μ : GM} (hμ : gRg μ) (h : f_X12_markOf z1 μ = some u) : WM G 2 μ 0 [(0, gR G 53), (1, vI z1)] [] := by
  unfold f_X12_markOf at h
  refine o_aload_n C 0 dX12_markOf_0 rfl rfl ?_
  refine o_getR (j := 34) C kt_53 rfl rfl (Nat.le_of_ble_eq_true rfl) lkf_RX12_86 dX12_markOf_1 ?_
  refine o_iload_n C 1 dX12_markOf_4 rfl rfl ?_
  refine o_iald C kt_79 rfl hz1 dX12_markOf_5 h (fun h => ?_)
  refine o_aload_n C 0 dX12_markOf_6 rfl rfl ?_
  refine o_getR (j := 4) C kt_53 rfl rfl (Nat.le_of_ble_eq_true rfl) lkf_RX12_16 dX12_markOf_7 ?_
  refine o_iload_n C 1 dX12_markOf_10 rfl rfl ?_
  refine o_iald C kt_56 rfl hz1 dX12_markOf_11 h (fun h => ?_)
  refine o_idiv C (hμ.i kt_79 (by decide) _) (hμ.i kt_56 (by decide) _) dX12_markOf_12 h (fun h => ?_)
  refine o_aload_n C 0 dX12_markOf_13 rfl rfl ?_
  refine o_getR (j := 2) C kt_53 rfl rfl (Nat.le_of_ble_eq_true rfl) lkf_RX12_7 dX12_markOf_14 ?_
  refine o_iload_n C 1 dX12_markOf_17 rfl rfl ?_
  refine o_iald C kt_54 rfl hz1 dX12_markOf_18 h (fun h => ?_)
  refine o_iadd C dX12_markOf_19 ?_
  exact o_iret C hQ dX12_markOf_20 h (r32_w _) hμ
theorem c_X12_markOf {z1 : Int} (hz1 : r32 z1) {μ : GM} (hμ : gRg μ) {u : Int × GM} (h : f_X12_markOf z1 μ = some u) : MtI 0 yX12_markOf cX12_markOf 2 (some .int) (fun ad => [.ref (ad 53), vI z1]) μ u := MtI.of pf_X12_markOf (fun _ => Nat.le_of_ble_eq_true rfl) (fun G C hQ => w_X12_markOf_0 C hQ hz1 hμ h)
def f_X12_mark (z1 : Int) (μ : GM) : Option (Int × GM) :=
  lm (gF μ 53 0 0) fun μ1 =>
  bd (f_X12_noCell z1 μ1) fun x2 μ3 =>
  if x2 = 0 then
    bd (f_X12_markOf z1 μ3) fun x4 μ5 =>
    some (x4, μ5)
  else
    some ((-10000001), μ3)
set_option maxHeartbeats 4000000 in
set_option maxRecDepth 100000 in
theorem w_X12_mark_0 {G : GX} {u : Int × GM} (C : CX G 2 cX12_mark 2 RX12) (hQ : gQI G (some .int) u) {z1 : Int} (hz1 : r32 z1) {μ : GM} (hμ : gRg μ) (h : f_X12_mark z1 μ = some u) : WM G 2 μ 0 [(0, gR G 53), (1, vI z1)] [] := by
  unfold f_X12_mark at h
  refine o_aload_n C 0 dX12_mark_0 rfl rfl ?_
  refine o_iconst C dX12_mark_1 ?_
  refine o_putI (j := 0) C kt_53 rfl rfl tyX12_ok nmX12 (Nat.le_of_ble_eq_true rfl) lkf_RX12_133 rfl rfl ⟨by decide, by decide⟩ hμ dX12_mark_2 h (fun μ1 hμ1 h => ?_)
  refine o_aload_n C 0 dX12_mark_5 rfl rfl ?_
  refine o_iload_n C 1 dX12_mark_6 rfl rfl ?_
  refine o_cVI C [vI z1] mb_X12_noCell (by decide) (fun _ hu => c_X12_noCell hz1 hμ1 hu) rfl (Nat.le_of_ble_eq_true rfl) h mi_X12_noCell me_X12_noCell lkm_RX12_155 kt_53 rfl rfl rfl dX12_mark_7 (fun x2 μ3 hx2 hμ3 h => ?_)
  refine o_if_eq (tgt := 18) C hx2 dX12_mark_10 (by decide) h (fun _ h => ?_) (fun _ h => ?_)
  · refine o_aload_n C 0 dX12_mark_18 rfl rfl ?_
    refine o_iload_n C 1 dX12_mark_19 rfl rfl ?_
    refine o_cVI C [vI z1] mb_X12_markOf (by decide) (fun _ hu => c_X12_markOf hz1 hμ3 hu) rfl (Nat.le_of_ble_eq_true rfl) h mi_X12_markOf me_X12_markOf lkm_RX12_303 kt_53 rfl rfl rfl dX12_mark_20 (fun x4 μ5 hx4 hμ5 h => ?_)
    exact o_iret C hQ dX12_mark_23 h hx4 hμ5
  · refine o_ldc (v := (-10000001)) C lkc_RX12_159 rfl dX12_mark_13 ?_
    refine o_goto (tgt := 23) C dX12_mark_15 (by decide) ?_
    exact o_iret C hQ dX12_mark_23 h ⟨by decide, by decide⟩ hμ3
theorem c_X12_mark {z1 : Int} (hz1 : r32 z1) {μ : GM} (hμ : gRg μ) {u : Int × GM} (h : f_X12_mark z1 μ = some u) : MtI 2 yX12_mark cX12_mark 2 (some .int) (fun ad => [.ref (ad 53), vI z1]) μ u := MtI.of pf_X12_mark (fun _ => Nat.le_of_ble_eq_true rfl) (fun G C hQ => w_X12_mark_0 C hQ hz1 hμ h)
def k_X12_leaves_20 (z1 : Int) (s0 : Int) (μ : GM) : Option (Int × GM) :=
  ck (0 ≤ z1 ∧ z1 < 6) (
  ck (0 ≤ z1 ∧ z1 < 6) (lm (gA μ 79 z1 (w32 ((μ.1 79 z1) - s0))) fun μ1 =>
  some (s0, μ1)))
set_option maxHeartbeats 4000000 in
set_option maxRecDepth 100000 in
theorem w_X12_leaves_20 {G : GX} {u : Int × GM} (C : CX G 0 cX12_leaves 4 RX12) (hQ : gQI G (some .int) u) {z1 : Int} (hz1 : r32 z1) {s0 : Int} (hs0 : r32 s0) {μ : GM} (hμ : gRg μ) (h : k_X12_leaves_20 z1 s0 μ = some u) : WM G 4 μ 20 [(0, gR G 53), (1, vI z1)] [vI s0] := by
  unfold k_X12_leaves_20 at h
  refine o_istore_n (lv2 := [(3, vI s0), (0, gR G 53), (1, vI z1)]) C dX12_leaves_20 rfl (by decide) rfl ?_
  refine o_aload_n C 1 dX12_leaves_21 rfl rfl ?_
  refine o_getR (j := 34) C kt_53 rfl rfl (Nat.le_of_ble_eq_true rfl) lkf_RX12_86 dX12_leaves_22 ?_
  refine o_iload_n C 2 dX12_leaves_25 rfl rfl ?_
  refine o_dup2ri C dX12_leaves_26 ?_
  refine o_iald C kt_79 rfl hz1 dX12_leaves_27 h (fun h => ?_)
  refine o_iload_n C 0 dX12_leaves_28 rfl rfl ?_
  refine o_isub C dX12_leaves_29 ?_
  refine o_iast C kt_79 rfl hz1 (r32_w _) hμ dX12_leaves_30 h (fun μ1 hμ1 h => ?_)
  refine o_iload_n C 0 dX12_leaves_31 rfl rfl ?_
  exact o_iret C hQ dX12_leaves_32 h hs0 hμ1
def f_X12_leaves (z1 : Int) (z2 : Int) (μ : GM) : Option (Int × GM) :=
  ck (0 ≤ z1 ∧ z1 < 6) (
  if z2 < (μ.1 79 z1) then
    k_X12_leaves_20 z1 z2 μ
  else
    ck (0 ≤ z1 ∧ z1 < 6) (
    k_X12_leaves_20 z1 (μ.1 79 z1) μ))
set_option maxHeartbeats 4000000 in
set_option maxRecDepth 100000 in
theorem w_X12_leaves_0 {G : GX} {u : Int × GM} (C : CX G 0 cX12_leaves 4 RX12) (hQ : gQI G (some .int) u) {z1 : Int} (hz1 : r32 z1) {z2 : Int} (hz2 : r32 z2) {μ : GM} (hμ : gRg μ) (h : f_X12_leaves z1 z2 μ = some u) : WM G 4 μ 0 [(0, gR G 53), (1, vI z1), (2, vI z2)] [] := by
  unfold f_X12_leaves at h
  refine o_iload_n C 2 dX12_leaves_0 rfl rfl ?_
  refine o_aload_n C 0 dX12_leaves_1 rfl rfl ?_
  refine o_getR (j := 34) C kt_53 rfl rfl (Nat.le_of_ble_eq_true rfl) lkf_RX12_86 dX12_leaves_2 ?_
  refine o_iload_n C 1 dX12_leaves_5 rfl rfl ?_
  refine o_iald C kt_79 rfl hz1 dX12_leaves_6 h (fun h => ?_)
  refine o_icmp_ge (tgt := 14) C hz2 (hμ.i kt_79 (by decide) _) dX12_leaves_7 (by decide) h (fun _ h => ?_) (fun _ h => ?_)
  · refine o_aload_n C 0 dX12_leaves_14 rfl rfl ?_
    refine o_getR (j := 34) C kt_53 rfl rfl (Nat.le_of_ble_eq_true rfl) lkf_RX12_86 dX12_leaves_15 ?_
    refine o_iload_n C 1 dX12_leaves_18 rfl rfl ?_
    refine o_iald C kt_79 rfl hz1 dX12_leaves_19 h (fun h => ?_)
    exact WM.sub [0, 1] rfl (w_X12_leaves_20 C hQ hz1 (hμ.i kt_79 (by decide) _) hμ h)
  · refine o_iload_n C 2 dX12_leaves_10 rfl rfl ?_
    refine o_goto (tgt := 20) C dX12_leaves_11 (by decide) ?_
    exact WM.sub [0, 1] rfl (w_X12_leaves_20 C hQ hz1 hz2 hμ h)
theorem c_X12_leaves {z1 : Int} (hz1 : r32 z1) {z2 : Int} (hz2 : r32 z2) {μ : GM} (hμ : gRg μ) {u : Int × GM} (h : f_X12_leaves z1 z2 μ = some u) : MtI 0 yX12_leaves cX12_leaves 4 (some .int) (fun ad => [.ref (ad 53), vI z1, vI z2]) μ u := MtI.of pf_X12_leaves (fun _ => Nat.le_of_ble_eq_true rfl) (fun G C hQ => w_X12_leaves_0 C hQ hz1 hz2 hμ h)
def f_X12_comes (z1 : Int) (z2 : Int) (μ : GM) : Option (Int × GM) :=
  ck (0 ≤ z1 ∧ z1 < 6) (
  ck (0 ≤ z1 ∧ z1 < 6) (lm (gA μ 79 z1 (w32 ((μ.1 79 z1) + z2))) fun μ1 =>
  ck (0 ≤ z1 ∧ z1 < 6) (
  if 1000000 < (μ1.1 79 z1) then
    ck (0 ≤ 5 ∧ 5 < 6) (
    ck (0 ≤ z1 ∧ z1 < 6) (
    ck (0 ≤ 5 ∧ 5 < 6) (lm (gA μ1 81 5 (w64 ((μ1.1 81 5) + (w32 ((μ1.1 79 z1) - 1000000))))) fun μ2 =>
    ck (0 ≤ z1 ∧ z1 < 6) (lm (gA μ2 79 z1 1000000) fun μ3 =>
    some (0, μ3)))))
  else
    some (0, μ1))))
set_option maxHeartbeats 4000000 in
set_option maxRecDepth 100000 in
theorem w_X12_comes_0 {G : GX} {u : Int × GM} (C : CX G 0 cX12_comes 3 RX12) (hQ : gQV G none u) {z1 : Int} (hz1 : r32 z1) {z2 : Int} (hz2 : r32 z2) {μ : GM} (hμ : gRg μ) (h : f_X12_comes z1 z2 μ = some u) : WM G 3 μ 0 [(0, gR G 53), (1, vI z1), (2, vI z2)] [] := by
  unfold f_X12_comes at h
  refine o_aload_n C 0 dX12_comes_0 rfl rfl ?_
  refine o_getR (j := 34) C kt_53 rfl rfl (Nat.le_of_ble_eq_true rfl) lkf_RX12_86 dX12_comes_1 ?_
  refine o_iload_n C 1 dX12_comes_4 rfl rfl ?_
  refine o_dup2ri C dX12_comes_5 ?_
  refine o_iald C kt_79 rfl hz1 dX12_comes_6 h (fun h => ?_)
  refine o_iload_n C 2 dX12_comes_7 rfl rfl ?_
  refine o_iadd C dX12_comes_8 ?_
  refine o_iast C kt_79 rfl hz1 (r32_w _) hμ dX12_comes_9 h (fun μ1 hμ1 h => ?_)
  refine o_aload_n C 0 dX12_comes_10 rfl rfl ?_
  refine o_getR (j := 34) C kt_53 rfl rfl (Nat.le_of_ble_eq_true rfl) lkf_RX12_86 dX12_comes_11 ?_
  refine o_iload_n C 1 dX12_comes_14 rfl rfl ?_
  refine o_iald C kt_79 rfl hz1 dX12_comes_15 h (fun h => ?_)
  refine o_ldcw (v := 1000000) C lkc_RX12_296 rfl dX12_comes_16 ?_
  refine o_icmp_le (tgt := 51) C (hμ1.i kt_79 (by decide) _) ⟨by decide, by decide⟩ dX12_comes_19 (by decide) h (fun _ h => ?_) (fun _ h => ?_)
  · exact o_vret C hQ dX12_comes_51 h hμ1
  · refine o_aload_n C 0 dX12_comes_22 rfl rfl ?_
    refine o_getR (j := 36) C kt_53 rfl rfl (Nat.le_of_ble_eq_true rfl) lkf_RX12_92 dX12_comes_23 ?_
    refine o_iconst C dX12_comes_26 ?_
    refine o_dup2ri C dX12_comes_27 ?_
    refine o_lald C kt_81 rfl ⟨by decide, by decide⟩ dX12_comes_28 h (fun h => ?_)
    refine o_aload_n C 0 dX12_comes_29 rfl rfl ?_
    refine o_getR (j := 34) C kt_53 rfl rfl (Nat.le_of_ble_eq_true rfl) lkf_RX12_86 dX12_comes_30 ?_
    refine o_iload_n C 1 dX12_comes_33 rfl rfl ?_
    refine o_iald C kt_79 rfl hz1 dX12_comes_34 h (fun h => ?_)
    refine o_ldcw (v := 1000000) C lkc_RX12_296 rfl dX12_comes_35 ?_
    refine o_isub C dX12_comes_38 ?_
    refine o_i2l C (r32_w _) dX12_comes_39 ?_
    refine o_ladd C dX12_comes_40 ?_
    refine o_last C kt_81 rfl ⟨by decide, by decide⟩ (r64_w _) hμ1 dX12_comes_41 h (fun μ2 hμ2 h => ?_)
    refine o_aload_n C 0 dX12_comes_42 rfl rfl ?_
    refine o_getR (j := 34) C kt_53 rfl rfl (Nat.le_of_ble_eq_true rfl) lkf_RX12_86 dX12_comes_43 ?_
    refine o_iload_n C 1 dX12_comes_46 rfl rfl ?_
    refine o_ldcw (v := 1000000) C lkc_RX12_296 rfl dX12_comes_47 ?_
    refine o_iast C kt_79 rfl hz1 ⟨by decide, by decide⟩ hμ2 dX12_comes_50 h (fun μ3 hμ3 h => ?_)
    exact o_vret C hQ dX12_comes_51 h hμ3
theorem c_X12_comes {z1 : Int} (hz1 : r32 z1) {z2 : Int} (hz2 : r32 z2) {μ : GM} (hμ : gRg μ) {u : Int × GM} (h : f_X12_comes z1 z2 μ = some u) : MtV 0 yX12_comes cX12_comes 3 none (fun ad => [.ref (ad 53), vI z1, vI z2]) μ u := MtV.of pf_X12_comes (fun _ => Nat.le_of_ble_eq_true rfl) (fun G C hQ => w_X12_comes_0 C hQ hz1 hz2 hμ h)
