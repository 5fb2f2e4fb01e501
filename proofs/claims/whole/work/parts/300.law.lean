def k_L_law_931 (kL18 : Int → GM → Option (Int × GM)) (L : Nat) (xs : Nat → Int) (z3 : Int) (s0 : Int) (s2 : Int) (s3 : Int) (μ : GM) : Option (Int × GM) :=
  bd (f_X12_time s2 s3 μ) fun x1 μ2 =>
  if s0 = x1 then
    lt (w32 (z3 + 5)) fun x3 =>
    kL18 x3 μ2
  else
    some (0 % 2, μ2)
set_option maxHeartbeats 4000000 in
set_option maxRecDepth 100000 in
theorem w_L_law_931 {G : GX} {u : Int × GM} (C : CX G 8 cL_law 4 RL) (hQ : gQLw G u) {L : Nat} {xs : Nat → Int} (hX : SX G L xs) (hxs : ∀ j, r32 (xs j)) (hL : r32 (L : Int)) {kL18 : Int → GM → Option (Int × GM)} (hL18 : ∀ (z3 : Int) (hz3 : r32 z3) (μ : GM) (hμ : gRg μ), kL18 z3 μ = some u → WM G 4 μ 18 [(0, gR G 999), (1, gR G 0), (2, gR G 53), (3, vI z3)] []) {z3 : Int} (hz3 : r32 z3) {s0 : Int} (hs0 : r64 s0) {s2 : Int} (hs2 : r32 s2) {s3 : Int} (hs3 : r32 s3) {μ : GM} (hμ : gRg μ) (h : k_L_law_931 kL18 L xs z3 s0 s2 s3 μ = some u) : WM G 4 μ 931 [(0, gR G 999), (1, gR G 0), (2, gR G 53), (3, vI z3)] [vI s3, vI s2, gR G 53, vJ s0] := by
  unfold k_L_law_931 at h
  refine o_cVL C [vI s2, vI s3] mb_X12_time (by decide) (fun _ hu => c_X12_time hs2 hs3 hμ hu) rfl (Nat.le_of_ble_eq_true rfl) h mi_X12_time me_X12_time lkm_RL_103 kt_53 rfl rfl rfl dL_law_931 (fun x1 μ2 hx1 hμ2 h => ?_)
  refine o_lcmp_eq (tgt := 1550) C hs0 hx1 dL_law_934 dL_law_935 (by decide) h (fun _ h => ?_) (fun _ h => ?_)
  · refine o_iinc (lv2 := fun x3 => [(3, vI x3), (0, gR G 999), (1, gR G 0), (2, gR G 53)]) C 3 dL_law_1550 rfl (by decide) (fun _ => rfl) h (fun x3 hx3 h => ?_)
    refine o_goto (tgt := 18) C dL_law_1553 (by decide) ?_
    exact WM.sub [1, 2, 3, 0] rfl (hL18 x3 hx3 μ2 hμ2 h)
  · refine o_iconst C dL_law_938 ?_
    exact o_lawret C hQ (by decide) dL_law_939 h
def k_L_law_909 (kL18 : Int → GM → Option (Int × GM)) (L : Nat) (xs : Nat → Int) (z3 : Int) (s1 : Int) (s2 : Int) (μ : GM) : Option (Int × GM) :=
  bd (f_X11_time s1 s2 μ) fun x1 μ2 =>
  ck (0 ≤ (w32 (z3 + 1)) ∧ (w32 (z3 + 1)) < (L : Int)) (
  ck (0 ≤ (w32 (z3 + 2)) ∧ (w32 (z3 + 2)) < (L : Int)) (
  if (xs (Int.toNat (w32 (z3 + 2)))) = 0 then
    k_L_law_931 kL18 L xs z3 x1 (xs (Int.toNat (w32 (z3 + 1)))) 0 μ2
  else
    k_L_law_931 kL18 L xs z3 x1 (xs (Int.toNat (w32 (z3 + 1)))) 1 μ2))
set_option maxHeartbeats 4000000 in
set_option maxRecDepth 100000 in
theorem w_L_law_909 {G : GX} {u : Int × GM} (C : CX G 8 cL_law 4 RL) (hQ : gQLw G u) {L : Nat} {xs : Nat → Int} (hX : SX G L xs) (hxs : ∀ j, r32 (xs j)) (hL : r32 (L : Int)) {kL18 : Int → GM → Option (Int × GM)} (hL18 : ∀ (z3 : Int) (hz3 : r32 z3) (μ : GM) (hμ : gRg μ), kL18 z3 μ = some u → WM G 4 μ 18 [(0, gR G 999), (1, gR G 0), (2, gR G 53), (3, vI z3)] []) {z3 : Int} (hz3 : r32 z3) {s1 : Int} (hs1 : r32 s1) {s2 : Int} (hs2 : r32 s2) {μ : GM} (hμ : gRg μ) (h : k_L_law_909 kL18 L xs z3 s1 s2 μ = some u) : WM G 4 μ 909 [(0, gR G 999), (1, gR G 0), (2, gR G 53), (3, vI z3)] [vI s2, vI s1, gR G 0] := by
  unfold k_L_law_909 at h
  refine o_cVL C [vI s1, vI s2] mb_X11_time (by decide) (fun _ hu => c_X11_time hs1 hs2 hμ hu) rfl (Nat.le_of_ble_eq_true rfl) h mi_X11_time me_X11_time lkm_RL_100 kt_0 rfl rfl rfl dL_law_909 (fun x1 μ2 hx1 hμ2 h => ?_)
  refine o_aload_n C 2 dL_law_912 rfl rfl ?_
  refine o_aload_n C 0 dL_law_913 rfl rfl ?_
  refine o_iload_n C 3 dL_law_914 rfl rfl ?_
  refine o_iconst C dL_law_915 ?_
  refine o_iadd C dL_law_916 ?_
  refine o_sld C hX (r32_w _) dL_law_917 h (fun h => ?_)
  refine o_aload_n C 0 dL_law_918 rfl rfl ?_
  refine o_iload_n C 3 dL_law_919 rfl rfl ?_
  refine o_iconst C dL_law_920 ?_
  refine o_iadd C dL_law_921 ?_
  refine o_sld C hX (r32_w _) dL_law_922 h (fun h => ?_)
  refine o_if_eq (tgt := 930) C (hxs _) dL_law_923 (by decide) h (fun _ h => ?_) (fun _ h => ?_)
  · refine o_iconst C dL_law_930 ?_
    exact WM.sub [0, 1, 2, 3] rfl (w_L_law_931 C hQ hX hxs hL hL18 hz3 hx1 (hxs _) ⟨by decide, by decide⟩ hμ2 h)
  · refine o_iconst C dL_law_926 ?_
    refine o_goto (tgt := 931) C dL_law_927 (by decide) ?_
    exact WM.sub [0, 1, 2, 3] rfl (w_L_law_931 C hQ hX hxs hL hL18 hz3 hx1 (hxs _) ⟨by decide, by decide⟩ hμ2 h)
def k_L_law_825 (kL18 : Int → GM → Option (Int × GM)) (L : Nat) (xs : Nat → Int) (z3 : Int) (s0 : Int) (s2 : Int) (μ : GM) : Option (Int × GM) :=
  bd (f_X12_through s2 μ) fun x1 μ2 =>
  if s0 = x1 then
    lt (w32 (z3 + 5)) fun x3 =>
    kL18 x3 μ2
  else
    some (0 % 2, μ2)
set_option maxHeartbeats 4000000 in
set_option maxRecDepth 100000 in
theorem w_L_law_825 {G : GX} {u : Int × GM} (C : CX G 8 cL_law 4 RL) (hQ : gQLw G u) {L : Nat} {xs : Nat → Int} (hX : SX G L xs) (hxs : ∀ j, r32 (xs j)) (hL : r32 (L : Int)) {kL18 : Int → GM → Option (Int × GM)} (hL18 : ∀ (z3 : Int) (hz3 : r32 z3) (μ : GM) (hμ : gRg μ), kL18 z3 μ = some u → WM G 4 μ 18 [(0, gR G 999), (1, gR G 0), (2, gR G 53), (3, vI z3)] []) {z3 : Int} (hz3 : r32 z3) {s0 : Int} (hs0 : r64 s0) {s2 : Int} (hs2 : r32 s2) {μ : GM} (hμ : gRg μ) (h : k_L_law_825 kL18 L xs z3 s0 s2 μ = some u) : WM G 4 μ 825 [(0, gR G 999), (1, gR G 0), (2, gR G 53), (3, vI z3)] [vI s2, gR G 53, vJ s0] := by
  unfold k_L_law_825 at h
  refine o_cVL C [vI s2] mb_X12_through (by decide) (fun _ hu => c_X12_through hs2 hμ hu) rfl (Nat.le_of_ble_eq_true rfl) h mi_X12_through me_X12_through lkm_RL_91 kt_53 rfl rfl rfl dL_law_825 (fun x1 μ2 hx1 hμ2 h => ?_)
  refine o_lcmp_eq (tgt := 1550) C hs0 hx1 dL_law_828 dL_law_829 (by decide) h (fun _ h => ?_) (fun _ h => ?_)
  · refine o_iinc (lv2 := fun x3 => [(3, vI x3), (0, gR G 999), (1, gR G 0), (2, gR G 53)]) C 3 dL_law_1550 rfl (by decide) (fun _ => rfl) h (fun x3 hx3 h => ?_)
    refine o_goto (tgt := 18) C dL_law_1553 (by decide) ?_
    exact WM.sub [1, 2, 3, 0] rfl (hL18 x3 hx3 μ2 hμ2 h)
  · refine o_iconst C dL_law_832 ?_
    exact o_lawret C hQ (by decide) dL_law_833 h
def k_L_law_808 (kL18 : Int → GM → Option (Int × GM)) (L : Nat) (xs : Nat → Int) (z3 : Int) (s1 : Int) (μ : GM) : Option (Int × GM) :=
  bd (f_X11_through s1 μ) fun x1 μ2 =>
  ck (0 ≤ (w32 (z3 + 1)) ∧ (w32 (z3 + 1)) < (L : Int)) (
  if (xs (Int.toNat (w32 (z3 + 1)))) = 0 then
    k_L_law_825 kL18 L xs z3 x1 0 μ2
  else
    k_L_law_825 kL18 L xs z3 x1 1 μ2)
set_option maxHeartbeats 4000000 in
set_option maxRecDepth 100000 in
theorem w_L_law_808 {G : GX} {u : Int × GM} (C : CX G 8 cL_law 4 RL) (hQ : gQLw G u) {L : Nat} {xs : Nat → Int} (hX : SX G L xs) (hxs : ∀ j, r32 (xs j)) (hL : r32 (L : Int)) {kL18 : Int → GM → Option (Int × GM)} (hL18 : ∀ (z3 : Int) (hz3 : r32 z3) (μ : GM) (hμ : gRg μ), kL18 z3 μ = some u → WM G 4 μ 18 [(0, gR G 999), (1, gR G 0), (2, gR G 53), (3, vI z3)] []) {z3 : Int} (hz3 : r32 z3) {s1 : Int} (hs1 : r32 s1) {μ : GM} (hμ : gRg μ) (h : k_L_law_808 kL18 L xs z3 s1 μ = some u) : WM G 4 μ 808 [(0, gR G 999), (1, gR G 0), (2, gR G 53), (3, vI z3)] [vI s1, gR G 0] := by
  unfold k_L_law_808 at h
  refine o_cVL C [vI s1] mb_X11_through (by decide) (fun _ hu => c_X11_through hs1 hμ hu) rfl (Nat.le_of_ble_eq_true rfl) h mi_X11_through me_X11_through lkm_RL_87 kt_0 rfl rfl rfl dL_law_808 (fun x1 μ2 hx1 hμ2 h => ?_)
  refine o_aload_n C 2 dL_law_811 rfl rfl ?_
  refine o_aload_n C 0 dL_law_812 rfl rfl ?_
  refine o_iload_n C 3 dL_law_813 rfl rfl ?_
  refine o_iconst C dL_law_814 ?_
  refine o_iadd C dL_law_815 ?_
  refine o_sld C hX (r32_w _) dL_law_816 h (fun h => ?_)
  refine o_if_eq (tgt := 824) C (hxs _) dL_law_817 (by decide) h (fun _ h => ?_) (fun _ h => ?_)
  · refine o_iconst C dL_law_824 ?_
    exact WM.sub [0, 1, 2, 3] rfl (w_L_law_825 C hQ hX hxs hL hL18 hz3 hx1 ⟨by decide, by decide⟩ hμ2 h)
  · refine o_iconst C dL_law_820 ?_
    refine o_goto (tgt := 825) C dL_law_821 (by decide) ?_
    exact WM.sub [0, 1, 2, 3] rfl (w_L_law_825 C hQ hX hxs hL hL18 hz3 hx1 ⟨by decide, by decide⟩ hμ2 h)
def k_L_law_647 (kL18 : Int → GM → Option (Int × GM)) (L : Nat) (xs : Nat → Int) (z3 : Int) (s0 : Int) (s2 : Int) (s3 : Int) (μ : GM) : Option (Int × GM) :=
  bd (f_X12_head s2 s3 μ) fun x1 μ2 =>
  if s0 = x1 then
    lt (w32 (z3 + 5)) fun x3 =>
    kL18 x3 μ2
  else
    some (0 % 2, μ2)
set_option maxHeartbeats 4000000 in
set_option maxRecDepth 100000 in
theorem w_L_law_647 {G : GX} {u : Int × GM} (C : CX G 8 cL_law 4 RL) (hQ : gQLw G u) {L : Nat} {xs : Nat → Int} (hX : SX G L xs) (hxs : ∀ j, r32 (xs j)) (hL : r32 (L : Int)) {kL18 : Int → GM → Option (Int × GM)} (hL18 : ∀ (z3 : Int) (hz3 : r32 z3) (μ : GM) (hμ : gRg μ), kL18 z3 μ = some u → WM G 4 μ 18 [(0, gR G 999), (1, gR G 0), (2, gR G 53), (3, vI z3)] []) {z3 : Int} (hz3 : r32 z3) {s0 : Int} (hs0 : r64 s0) {s2 : Int} (hs2 : r32 s2) {s3 : Int} (hs3 : r32 s3) {μ : GM} (hμ : gRg μ) (h : k_L_law_647 kL18 L xs z3 s0 s2 s3 μ = some u) : WM G 4 μ 647 [(0, gR G 999), (1, gR G 0), (2, gR G 53), (3, vI z3)] [vI s3, vI s2, gR G 53, vJ s0] := by
  unfold k_L_law_647 at h
  refine o_cVL C [vI s2, vI s3] mb_X12_head (by decide) (fun _ hu => c_X12_head hs2 hs3 hμ hu) rfl (Nat.le_of_ble_eq_true rfl) h mi_X12_head me_X12_head lkm_RL_61 kt_53 rfl rfl rfl dL_law_647 (fun x1 μ2 hx1 hμ2 h => ?_)
  refine o_lcmp_eq (tgt := 1550) C hs0 hx1 dL_law_650 dL_law_651 (by decide) h (fun _ h => ?_) (fun _ h => ?_)
  · refine o_iinc (lv2 := fun x3 => [(3, vI x3), (0, gR G 999), (1, gR G 0), (2, gR G 53)]) C 3 dL_law_1550 rfl (by decide) (fun _ => rfl) h (fun x3 hx3 h => ?_)
    refine o_goto (tgt := 18) C dL_law_1553 (by decide) ?_
    exact WM.sub [1, 2, 3, 0] rfl (hL18 x3 hx3 μ2 hμ2 h)
  · refine o_iconst C dL_law_654 ?_
    exact o_lawret C hQ (by decide) dL_law_655 h
def k_L_law_625 (kL18 : Int → GM → Option (Int × GM)) (L : Nat) (xs : Nat → Int) (z3 : Int) (s1 : Int) (s2 : Int) (μ : GM) : Option (Int × GM) :=
  bd (f_X11_head s1 s2 μ) fun x1 μ2 =>
  ck (0 ≤ (w32 (z3 + 1)) ∧ (w32 (z3 + 1)) < (L : Int)) (
  ck (0 ≤ (w32 (z3 + 2)) ∧ (w32 (z3 + 2)) < (L : Int)) (
  if (xs (Int.toNat (w32 (z3 + 2)))) = 0 then
    k_L_law_647 kL18 L xs z3 x1 (xs (Int.toNat (w32 (z3 + 1)))) 0 μ2
  else
    k_L_law_647 kL18 L xs z3 x1 (xs (Int.toNat (w32 (z3 + 1)))) 1 μ2))
set_option maxHeartbeats 4000000 in
set_option maxRecDepth 100000 in
theorem w_L_law_625 {G : GX} {u : Int × GM} (C : CX G 8 cL_law 4 RL) (hQ : gQLw G u) {L : Nat} {xs : Nat → Int} (hX : SX G L xs) (hxs : ∀ j, r32 (xs j)) (hL : r32 (L : Int)) {kL18 : Int → GM → Option (Int × GM)} (hL18 : ∀ (z3 : Int) (hz3 : r32 z3) (μ : GM) (hμ : gRg μ), kL18 z3 μ = some u → WM G 4 μ 18 [(0, gR G 999), (1, gR G 0), (2, gR G 53), (3, vI z3)] []) {z3 : Int} (hz3 : r32 z3) {s1 : Int} (hs1 : r32 s1) {s2 : Int} (hs2 : r32 s2) {μ : GM} (hμ : gRg μ) (h : k_L_law_625 kL18 L xs z3 s1 s2 μ = some u) : WM G 4 μ 625 [(0, gR G 999), (1, gR G 0), (2, gR G 53), (3, vI z3)] [vI s2, vI s1, gR G 0] := by
  unfold k_L_law_625 at h
  refine o_cVL C [vI s1, vI s2] mb_X11_head (by decide) (fun _ hu => c_X11_head hs1 hs2 hμ hu) rfl (Nat.le_of_ble_eq_true rfl) h mi_X11_head me_X11_head lkm_RL_57 kt_0 rfl rfl rfl dL_law_625 (fun x1 μ2 hx1 hμ2 h => ?_)
  refine o_aload_n C 2 dL_law_628 rfl rfl ?_
  refine o_aload_n C 0 dL_law_629 rfl rfl ?_
  refine o_iload_n C 3 dL_law_630 rfl rfl ?_
  refine o_iconst C dL_law_631 ?_
  refine o_iadd C dL_law_632 ?_
  refine o_sld C hX (r32_w _) dL_law_633 h (fun h => ?_)
  refine o_aload_n C 0 dL_law_634 rfl rfl ?_
  refine o_iload_n C 3 dL_law_635 rfl rfl ?_
  refine o_iconst C dL_law_636 ?_
  refine o_iadd C dL_law_637 ?_
  refine o_sld C hX (r32_w _) dL_law_638 h (fun h => ?_)
  refine o_if_eq (tgt := 646) C (hxs _) dL_law_639 (by decide) h (fun _ h => ?_) (fun _ h => ?_)
  · refine o_iconst C dL_law_646 ?_
    exact WM.sub [0, 1, 2, 3] rfl (w_L_law_647 C hQ hX hxs hL hL18 hz3 hx1 (hxs _) ⟨by decide, by decide⟩ hμ2 h)
  · refine o_iconst C dL_law_642 ?_
    refine o_goto (tgt := 647) C dL_law_643 (by decide) ?_
    exact WM.sub [0, 1, 2, 3] rfl (w_L_law_647 C hQ hX hxs hL hL18 hz3 hx1 (hxs _) ⟨by decide, by decide⟩ hμ2 h)
def k_L_law_18 (L : Nat) (xs : Nat → Int) : Nat → Int → GM → Option (Int × GM)
  | 0, _, _ => none
  | n + 1, z3, μ =>
    if (w32 ((L : Int) - 5)) < z3 then
      some (1 % 2, μ)
    else
      ck (0 ≤ z3 ∧ z3 < (L : Int)) (
      if (gand (xs (Int.toNat z3)) 63) = 0 then
        ck (0 ≤ (w32 (z3 + 1)) ∧ (w32 (z3 + 1)) < (L : Int)) (
        ck (0 ≤ (w32 (z3 + 2)) ∧ (w32 (z3 + 2)) < (L : Int)) (
        ck (0 ≤ (w32 (z3 + 3)) ∧ (w32 (z3 + 3)) < (L : Int)) (
        bd (f_X11_cell (xs (Int.toNat (w32 (z3 + 1)))) (xs (Int.toNat (w32 (z3 + 2)))) (xs (Int.toNat (w32 (z3 + 3)))) μ) fun x1 μ2 =>
        ck (0 ≤ (w32 (z3 + 1)) ∧ (w32 (z3 + 1)) < (L : Int)) (
        ck (0 ≤ (w32 (z3 + 2)) ∧ (w32 (z3 + 2)) < (L : Int)) (
        ck (0 ≤ (w32 (z3 + 3)) ∧ (w32 (z3 + 3)) < (L : Int)) (
        bd (f_X12_cell (xs (Int.toNat (w32 (z3 + 1)))) (xs (Int.toNat (w32 (z3 + 2)))) (xs (Int.toNat (w32 (z3 + 3)))) μ2) fun x3 μ4 =>
        if x1 = x3 then
          lt (w32 (z3 + 5)) fun x5 =>
          k_L_law_18 L xs n x5 μ4
        else
          some (0 % 2, μ4)))))))
      else if (gand (xs (Int.toNat z3)) 63) = 1 then
        ck (0 ≤ (w32 (z3 + 1)) ∧ (w32 (z3 + 1)) < (L : Int)) (
        ck (0 ≤ (w32 (z3 + 2)) ∧ (w32 (z3 + 2)) < (L : Int)) (
        ck (0 ≤ (w32 (z3 + 3)) ∧ (w32 (z3 + 3)) < (L : Int)) (
        bd (f_X11_link (xs (Int.toNat (w32 (z3 + 1)))) (xs (Int.toNat (w32 (z3 + 2)))) (xs (Int.toNat (w32 (z3 + 3)))) μ) fun x6 μ7 =>
        ck (0 ≤ (w32 (z3 + 1)) ∧ (w32 (z3 + 1)) < (L : Int)) (
        ck (0 ≤ (w32 (z3 + 2)) ∧ (w32 (z3 + 2)) < (L : Int)) (
        ck (0 ≤ (w32 (z3 + 3)) ∧ (w32 (z3 + 3)) < (L : Int)) (
        bd (f_X12_link (xs (Int.toNat (w32 (z3 + 1)))) (xs (Int.toNat (w32 (z3 + 2)))) (xs (Int.toNat (w32 (z3 + 3)))) μ7) fun x8 μ9 =>
        if x6 = x8 then
          lt (w32 (z3 + 5)) fun x10 =>
          k_L_law_18 L xs n x10 μ9
        else
          some (0 % 2, μ9)))))))
      else if (gand (xs (Int.toNat z3)) 63) = 2 then
        ck (0 ≤ (w32 (z3 + 1)) ∧ (w32 (z3 + 1)) < (L : Int)) (
        ck (0 ≤ (w32 (z3 + 2)) ∧ (w32 (z3 + 2)) < (L : Int)) (
        ck (0 ≤ (w32 (z3 + 3)) ∧ (w32 (z3 + 3)) < (L : Int)) (
        ck (0 ≤ (w32 (z3 + 4)) ∧ (w32 (z3 + 4)) < (L : Int)) (
        bd (f_X11_river (xs (Int.toNat (w32 (z3 + 1)))) (xs (Int.toNat (w32 (z3 + 2)))) (xs (Int.toNat (w32 (z3 + 3)))) (xs (Int.toNat (w32 (z3 + 4)))) μ) fun x11 μ12 =>
        ck (0 ≤ (w32 (z3 + 1)) ∧ (w32 (z3 + 1)) < (L : Int)) (
        ck (0 ≤ (w32 (z3 + 2)) ∧ (w32 (z3 + 2)) < (L : Int)) (
        ck (0 ≤ (w32 (z3 + 3)) ∧ (w32 (z3 + 3)) < (L : Int)) (
        ck (0 ≤ (w32 (z3 + 4)) ∧ (w32 (z3 + 4)) < (L : Int)) (
        bd (f_X12_river (xs (Int.toNat (w32 (z3 + 1)))) (xs (Int.toNat (w32 (z3 + 2)))) (xs (Int.toNat (w32 (z3 + 3)))) (xs (Int.toNat (w32 (z3 + 4)))) μ12) fun x13 μ14 =>
        if x11 = x13 then
          lt (w32 (z3 + 5)) fun x15 =>
          k_L_law_18 L xs n x15 μ14
        else
          some (0 % 2, μ14)))))))))
      else if (gand (xs (Int.toNat z3)) 63) = 3 then
        ck (0 ≤ (w32 (z3 + 1)) ∧ (w32 (z3 + 1)) < (L : Int)) (
        ck (0 ≤ (w32 (z3 + 2)) ∧ (w32 (z3 + 2)) < (L : Int)) (
        ck (0 ≤ (w32 (z3 + 3)) ∧ (w32 (z3 + 3)) < (L : Int)) (
        bd (f_X11_drain (xs (Int.toNat (w32 (z3 + 1)))) (xs (Int.toNat (w32 (z3 + 2)))) (xs (Int.toNat (w32 (z3 + 3)))) μ) fun x16 μ17 =>
        ck (0 ≤ (w32 (z3 + 1)) ∧ (w32 (z3 + 1)) < (L : Int)) (
        ck (0 ≤ (w32 (z3 + 2)) ∧ (w32 (z3 + 2)) < (L : Int)) (
        ck (0 ≤ (w32 (z3 + 3)) ∧ (w32 (z3 + 3)) < (L : Int)) (
        bd (f_X12_drain (xs (Int.toNat (w32 (z3 + 1)))) (xs (Int.toNat (w32 (z3 + 2)))) (xs (Int.toNat (w32 (z3 + 3)))) μ17) fun x18 μ19 =>
        if x16 = x18 then
          lt (w32 (z3 + 5)) fun x20 =>
          k_L_law_18 L xs n x20 μ19
        else
          some (0 % 2, μ19)))))))
      else if (gand (xs (Int.toNat z3)) 63) = 4 then
        ck (0 ≤ (w32 (z3 + 1)) ∧ (w32 (z3 + 1)) < (L : Int)) (
        ck (0 ≤ (w32 (z3 + 2)) ∧ (w32 (z3 + 2)) < (L : Int)) (
        ck (0 ≤ (w32 (z3 + 3)) ∧ (w32 (z3 + 3)) < (L : Int)) (
        bd (f_X11_well (xs (Int.toNat (w32 (z3 + 1)))) (xs (Int.toNat (w32 (z3 + 2)))) (xs (Int.toNat (w32 (z3 + 3)))) μ) fun x21 μ22 =>
        ck (0 ≤ (w32 (z3 + 1)) ∧ (w32 (z3 + 1)) < (L : Int)) (
        ck (0 ≤ (w32 (z3 + 2)) ∧ (w32 (z3 + 2)) < (L : Int)) (
        ck (0 ≤ (w32 (z3 + 3)) ∧ (w32 (z3 + 3)) < (L : Int)) (
        bd (f_X12_well (xs (Int.toNat (w32 (z3 + 1)))) (xs (Int.toNat (w32 (z3 + 2)))) (xs (Int.toNat (w32 (z3 + 3)))) μ22) fun x23 μ24 =>
        if x21 = x23 then
          lt (w32 (z3 + 5)) fun x25 =>
          k_L_law_18 L xs n x25 μ24
        else
          some (0 % 2, μ24)))))))
      else if (gand (xs (Int.toNat z3)) 63) = 5 then
        ck (0 ≤ (w32 (z3 + 1)) ∧ (w32 (z3 + 1)) < (L : Int)) (
        ck (0 ≤ (w32 (z3 + 2)) ∧ (w32 (z3 + 2)) < (L : Int)) (
        bd (f_X11_rain (xs (Int.toNat (w32 (z3 + 1)))) (xs (Int.toNat (w32 (z3 + 2)))) μ) fun x26 μ27 =>
        ck (0 ≤ (w32 (z3 + 1)) ∧ (w32 (z3 + 1)) < (L : Int)) (
        ck (0 ≤ (w32 (z3 + 2)) ∧ (w32 (z3 + 2)) < (L : Int)) (
        bd (f_X12_rain (xs (Int.toNat (w32 (z3 + 1)))) (xs (Int.toNat (w32 (z3 + 2)))) μ27) fun x28 μ29 =>
        if x26 = x28 then
          lt (w32 (z3 + 5)) fun x30 =>
          k_L_law_18 L xs n x30 μ29
        else
          some (0 % 2, μ29)))))
      else if (gand (xs (Int.toNat z3)) 63) = 6 then
        ck (0 ≤ (w32 (z3 + 1)) ∧ (w32 (z3 + 1)) < (L : Int)) (
        ck (0 ≤ (w32 (z3 + 2)) ∧ (w32 (z3 + 2)) < (L : Int)) (
        bd (f_X11_ease (xs (Int.toNat (w32 (z3 + 1)))) (xs (Int.toNat (w32 (z3 + 2)))) μ) fun x31 μ32 =>
        ck (0 ≤ (w32 (z3 + 1)) ∧ (w32 (z3 + 1)) < (L : Int)) (
        ck (0 ≤ (w32 (z3 + 2)) ∧ (w32 (z3 + 2)) < (L : Int)) (
        bd (f_X12_ease (xs (Int.toNat (w32 (z3 + 1)))) (xs (Int.toNat (w32 (z3 + 2)))) μ32) fun x33 μ34 =>
        if x31 = x33 then
          lt (w32 (z3 + 5)) fun x35 =>
          k_L_law_18 L xs n x35 μ34
        else
          some (0 % 2, μ34)))))
      else if (gand (xs (Int.toNat z3)) 63) = 7 then
        ck (0 ≤ (w32 (z3 + 1)) ∧ (w32 (z3 + 1)) < (L : Int)) (
        ck (0 ≤ (w32 (z3 + 2)) ∧ (w32 (z3 + 2)) < (L : Int)) (
        bd (f_X11_rate (xs (Int.toNat (w32 (z3 + 1)))) (xs (Int.toNat (w32 (z3 + 2)))) μ) fun x36 μ37 =>
        ck (0 ≤ (w32 (z3 + 1)) ∧ (w32 (z3 + 1)) < (L : Int)) (
        ck (0 ≤ (w32 (z3 + 2)) ∧ (w32 (z3 + 2)) < (L : Int)) (
        bd (f_X12_rate (xs (Int.toNat (w32 (z3 + 1)))) (xs (Int.toNat (w32 (z3 + 2)))) μ37) fun x38 μ39 =>
        if x36 = x38 then
          lt (w32 (z3 + 5)) fun x40 =>
          k_L_law_18 L xs n x40 μ39
        else
          some (0 % 2, μ39)))))
      else if (gand (xs (Int.toNat z3)) 63) = 8 then
        ck (0 ≤ (w32 (z3 + 1)) ∧ (w32 (z3 + 1)) < (L : Int)) (
        ck (0 ≤ (w32 (z3 + 2)) ∧ (w32 (z3 + 2)) < (L : Int)) (
        bd (f_X11_stage (xs (Int.toNat (w32 (z3 + 1)))) (xs (Int.toNat (w32 (z3 + 2)))) μ) fun x41 μ42 =>
        ck (0 ≤ (w32 (z3 + 1)) ∧ (w32 (z3 + 1)) < (L : Int)) (
        ck (0 ≤ (w32 (z3 + 2)) ∧ (w32 (z3 + 2)) < (L : Int)) (
        bd (f_X12_stage (xs (Int.toNat (w32 (z3 + 1)))) (xs (Int.toNat (w32 (z3 + 2)))) μ42) fun x43 μ44 =>
        if x41 = x43 then
          lt (w32 (z3 + 5)) fun x45 =>
          k_L_law_18 L xs n x45 μ44
        else
          some (0 % 2, μ44)))))
      else if (gand (xs (Int.toNat z3)) 63) = 9 then
        bd (f_X11_pattern μ) fun x46 μ47 =>
        bd (f_X12_pattern μ47) fun x48 μ49 =>
        if x46 = x48 then
          lt (w32 (z3 + 5)) fun x50 =>
          k_L_law_18 L xs n x50 μ49
        else
          some (0 % 2, μ49)
      else if (gand (xs (Int.toNat z3)) 63) = 10 then
        ck (0 ≤ (w32 (z3 + 1)) ∧ (w32 (z3 + 1)) < (L : Int)) (
        ck (0 ≤ (w32 (z3 + 2)) ∧ (w32 (z3 + 2)) < (L : Int)) (
        if (xs (Int.toNat (w32 (z3 + 2)))) = 0 then
          k_L_law_625 (k_L_law_18 L xs n) L xs z3 (xs (Int.toNat (w32 (z3 + 1)))) 0 μ
        else
          k_L_law_625 (k_L_law_18 L xs n) L xs z3 (xs (Int.toNat (w32 (z3 + 1)))) 1 μ))
      else if (gand (xs (Int.toNat z3)) 63) = 11 then
        ck (0 ≤ (w32 (z3 + 1)) ∧ (w32 (z3 + 1)) < (L : Int)) (
        bd (f_X11_milli (xs (Int.toNat (w32 (z3 + 1)))) μ) fun x51 μ52 =>
        ck (0 ≤ (w32 (z3 + 1)) ∧ (w32 (z3 + 1)) < (L : Int)) (
        bd (f_X12_milli (xs (Int.toNat (w32 (z3 + 1)))) μ52) fun x53 μ54 =>
        if x51 = x53 then
          lt (w32 (z3 + 5)) fun x55 =>
          k_L_law_18 L xs n x55 μ54
        else
          some (0 % 2, μ54)))
      else if (gand (xs (Int.toNat z3)) 63) = 12 then
        ck (0 ≤ (w32 (z3 + 1)) ∧ (w32 (z3 + 1)) < (L : Int)) (
        bd (f_X11_flow (xs (Int.toNat (w32 (z3 + 1)))) μ) fun x56 μ57 =>
        ck (0 ≤ (w32 (z3 + 1)) ∧ (w32 (z3 + 1)) < (L : Int)) (
        bd (f_X12_flow (xs (Int.toNat (w32 (z3 + 1)))) μ57) fun x58 μ59 =>
        if x56 = x58 then
          lt (w32 (z3 + 5)) fun x60 =>
          k_L_law_18 L xs n x60 μ59
        else
          some (0 % 2, μ59)))
      else if (gand (xs (Int.toNat z3)) 63) = 13 then
        ck (0 ≤ (w32 (z3 + 1)) ∧ (w32 (z3 + 1)) < (L : Int)) (
        bd (f_X11_gives (xs (Int.toNat (w32 (z3 + 1)))) μ) fun x61 μ62 =>
        ck (0 ≤ (w32 (z3 + 1)) ∧ (w32 (z3 + 1)) < (L : Int)) (
        bd (f_X12_gives (xs (Int.toNat (w32 (z3 + 1)))) μ62) fun x63 μ64 =>
        if x61 = x63 then
          lt (w32 (z3 + 5)) fun x65 =>
          k_L_law_18 L xs n x65 μ64
        else
          some (0 % 2, μ64)))
      else if (gand (xs (Int.toNat z3)) 63) = 14 then
        ck (0 ≤ (w32 (z3 + 1)) ∧ (w32 (z3 + 1)) < (L : Int)) (
        bd (f_X11_takes (xs (Int.toNat (w32 (z3 + 1)))) μ) fun x66 μ67 =>
        ck (0 ≤ (w32 (z3 + 1)) ∧ (w32 (z3 + 1)) < (L : Int)) (
        bd (f_X12_takes (xs (Int.toNat (w32 (z3 + 1)))) μ67) fun x68 μ69 =>
        if x66 = x68 then
          lt (w32 (z3 + 5)) fun x70 =>
          k_L_law_18 L xs n x70 μ69
        else
          some (0 % 2, μ69)))
      else if (gand (xs (Int.toNat z3)) 63) = 15 then
        ck (0 ≤ (w32 (z3 + 1)) ∧ (w32 (z3 + 1)) < (L : Int)) (
        bd (f_X11_dry (xs (Int.toNat (w32 (z3 + 1)))) μ) fun x71 μ72 =>
        ck (0 ≤ (w32 (z3 + 1)) ∧ (w32 (z3 + 1)) < (L : Int)) (
        bd (f_X12_dry (xs (Int.toNat (w32 (z3 + 1)))) μ72) fun x73 μ74 =>
        if x71 = x73 then
          lt (w32 (z3 + 5)) fun x75 =>
          k_L_law_18 L xs n x75 μ74
        else
          some (0 % 2, μ74)))
      else if (gand (xs (Int.toNat z3)) 63) = 16 then
        ck (0 ≤ (w32 (z3 + 1)) ∧ (w32 (z3 + 1)) < (L : Int)) (
        bd (f_X11_salt (xs (Int.toNat (w32 (z3 + 1)))) μ) fun x76 μ77 =>
        ck (0 ≤ (w32 (z3 + 1)) ∧ (w32 (z3 + 1)) < (L : Int)) (
        bd (f_X12_salt (xs (Int.toNat (w32 (z3 + 1)))) μ77) fun x78 μ79 =>
        if x76 = x78 then
          lt (w32 (z3 + 5)) fun x80 =>
          k_L_law_18 L xs n x80 μ79
        else
          some (0 % 2, μ79)))
      else if (gand (xs (Int.toNat z3)) 63) = 17 then
        ck (0 ≤ (w32 (z3 + 1)) ∧ (w32 (z3 + 1)) < (L : Int)) (
        if (xs (Int.toNat (w32 (z3 + 1)))) = 0 then
          k_L_law_808 (k_L_law_18 L xs n) L xs z3 0 μ
        else
          k_L_law_808 (k_L_law_18 L xs n) L xs z3 1 μ)
      else if (gand (xs (Int.toNat z3)) 63) = 18 then
        ck (0 ≤ (w32 (z3 + 1)) ∧ (w32 (z3 + 1)) < (L : Int)) (
        ck (0 ≤ (w32 (z3 + 2)) ∧ (w32 (z3 + 2)) < (L : Int)) (
        bd (f_X11_way (xs (Int.toNat (w32 (z3 + 1)))) (xs (Int.toNat (w32 (z3 + 2)))) μ) fun x81 μ82 =>
        ck (0 ≤ (w32 (z3 + 1)) ∧ (w32 (z3 + 1)) < (L : Int)) (
        ck (0 ≤ (w32 (z3 + 2)) ∧ (w32 (z3 + 2)) < (L : Int)) (
        bd (f_X12_way (xs (Int.toNat (w32 (z3 + 1)))) (xs (Int.toNat (w32 (z3 + 2)))) μ82) fun x83 μ84 =>
        if x81 = x83 then
          lt (w32 (z3 + 5)) fun x85 =>
          k_L_law_18 L xs n x85 μ84
        else
          some (0 % 2, μ84)))))
      else if (gand (xs (Int.toNat z3)) 63) = 19 then
        ck (0 ≤ (w32 (z3 + 1)) ∧ (w32 (z3 + 1)) < (L : Int)) (
        bd (f_X11_end (xs (Int.toNat (w32 (z3 + 1)))) μ) fun x86 μ87 =>
        ck (0 ≤ (w32 (z3 + 1)) ∧ (w32 (z3 + 1)) < (L : Int)) (
        bd (f_X12_end (xs (Int.toNat (w32 (z3 + 1)))) μ87) fun x88 μ89 =>
        if x86 = x88 then
          lt (w32 (z3 + 5)) fun x90 =>
          k_L_law_18 L xs n x90 μ89
        else
          some (0 % 2, μ89)))
      else if (gand (xs (Int.toNat z3)) 63) = 20 then
        ck (0 ≤ (w32 (z3 + 1)) ∧ (w32 (z3 + 1)) < (L : Int)) (
        ck (0 ≤ (w32 (z3 + 2)) ∧ (w32 (z3 + 2)) < (L : Int)) (
        if (xs (Int.toNat (w32 (z3 + 2)))) = 0 then
          k_L_law_909 (k_L_law_18 L xs n) L xs z3 (xs (Int.toNat (w32 (z3 + 1)))) 0 μ
        else
          k_L_law_909 (k_L_law_18 L xs n) L xs z3 (xs (Int.toNat (w32 (z3 + 1)))) 1 μ))
      else if (gand (xs (Int.toNat z3)) 63) = 21 then
        ck (0 ≤ (w32 (z3 + 1)) ∧ (w32 (z3 + 1)) < (L : Int)) (
        bd (f_X11_wayTime (xs (Int.toNat (w32 (z3 + 1)))) μ) fun x91 μ92 =>
        ck (0 ≤ (w32 (z3 + 1)) ∧ (w32 (z3 + 1)) < (L : Int)) (
        bd (f_X12_wayTime (xs (Int.toNat (w32 (z3 + 1)))) μ92) fun x93 μ94 =>
        if x91 = x93 then
          lt (w32 (z3 + 5)) fun x95 =>
          k_L_law_18 L xs n x95 μ94
        else
          some (0 % 2, μ94)))
      else if (gand (xs (Int.toNat z3)) 63) = 22 then
        ck (0 ≤ (w32 (z3 + 1)) ∧ (w32 (z3 + 1)) < (L : Int)) (
        bd (f_X11_zone (xs (Int.toNat (w32 (z3 + 1)))) μ) fun x96 μ97 =>
        ck (0 ≤ (w32 (z3 + 1)) ∧ (w32 (z3 + 1)) < (L : Int)) (
        bd (f_X12_zone (xs (Int.toNat (w32 (z3 + 1)))) μ97) fun x98 μ99 =>
        if x96 = x98 then
          lt (w32 (z3 + 5)) fun x100 =>
          k_L_law_18 L xs n x100 μ99
        else
          some (0 % 2, μ99)))
      else if (gand (xs (Int.toNat z3)) 63) = 23 then
        ck (0 ≤ (w32 (z3 + 1)) ∧ (w32 (z3 + 1)) < (L : Int)) (
        ck (0 ≤ (w32 (z3 + 2)) ∧ (w32 (z3 + 2)) < (L : Int)) (
        bd (f_X11_spill (xs (Int.toNat (w32 (z3 + 1)))) (xs (Int.toNat (w32 (z3 + 2)))) μ) fun x101 μ102 =>
        ck (0 ≤ (w32 (z3 + 1)) ∧ (w32 (z3 + 1)) < (L : Int)) (
        ck (0 ≤ (w32 (z3 + 2)) ∧ (w32 (z3 + 2)) < (L : Int)) (
        bd (f_X12_spill (xs (Int.toNat (w32 (z3 + 1)))) (xs (Int.toNat (w32 (z3 + 2)))) μ102) fun x103 μ104 =>
        if x101 = x103 then
          lt (w32 (z3 + 5)) fun x105 =>
          k_L_law_18 L xs n x105 μ104
        else
          some (0 % 2, μ104)))))
      else if (gand (xs (Int.toNat z3)) 63) = 24 then
        ck (0 ≤ (w32 (z3 + 1)) ∧ (w32 (z3 + 1)) < (L : Int)) (
        ck (0 ≤ (w32 (z3 + 2)) ∧ (w32 (z3 + 2)) < (L : Int)) (
        bd (f_X11_pour (xs (Int.toNat (w32 (z3 + 1)))) (xs (Int.toNat (w32 (z3 + 2)))) μ) fun x106 μ107 =>
        ck (0 ≤ (w32 (z3 + 1)) ∧ (w32 (z3 + 1)) < (L : Int)) (
        ck (0 ≤ (w32 (z3 + 2)) ∧ (w32 (z3 + 2)) < (L : Int)) (
        bd (f_X12_pour (xs (Int.toNat (w32 (z3 + 1)))) (xs (Int.toNat (w32 (z3 + 2)))) μ107) fun x108 μ109 =>
        if x106 = x108 then
          lt (w32 (z3 + 5)) fun x110 =>
          k_L_law_18 L xs n x110 μ109
        else
          some (0 % 2, μ109)))))
      else if (gand (xs (Int.toNat z3)) 63) = 25 then
        ck (0 ≤ (w32 (z3 + 1)) ∧ (w32 (z3 + 1)) < (L : Int)) (
        bd (f_X11_cups (xs (Int.toNat (w32 (z3 + 1)))) μ) fun x111 μ112 =>
        ck (0 ≤ (w32 (z3 + 1)) ∧ (w32 (z3 + 1)) < (L : Int)) (
        bd (f_X12_cups (xs (Int.toNat (w32 (z3 + 1)))) μ112) fun x113 μ114 =>
        if x111 = x113 then
          lt (w32 (z3 + 5)) fun x115 =>
          k_L_law_18 L xs n x115 μ114
        else
          some (0 % 2, μ114)))
      else if (gand (xs (Int.toNat z3)) 63) = 26 then
        ck (0 ≤ (w32 (z3 + 1)) ∧ (w32 (z3 + 1)) < (L : Int)) (
        bd (f_X11_mark (xs (Int.toNat (w32 (z3 + 1)))) μ) fun x116 μ117 =>
        ck (0 ≤ (w32 (z3 + 1)) ∧ (w32 (z3 + 1)) < (L : Int)) (
        bd (f_X12_mark (xs (Int.toNat (w32 (z3 + 1)))) μ117) fun x118 μ119 =>
        if x116 = x118 then
          lt (w32 (z3 + 5)) fun x120 =>
          k_L_law_18 L xs n x120 μ119
        else
          some (0 % 2, μ119)))
      else if (gand (xs (Int.toNat z3)) 63) = 27 then
        ck (0 ≤ (w32 (z3 + 1)) ∧ (w32 (z3 + 1)) < (L : Int)) (
        bd (f_X11_tick (xs (Int.toNat (w32 (z3 + 1)))) μ) fun x121 μ122 =>
        ck (0 ≤ (w32 (z3 + 1)) ∧ (w32 (z3 + 1)) < (L : Int)) (
        bd (f_X12_tick (xs (Int.toNat (w32 (z3 + 1)))) μ122) fun x123 μ124 =>
        if x121 = x123 then
          lt (w32 (z3 + 5)) fun x125 =>
          k_L_law_18 L xs n x125 μ124
        else
          some (0 % 2, μ124)))
      else if (gand (xs (Int.toNat z3)) 63) = 28 then
        ck (0 ≤ (w32 (z3 + 1)) ∧ (w32 (z3 + 1)) < (L : Int)) (
        bd (f_X11_book (xs (Int.toNat (w32 (z3 + 1)))) μ) fun x126 μ127 =>
        ck (0 ≤ (w32 (z3 + 1)) ∧ (w32 (z3 + 1)) < (L : Int)) (
        bd (f_X12_book (xs (Int.toNat (w32 (z3 + 1)))) μ127) fun x128 μ129 =>
        if x126 = x128 then
          lt (w32 (z3 + 5)) fun x130 =>
          k_L_law_18 L xs n x130 μ129
        else
          some (0 % 2, μ129)))
      else if (gand (xs (Int.toNat z3)) 63) = 29 then
        ck (0 ≤ (w32 (z3 + 1)) ∧ (w32 (z3 + 1)) < (L : Int)) (
        ck (0 ≤ (w32 (z3 + 2)) ∧ (w32 (z3 + 2)) < (L : Int)) (
        bd (f_X11_world (xs (Int.toNat (w32 (z3 + 1)))) (xs (Int.toNat (w32 (z3 + 2)))) μ) fun x131 μ132 =>
        ck (0 ≤ (w32 (z3 + 1)) ∧ (w32 (z3 + 1)) < (L : Int)) (
        ck (0 ≤ (w32 (z3 + 2)) ∧ (w32 (z3 + 2)) < (L : Int)) (
        bd (f_X12_world (xs (Int.toNat (w32 (z3 + 1)))) (xs (Int.toNat (w32 (z3 + 2)))) μ132) fun x133 μ134 =>
        if x131 = x133 then
          lt (w32 (z3 + 5)) fun x135 =>
          k_L_law_18 L xs n x135 μ134
        else
          some (0 % 2, μ134)))))
      else if (gand (xs (Int.toNat z3)) 63) = 30 then
        ck (0 ≤ (w32 (z3 + 1)) ∧ (w32 (z3 + 1)) < (L : Int)) (
        ck (0 ≤ (w32 (z3 + 2)) ∧ (w32 (z3 + 2)) < (L : Int)) (
        ck (0 ≤ (w32 (z3 + 3)) ∧ (w32 (z3 + 3)) < (L : Int)) (
        bd (f_X11_see (xs (Int.toNat (w32 (z3 + 1)))) (xs (Int.toNat (w32 (z3 + 2)))) (xs (Int.toNat (w32 (z3 + 3)))) μ) fun x136 μ137 =>
        ck (0 ≤ (w32 (z3 + 1)) ∧ (w32 (z3 + 1)) < (L : Int)) (
        ck (0 ≤ (w32 (z3 + 2)) ∧ (w32 (z3 + 2)) < (L : Int)) (
        ck (0 ≤ (w32 (z3 + 3)) ∧ (w32 (z3 + 3)) < (L : Int)) (
        bd (f_X12_see (xs (Int.toNat (w32 (z3 + 1)))) (xs (Int.toNat (w32 (z3 + 2)))) (xs (Int.toNat (w32 (z3 + 3)))) μ137) fun x138 μ139 =>
        if x136 = x138 then
          lt (w32 (z3 + 5)) fun x140 =>
          k_L_law_18 L xs n x140 μ139
        else
          some (0 % 2, μ139)))))))
      else if (gand (xs (Int.toNat z3)) 63) = 31 then
        bd (f_X11_left μ) fun x141 μ142 =>
        bd (f_X12_left μ142) fun x143 μ144 =>
        if x141 = x143 then
          lt (w32 (z3 + 5)) fun x145 =>
          k_L_law_18 L xs n x145 μ144
        else
          some (0 % 2, μ144)
      else if (gand (xs (Int.toNat z3)) 63) = 32 then
        ck (0 ≤ (w32 (z3 + 1)) ∧ (w32 (z3 + 1)) < (L : Int)) (
        ck (0 ≤ (w32 (z3 + 2)) ∧ (w32 (z3 + 2)) < (L : Int)) (
        bd (f_X11_inWorld (xs (Int.toNat (w32 (z3 + 1)))) (xs (Int.toNat (w32 (z3 + 2)))) μ) fun x146 μ147 =>
        ck (0 ≤ (w32 (z3 + 1)) ∧ (w32 (z3 + 1)) < (L : Int)) (
        ck (0 ≤ (w32 (z3 + 2)) ∧ (w32 (z3 + 2)) < (L : Int)) (
        bd (f_X12_inWorld (xs (Int.toNat (w32 (z3 + 1)))) (xs (Int.toNat (w32 (z3 + 2)))) μ147) fun x148 μ149 =>
        if x146 = x148 then
          lt (w32 (z3 + 5)) fun x150 =>
          k_L_law_18 L xs n x150 μ149
        else
          some (0 % 2, μ149)))))
      else if (gand (xs (Int.toNat z3)) 63) = 33 then
        bd (f_X11_next μ) fun x151 μ152 =>
        bd (f_X12_next μ152) fun x153 μ154 =>
        if x151 = x153 then
          lt (w32 (z3 + 5)) fun x155 =>
          k_L_law_18 L xs n x155 μ154
        else
          some (0 % 2, μ154)
      else if (gand (xs (Int.toNat z3)) 63) = 34 then
        ck (0 ≤ (w32 (z3 + 1)) ∧ (w32 (z3 + 1)) < (L : Int)) (
        bd (f_X11_alike (xs (Int.toNat (w32 (z3 + 1)))) μ) fun x156 μ157 =>
        ck (0 ≤ (w32 (z3 + 1)) ∧ (w32 (z3 + 1)) < (L : Int)) (
        bd (f_X12_alike (xs (Int.toNat (w32 (z3 + 1)))) μ157) fun x158 μ159 =>
        if x156 = x158 then
          lt (w32 (z3 + 5)) fun x160 =>
          k_L_law_18 L xs n x160 μ159
        else
          some (0 % 2, μ159)))
      else if (gand (xs (Int.toNat z3)) 63) = 35 then
        ck (0 ≤ (w32 (z3 + 1)) ∧ (w32 (z3 + 1)) < (L : Int)) (
        bd (f_X11_sign (xs (Int.toNat (w32 (z3 + 1)))) μ) fun x161 μ162 =>
        ck (0 ≤ (w32 (z3 + 1)) ∧ (w32 (z3 + 1)) < (L : Int)) (
        bd (f_X12_sign (xs (Int.toNat (w32 (z3 + 1)))) μ162) fun x163 μ164 =>
        if x161 = x163 then
          lt (w32 (z3 + 5)) fun x165 =>
          k_L_law_18 L xs n x165 μ164
        else
          some (0 % 2, μ164)))
      else if (gand (xs (Int.toNat z3)) 63) = 36 then
        bd (f_X11_wipe μ) fun x166 μ167 =>
        bd (f_X12_wipe μ167) fun x168 μ169 =>
        if x166 = x168 then
          lt (w32 (z3 + 5)) fun x170 =>
          k_L_law_18 L xs n x170 μ169
        else
          some (0 % 2, μ169)
      else if (gand (xs (Int.toNat z3)) 63) = 37 then
        bd (f_X11_fault μ) fun x171 μ172 =>
        bd (f_X12_fault μ172) fun x173 μ174 =>
        if x171 = x173 then
          lt (w32 (z3 + 5)) fun x175 =>
          k_L_law_18 L xs n x175 μ174
        else
          some (0 % 2, μ174)
      else if (gand (xs (Int.toNat z3)) 63) = 38 then
        bd (f_X11_holds μ) fun x176 μ177 =>
        bd (f_X12_holds μ177) fun x178 μ179 =>
        if x176 = x178 then
          lt (w32 (z3 + 5)) fun x180 =>
          k_L_law_18 L xs n x180 μ179
        else
          some (0 % 2, μ179)
      else if (gand (xs (Int.toNat z3)) 63) = 39 then
        ck (0 ≤ (w32 (z3 + 1)) ∧ (w32 (z3 + 1)) < (L : Int)) (
        ck (0 ≤ (w32 (z3 + 2)) ∧ (w32 (z3 + 2)) < (L : Int)) (
        bd (f_X11_limit (xs (Int.toNat (w32 (z3 + 1)))) (xs (Int.toNat (w32 (z3 + 2)))) μ) fun x181 μ182 =>
        ck (0 ≤ (w32 (z3 + 1)) ∧ (w32 (z3 + 1)) < (L : Int)) (
        ck (0 ≤ (w32 (z3 + 2)) ∧ (w32 (z3 + 2)) < (L : Int)) (
        bd (f_X12_limit (xs (Int.toNat (w32 (z3 + 1)))) (xs (Int.toNat (w32 (z3 + 2)))) μ182) fun x183 μ184 =>
        if x181 = x183 then
          lt (w32 (z3 + 5)) fun x185 =>
          k_L_law_18 L xs n x185 μ184
        else
          some (0 % 2, μ184)))))
      else if (gand (xs (Int.toNat z3)) 63) = 40 then
        bd (f_X11_worth μ) fun x186 μ187 =>
        bd (f_X12_worth μ187) fun x188 μ189 =>
        if x186 = x188 then
          lt (w32 (z3 + 5)) fun x190 =>
          k_L_law_18 L xs n x190 μ189
        else
          some (0 % 2, μ189)
      else if (gand (xs (Int.toNat z3)) 63) = 41 then
        ck (0 ≤ (w32 (z3 + 1)) ∧ (w32 (z3 + 1)) < (L : Int)) (
        bd (f_X11_level (xs (Int.toNat (w32 (z3 + 1)))) μ) fun x191 μ192 =>
        ck (0 ≤ (w32 (z3 + 1)) ∧ (w32 (z3 + 1)) < (L : Int)) (
        bd (f_X12_level (xs (Int.toNat (w32 (z3 + 1)))) μ192) fun x193 μ194 =>
        if x191 = x193 then
          lt (w32 (z3 + 5)) fun x195 =>
          k_L_law_18 L xs n x195 μ194
        else
          some (0 % 2, μ194)))
      else if (gand (xs (Int.toNat z3)) 63) = 42 then
        bd (f_X11_draw μ) fun x196 μ197 =>
        bd (f_X12_draw μ197) fun x198 μ199 =>
        if x196 = x198 then
          lt (w32 (z3 + 5)) fun x200 =>
          k_L_law_18 L xs n x200 μ199
        else
          some (0 % 2, μ199)
      else if (gand (xs (Int.toNat z3)) 63) = 43 then
        ck (0 ≤ (w32 (z3 + 1)) ∧ (w32 (z3 + 1)) < (L : Int)) (
        bd (f_X11_price (xs (Int.toNat (w32 (z3 + 1)))) μ) fun x201 μ202 =>
        ck (0 ≤ (w32 (z3 + 1)) ∧ (w32 (z3 + 1)) < (L : Int)) (
        bd (f_X12_price (xs (Int.toNat (w32 (z3 + 1)))) μ202) fun x203 μ204 =>
        if x201 = x203 then
          lt (w32 (z3 + 5)) fun x205 =>
          k_L_law_18 L xs n x205 μ204
        else
          some (0 % 2, μ204)))
      else if (gand (xs (Int.toNat z3)) 63) = 44 then
        ck (0 ≤ (w32 (z3 + 1)) ∧ (w32 (z3 + 1)) < (L : Int)) (
        bd (f_X11_harm (xs (Int.toNat (w32 (z3 + 1)))) μ) fun x206 μ207 =>
        ck (0 ≤ (w32 (z3 + 1)) ∧ (w32 (z3 + 1)) < (L : Int)) (
        bd (f_X12_harm (xs (Int.toNat (w32 (z3 + 1)))) μ207) fun x208 μ209 =>
        if x206 = x208 then
          lt (w32 (z3 + 5)) fun x210 =>
          k_L_law_18 L xs n x210 μ209
        else
          some (0 % 2, μ209)))
      else if (gand (xs (Int.toNat z3)) 63) = 45 then
        ck (0 ≤ (w32 (z3 + 1)) ∧ (w32 (z3 + 1)) < (L : Int)) (
        ck (0 ≤ (w32 (z3 + 2)) ∧ (w32 (z3 + 2)) < (L : Int)) (
        bd (f_X11_share (xs (Int.toNat (w32 (z3 + 1)))) (xs (Int.toNat (w32 (z3 + 2)))) μ) fun x211 μ212 =>
        ck (0 ≤ (w32 (z3 + 1)) ∧ (w32 (z3 + 1)) < (L : Int)) (
        ck (0 ≤ (w32 (z3 + 2)) ∧ (w32 (z3 + 2)) < (L : Int)) (
        bd (f_X12_share (xs (Int.toNat (w32 (z3 + 1)))) (xs (Int.toNat (w32 (z3 + 2)))) μ212) fun x213 μ214 =>
        if x211 = x213 then
          lt (w32 (z3 + 5)) fun x215 =>
          k_L_law_18 L xs n x215 μ214
        else
          some (0 % 2, μ214)))))
      else if (gand (xs (Int.toNat z3)) 63) = 46 then
        ck (0 ≤ (w32 (z3 + 1)) ∧ (w32 (z3 + 1)) < (L : Int)) (
        bd (f_X11_count (xs (Int.toNat (w32 (z3 + 1)))) μ) fun x216 μ217 =>
        ck (0 ≤ (w32 (z3 + 1)) ∧ (w32 (z3 + 1)) < (L : Int)) (
        bd (f_X12_count (xs (Int.toNat (w32 (z3 + 1)))) μ217) fun x218 μ219 =>
        if x216 = x218 then
          lt (w32 (z3 + 5)) fun x220 =>
          k_L_law_18 L xs n x220 μ219
        else
          some (0 % 2, μ219)))
      else lt (w32 (z3 + 5)) fun x221 =>
        k_L_law_18 L xs n x221 μ)
set_option maxHeartbeats 4000000 in
set_option maxRecDepth 100000 in
theorem w_L_law_18 {G : GX} {u : Int × GM} (C : CX G 8 cL_law 4 RL) (hQ : gQLw G u) {L : Nat} {xs : Nat → Int} (hX : SX G L xs) (hxs : ∀ j, r32 (xs j)) (hL : r32 (L : Int)) : ∀ (n : Nat) (z3 : Int) (hz3 : r32 z3) (μ : GM) (hμ : gRg μ), k_L_law_18 L xs n z3 μ = some u → WM G 4 μ 18 [(0, gR G 999), (1, gR G 0), (2, gR G 53), (3, vI z3)] [] := by
  intro n
  induction n with
  | zero =>
    intro z3 hz3 μ hμ h
    cases h
  | succ n ih =>
    intro z3 hz3 μ hμ h
    rw [k_L_law_18] at h
    refine o_iload_n C 3 dL_law_18 rfl rfl ?_
    refine o_aload_n C 0 dL_law_19 rfl rfl ?_
    refine o_slen C hX dL_law_20 ?_
    refine o_iconst C dL_law_21 ?_
    refine o_isub C dL_law_22 ?_
    refine o_icmp_gt (tgt := 1556) C hz3 (r32_w _) dL_law_23 (by decide) h (fun _ h => ?_) (fun _ h => ?_)
    · refine o_iconst C dL_law_1556 ?_
      exact o_lawret C hQ (by decide) dL_law_1557 h
    · refine o_aload_n C 0 dL_law_26 rfl rfl ?_
      refine o_iload_n C 3 dL_law_27 rfl rfl ?_
      refine o_sld C hX hz3 dL_law_28 h (fun h => ?_)
      refine o_bipush (v := 63) C dL_law_29 (by decide) ?_
      refine o_iand C dL_law_31 ?_
      rcases ite_some h with ⟨e0, h⟩ | ⟨e0, h⟩
      · refine o_tableIn (tgt := 236) C e0 ⟨by decide, by decide⟩ dL_law_32 (by decide) (by decide) rfl (by decide) ?_
        refine o_aload_n C 1 dL_law_236 rfl rfl ?_
        refine o_aload_n C 0 dL_law_237 rfl rfl ?_
        refine o_iload_n C 3 dL_law_238 rfl rfl ?_
        refine o_iconst C dL_law_239 ?_
        refine o_iadd C dL_law_240 ?_
        refine o_sld C hX (r32_w _) dL_law_241 h (fun h => ?_)
        refine o_aload_n C 0 dL_law_242 rfl rfl ?_
        refine o_iload_n C 3 dL_law_243 rfl rfl ?_
        refine o_iconst C dL_law_244 ?_
        refine o_iadd C dL_law_245 ?_
        refine o_sld C hX (r32_w _) dL_law_246 h (fun h => ?_)
        refine o_aload_n C 0 dL_law_247 rfl rfl ?_
        refine o_iload_n C 3 dL_law_248 rfl rfl ?_
        refine o_iconst C dL_law_249 ?_
        refine o_iadd C dL_law_250 ?_
        refine o_sld C hX (r32_w _) dL_law_251 h (fun h => ?_)
        refine o_cVI C [vI (xs (Int.toNat (w32 (z3 + 1)))), vI (xs (Int.toNat (w32 (z3 + 2)))), vI (xs (Int.toNat (w32 (z3 + 3))))] mb_X11_cell (by decide) (fun _ hu => c_X11_cell (hxs _) (hxs _) (hxs _) hμ hu) rfl (Nat.le_of_ble_eq_true rfl) h mi_X11_cell me_X11_cell lkm_RL_13 kt_0 rfl rfl rfl dL_law_252 (fun x1 μ2 hx1 hμ2 h => ?_)
        refine o_aload_n C 2 dL_law_255 rfl rfl ?_
        refine o_aload_n C 0 dL_law_256 rfl rfl ?_
        refine o_iload_n C 3 dL_law_257 rfl rfl ?_
        refine o_iconst C dL_law_258 ?_
        refine o_iadd C dL_law_259 ?_
        refine o_sld C hX (r32_w _) dL_law_260 h (fun h => ?_)
        refine o_aload_n C 0 dL_law_261 rfl rfl ?_
        refine o_iload_n C 3 dL_law_262 rfl rfl ?_
        refine o_iconst C dL_law_263 ?_
        refine o_iadd C dL_law_264 ?_
        refine o_sld C hX (r32_w _) dL_law_265 h (fun h => ?_)
        refine o_aload_n C 0 dL_law_266 rfl rfl ?_
        refine o_iload_n C 3 dL_law_267 rfl rfl ?_
        refine o_iconst C dL_law_268 ?_
        refine o_iadd C dL_law_269 ?_
        refine o_sld C hX (r32_w _) dL_law_270 h (fun h => ?_)
        refine o_cVI C [vI (xs (Int.toNat (w32 (z3 + 1)))), vI (xs (Int.toNat (w32 (z3 + 2)))), vI (xs (Int.toNat (w32 (z3 + 3))))] mb_X12_cell (by decide) (fun _ hu => c_X12_cell (hxs _) (hxs _) (hxs _) hμ2 hu) rfl (Nat.le_of_ble_eq_true rfl) h mi_X12_cell me_X12_cell lkm_RL_17 kt_53 rfl rfl rfl dL_law_271 (fun x3 μ4 hx3 hμ4 h => ?_)
        refine o_icmp_eq (tgt := 1550) C hx1 hx3 dL_law_274 (by decide) h (fun _ h => ?_) (fun _ h => ?_)
        · refine o_iinc (lv2 := fun x5 => [(3, vI x5), (0, gR G 999), (1, gR G 0), (2, gR G 53)]) C 3 dL_law_1550 rfl (by decide) (fun _ => rfl) h (fun x5 hx5 h => ?_)
          refine o_goto (tgt := 18) C dL_law_1553 (by decide) ?_
          exact WM.sub [1, 2, 3, 0] rfl (ih x5 hx5 μ4 hμ4 h)
        · refine o_iconst C dL_law_277 ?_
          exact o_lawret C hQ (by decide) dL_law_278 h
      · rcases ite_some h with ⟨e1, h⟩ | ⟨e1, h⟩
        · refine o_tableIn (tgt := 279) C e1 ⟨by decide, by decide⟩ dL_law_32 (by decide) (by decide) rfl (by decide) ?_
          refine o_aload_n C 1 dL_law_279 rfl rfl ?_
          refine o_aload_n C 0 dL_law_280 rfl rfl ?_
          refine o_iload_n C 3 dL_law_281 rfl rfl ?_
          refine o_iconst C dL_law_282 ?_
          refine o_iadd C dL_law_283 ?_
          refine o_sld C hX (r32_w _) dL_law_284 h (fun h => ?_)
          refine o_aload_n C 0 dL_law_285 rfl rfl ?_
          refine o_iload_n C 3 dL_law_286 rfl rfl ?_
          refine o_iconst C dL_law_287 ?_
          refine o_iadd C dL_law_288 ?_
          refine o_sld C hX (r32_w _) dL_law_289 h (fun h => ?_)
          refine o_aload_n C 0 dL_law_290 rfl rfl ?_
          refine o_iload_n C 3 dL_law_291 rfl rfl ?_
          refine o_iconst C dL_law_292 ?_
          refine o_iadd C dL_law_293 ?_
          refine o_sld C hX (r32_w _) dL_law_294 h (fun h => ?_)
          refine o_cVI C [vI (xs (Int.toNat (w32 (z3 + 1)))), vI (xs (Int.toNat (w32 (z3 + 2)))), vI (xs (Int.toNat (w32 (z3 + 3))))] mb_X11_link (by decide) (fun _ hu => c_X11_link (hxs _) (hxs _) (hxs _) hμ hu) rfl (Nat.le_of_ble_eq_true rfl) h mi_X11_link me_X11_link lkm_RL_18 kt_0 rfl rfl rfl dL_law_295 (fun x6 μ7 hx6 hμ7 h => ?_)
          refine o_aload_n C 2 dL_law_298 rfl rfl ?_
          refine o_aload_n C 0 dL_law_299 rfl rfl ?_
          refine o_iload_n C 3 dL_law_300 rfl rfl ?_
          refine o_iconst C dL_law_301 ?_
          refine o_iadd C dL_law_302 ?_
          refine o_sld C hX (r32_w _) dL_law_303 h (fun h => ?_)
          refine o_aload_n C 0 dL_law_304 rfl rfl ?_
          refine o_iload_n C 3 dL_law_305 rfl rfl ?_
          refine o_iconst C dL_law_306 ?_
          refine o_iadd C dL_law_307 ?_
          refine o_sld C hX (r32_w _) dL_law_308 h (fun h => ?_)
          refine o_aload_n C 0 dL_law_309 rfl rfl ?_
          refine o_iload_n C 3 dL_law_310 rfl rfl ?_
          refine o_iconst C dL_law_311 ?_
          refine o_iadd C dL_law_312 ?_
          refine o_sld C hX (r32_w _) dL_law_313 h (fun h => ?_)
          refine o_cVI C [vI (xs (Int.toNat (w32 (z3 + 1)))), vI (xs (Int.toNat (w32 (z3 + 2)))), vI (xs (Int.toNat (w32 (z3 + 3))))] mb_X12_link (by decide) (fun _ hu => c_X12_link (hxs _) (hxs _) (hxs _) hμ7 hu) rfl (Nat.le_of_ble_eq_true rfl) h mi_X12_link me_X12_link lkm_RL_21 kt_53 rfl rfl rfl dL_law_314 (fun x8 μ9 hx8 hμ9 h => ?_)
          refine o_icmp_eq (tgt := 1550) C hx6 hx8 dL_law_317 (by decide) h (fun _ h => ?_) (fun _ h => ?_)
          · refine o_iinc (lv2 := fun x10 => [(3, vI x10), (0, gR G 999), (1, gR G 0), (2, gR G 53)]) C 3 dL_law_1550 rfl (by decide) (fun _ => rfl) h (fun x10 hx10 h => ?_)
            refine o_goto (tgt := 18) C dL_law_1553 (by decide) ?_
            exact WM.sub [1, 2, 3, 0] rfl (ih x10 hx10 μ9 hμ9 h)
          · refine o_iconst C dL_law_320 ?_
            exact o_lawret C hQ (by decide) dL_law_321 h
        · rcases ite_some h with ⟨e2, h⟩ | ⟨e2, h⟩
          · refine o_tableIn (tgt := 322) C e2 ⟨by decide, by decide⟩ dL_law_32 (by decide) (by decide) rfl (by decide) ?_
            refine o_aload_n C 1 dL_law_322 rfl rfl ?_
            refine o_aload_n C 0 dL_law_323 rfl rfl ?_
            refine o_iload_n C 3 dL_law_324 rfl rfl ?_
            refine o_iconst C dL_law_325 ?_
            refine o_iadd C dL_law_326 ?_
            refine o_sld C hX (r32_w _) dL_law_327 h (fun h => ?_)
            refine o_aload_n C 0 dL_law_328 rfl rfl ?_
            refine o_iload_n C 3 dL_law_329 rfl rfl ?_
            refine o_iconst C dL_law_330 ?_
            refine o_iadd C dL_law_331 ?_
            refine o_sld C hX (r32_w _) dL_law_332 h (fun h => ?_)
            refine o_aload_n C 0 dL_law_333 rfl rfl ?_
            refine o_iload_n C 3 dL_law_334 rfl rfl ?_
            refine o_iconst C dL_law_335 ?_
            refine o_iadd C dL_law_336 ?_
            refine o_sld C hX (r32_w _) dL_law_337 h (fun h => ?_)
            refine o_aload_n C 0 dL_law_338 rfl rfl ?_
            refine o_iload_n C 3 dL_law_339 rfl rfl ?_
            refine o_iconst C dL_law_340 ?_
            refine o_iadd C dL_law_341 ?_
            refine o_sld C hX (r32_w _) dL_law_342 h (fun h => ?_)
            refine o_cVI C [vI (xs (Int.toNat (w32 (z3 + 1)))), vI (xs (Int.toNat (w32 (z3 + 2)))), vI (xs (Int.toNat (w32 (z3 + 3)))), vI (xs (Int.toNat (w32 (z3 + 4))))] mb_X11_river (by decide) (fun _ hu => c_X11_river (hxs _) (hxs _) (hxs _) (hxs _) hμ hu) rfl (Nat.le_of_ble_eq_true rfl) h mi_X11_river me_X11_river lkm_RL_22 kt_0 rfl rfl rfl dL_law_343 (fun x11 μ12 hx11 hμ12 h => ?_)
            refine o_aload_n C 2 dL_law_346 rfl rfl ?_
            refine o_aload_n C 0 dL_law_347 rfl rfl ?_
            refine o_iload_n C 3 dL_law_348 rfl rfl ?_
            refine o_iconst C dL_law_349 ?_
            refine o_iadd C dL_law_350 ?_
            refine o_sld C hX (r32_w _) dL_law_351 h (fun h => ?_)
            refine o_aload_n C 0 dL_law_352 rfl rfl ?_
            refine o_iload_n C 3 dL_law_353 rfl rfl ?_
            refine o_iconst C dL_law_354 ?_
            refine o_iadd C dL_law_355 ?_
            refine o_sld C hX (r32_w _) dL_law_356 h (fun h => ?_)
            refine o_aload_n C 0 dL_law_357 rfl rfl ?_
            refine o_iload_n C 3 dL_law_358 rfl rfl ?_
            refine o_iconst C dL_law_359 ?_
            refine o_iadd C dL_law_360 ?_
            refine o_sld C hX (r32_w _) dL_law_361 h (fun h => ?_)
            refine o_aload_n C 0 dL_law_362 rfl rfl ?_
            refine o_iload_n C 3 dL_law_363 rfl rfl ?_
            refine o_iconst C dL_law_364 ?_
            refine o_iadd C dL_law_365 ?_
            refine o_sld C hX (r32_w _) dL_law_366 h (fun h => ?_)
            refine o_cVI C [vI (xs (Int.toNat (w32 (z3 + 1)))), vI (xs (Int.toNat (w32 (z3 + 2)))), vI (xs (Int.toNat (w32 (z3 + 3)))), vI (xs (Int.toNat (w32 (z3 + 4))))] mb_X12_river (by decide) (fun _ hu => c_X12_river (hxs _) (hxs _) (hxs _) (hxs _) hμ12 hu) rfl (Nat.le_of_ble_eq_true rfl) h mi_X12_river me_X12_river lkm_RL_26 kt_53 rfl rfl rfl dL_law_367 (fun x13 μ14 hx13 hμ14 h => ?_)
            refine o_icmp_eq (tgt := 1550) C hx11 hx13 dL_law_370 (by decide) h (fun _ h => ?_) (fun _ h => ?_)
            · refine o_iinc (lv2 := fun x15 => [(3, vI x15), (0, gR G 999), (1, gR G 0), (2, gR G 53)]) C 3 dL_law_1550 rfl (by decide) (fun _ => rfl) h (fun x15 hx15 h => ?_)
              refine o_goto (tgt := 18) C dL_law_1553 (by decide) ?_
              exact WM.sub [1, 2, 3, 0] rfl (ih x15 hx15 μ14 hμ14 h)
            · refine o_iconst C dL_law_373 ?_
              exact o_lawret C hQ (by decide) dL_law_374 h
          · rcases ite_some h with ⟨e3, h⟩ | ⟨e3, h⟩
            · refine o_tableIn (tgt := 375) C e3 ⟨by decide, by decide⟩ dL_law_32 (by decide) (by decide) rfl (by decide) ?_
              refine o_aload_n C 1 dL_law_375 rfl rfl ?_
              refine o_aload_n C 0 dL_law_376 rfl rfl ?_
              refine o_iload_n C 3 dL_law_377 rfl rfl ?_
              refine o_iconst C dL_law_378 ?_
              refine o_iadd C dL_law_379 ?_
              refine o_sld C hX (r32_w _) dL_law_380 h (fun h => ?_)
              refine o_aload_n C 0 dL_law_381 rfl rfl ?_
              refine o_iload_n C 3 dL_law_382 rfl rfl ?_
              refine o_iconst C dL_law_383 ?_
              refine o_iadd C dL_law_384 ?_
              refine o_sld C hX (r32_w _) dL_law_385 h (fun h => ?_)
              refine o_aload_n C 0 dL_law_386 rfl rfl ?_
              refine o_iload_n C 3 dL_law_387 rfl rfl ?_
              refine o_iconst C dL_law_388 ?_
              refine o_iadd C dL_law_389 ?_
              refine o_sld C hX (r32_w _) dL_law_390 h (fun h => ?_)
              refine o_cVI C [vI (xs (Int.toNat (w32 (z3 + 1)))), vI (xs (Int.toNat (w32 (z3 + 2)))), vI (xs (Int.toNat (w32 (z3 + 3))))] mb_X11_drain (by decide) (fun _ hu => c_X11_drain (hxs _) (hxs _) (hxs _) hμ hu) rfl (Nat.le_of_ble_eq_true rfl) h mi_X11_drain me_X11_drain lkm_RL_27 kt_0 rfl rfl rfl dL_law_391 (fun x16 μ17 hx16 hμ17 h => ?_)
              refine o_aload_n C 2 dL_law_394 rfl rfl ?_
              refine o_aload_n C 0 dL_law_395 rfl rfl ?_
              refine o_iload_n C 3 dL_law_396 rfl rfl ?_
              refine o_iconst C dL_law_397 ?_
              refine o_iadd C dL_law_398 ?_
              refine o_sld C hX (r32_w _) dL_law_399 h (fun h => ?_)
              refine o_aload_n C 0 dL_law_400 rfl rfl ?_
              refine o_iload_n C 3 dL_law_401 rfl rfl ?_
              refine o_iconst C dL_law_402 ?_
              refine o_iadd C dL_law_403 ?_
              refine o_sld C hX (r32_w _) dL_law_404 h (fun h => ?_)
              refine o_aload_n C 0 dL_law_405 rfl rfl ?_
              refine o_iload_n C 3 dL_law_406 rfl rfl ?_
              refine o_iconst C dL_law_407 ?_
              refine o_iadd C dL_law_408 ?_
              refine o_sld C hX (r32_w _) dL_law_409 h (fun h => ?_)
              refine o_cVI C [vI (xs (Int.toNat (w32 (z3 + 1)))), vI (xs (Int.toNat (w32 (z3 + 2)))), vI (xs (Int.toNat (w32 (z3 + 3))))] mb_X12_drain (by decide) (fun _ hu => c_X12_drain (hxs _) (hxs _) (hxs _) hμ17 hu) rfl (Nat.le_of_ble_eq_true rfl) h mi_X12_drain me_X12_drain lkm_RL_30 kt_53 rfl rfl rfl dL_law_410 (fun x18 μ19 hx18 hμ19 h => ?_)
              refine o_icmp_eq (tgt := 1550) C hx16 hx18 dL_law_413 (by decide) h (fun _ h => ?_) (fun _ h => ?_)
              · refine o_iinc (lv2 := fun x20 => [(3, vI x20), (0, gR G 999), (1, gR G 0), (2, gR G 53)]) C 3 dL_law_1550 rfl (by decide) (fun _ => rfl) h (fun x20 hx20 h => ?_)
                refine o_goto (tgt := 18) C dL_law_1553 (by decide) ?_
                exact WM.sub [1, 2, 3, 0] rfl (ih x20 hx20 μ19 hμ19 h)
              · refine o_iconst C dL_law_416 ?_
                exact o_lawret C hQ (by decide) dL_law_417 h
            · rcases ite_some h with ⟨e4, h⟩ | ⟨e4, h⟩
              · refine o_tableIn (tgt := 418) C e4 ⟨by decide, by decide⟩ dL_law_32 (by decide) (by decide) rfl (by decide) ?_
                refine o_aload_n C 1 dL_law_418 rfl rfl ?_
                refine o_aload_n C 0 dL_law_419 rfl rfl ?_
                refine o_iload_n C 3 dL_law_420 rfl rfl ?_
                refine o_iconst C dL_law_421 ?_
                refine o_iadd C dL_law_422 ?_
                refine o_sld C hX (r32_w _) dL_law_423 h (fun h => ?_)
                refine o_aload_n C 0 dL_law_424 rfl rfl ?_
                refine o_iload_n C 3 dL_law_425 rfl rfl ?_
                refine o_iconst C dL_law_426 ?_
                refine o_iadd C dL_law_427 ?_
                refine o_sld C hX (r32_w _) dL_law_428 h (fun h => ?_)
                refine o_aload_n C 0 dL_law_429 rfl rfl ?_
                refine o_iload_n C 3 dL_law_430 rfl rfl ?_
                refine o_iconst C dL_law_431 ?_
                refine o_iadd C dL_law_432 ?_
                refine o_sld C hX (r32_w _) dL_law_433 h (fun h => ?_)
                refine o_cVI C [vI (xs (Int.toNat (w32 (z3 + 1)))), vI (xs (Int.toNat (w32 (z3 + 2)))), vI (xs (Int.toNat (w32 (z3 + 3))))] mb_X11_well (by decide) (fun _ hu => c_X11_well (hxs _) (hxs _) (hxs _) hμ hu) rfl (Nat.le_of_ble_eq_true rfl) h mi_X11_well me_X11_well lkm_RL_31 kt_0 rfl rfl rfl dL_law_434 (fun x21 μ22 hx21 hμ22 h => ?_)
                refine o_aload_n C 2 dL_law_437 rfl rfl ?_
                refine o_aload_n C 0 dL_law_438 rfl rfl ?_
                refine o_iload_n C 3 dL_law_439 rfl rfl ?_
                refine o_iconst C dL_law_440 ?_
                refine o_iadd C dL_law_441 ?_
                refine o_sld C hX (r32_w _) dL_law_442 h (fun h => ?_)
                refine o_aload_n C 0 dL_law_443 rfl rfl ?_
                refine o_iload_n C 3 dL_law_444 rfl rfl ?_
                refine o_iconst C dL_law_445 ?_
                refine o_iadd C dL_law_446 ?_
                refine o_sld C hX (r32_w _) dL_law_447 h (fun h => ?_)
                refine o_aload_n C 0 dL_law_448 rfl rfl ?_
                refine o_iload_n C 3 dL_law_449 rfl rfl ?_
                refine o_iconst C dL_law_450 ?_
                refine o_iadd C dL_law_451 ?_
                refine o_sld C hX (r32_w _) dL_law_452 h (fun h => ?_)
                refine o_cVI C [vI (xs (Int.toNat (w32 (z3 + 1)))), vI (xs (Int.toNat (w32 (z3 + 2)))), vI (xs (Int.toNat (w32 (z3 + 3))))] mb_X12_well (by decide) (fun _ hu => c_X12_well (hxs _) (hxs _) (hxs _) hμ22 hu) rfl (Nat.le_of_ble_eq_true rfl) h mi_X12_well me_X12_well lkm_RL_34 kt_53 rfl rfl rfl dL_law_453 (fun x23 μ24 hx23 hμ24 h => ?_)
                refine o_icmp_eq (tgt := 1550) C hx21 hx23 dL_law_456 (by decide) h (fun _ h => ?_) (fun _ h => ?_)
                · refine o_iinc (lv2 := fun x25 => [(3, vI x25), (0, gR G 999), (1, gR G 0), (2, gR G 53)]) C 3 dL_law_1550 rfl (by decide) (fun _ => rfl) h (fun x25 hx25 h => ?_)
                  refine o_goto (tgt := 18) C dL_law_1553 (by decide) ?_
                  exact WM.sub [1, 2, 3, 0] rfl (ih x25 hx25 μ24 hμ24 h)
                · refine o_iconst C dL_law_459 ?_
                  exact o_lawret C hQ (by decide) dL_law_460 h
              · rcases ite_some h with ⟨e5, h⟩ | ⟨e5, h⟩
                · refine o_tableIn (tgt := 461) C e5 ⟨by decide, by decide⟩ dL_law_32 (by decide) (by decide) rfl (by decide) ?_
                  refine o_aload_n C 1 dL_law_461 rfl rfl ?_
                  refine o_aload_n C 0 dL_law_462 rfl rfl ?_
                  refine o_iload_n C 3 dL_law_463 rfl rfl ?_
                  refine o_iconst C dL_law_464 ?_
                  refine o_iadd C dL_law_465 ?_
                  refine o_sld C hX (r32_w _) dL_law_466 h (fun h => ?_)
                  refine o_aload_n C 0 dL_law_467 rfl rfl ?_
                  refine o_iload_n C 3 dL_law_468 rfl rfl ?_
                  refine o_iconst C dL_law_469 ?_
                  refine o_iadd C dL_law_470 ?_
                  refine o_sld C hX (r32_w _) dL_law_471 h (fun h => ?_)
                  refine o_cVI C [vI (xs (Int.toNat (w32 (z3 + 1)))), vI (xs (Int.toNat (w32 (z3 + 2))))] mb_X11_rain (by decide) (fun _ hu => c_X11_rain (hxs _) (hxs _) hμ hu) rfl (Nat.le_of_ble_eq_true rfl) h mi_X11_rain me_X11_rain lkm_RL_35 kt_0 rfl rfl rfl dL_law_472 (fun x26 μ27 hx26 hμ27 h => ?_)
                  refine o_aload_n C 2 dL_law_475 rfl rfl ?_
                  refine o_aload_n C 0 dL_law_476 rfl rfl ?_
                  refine o_iload_n C 3 dL_law_477 rfl rfl ?_
                  refine o_iconst C dL_law_478 ?_
                  refine o_iadd C dL_law_479 ?_
                  refine o_sld C hX (r32_w _) dL_law_480 h (fun h => ?_)
                  refine o_aload_n C 0 dL_law_481 rfl rfl ?_
                  refine o_iload_n C 3 dL_law_482 rfl rfl ?_
                  refine o_iconst C dL_law_483 ?_
                  refine o_iadd C dL_law_484 ?_
                  refine o_sld C hX (r32_w _) dL_law_485 h (fun h => ?_)
                  refine o_cVI C [vI (xs (Int.toNat (w32 (z3 + 1)))), vI (xs (Int.toNat (w32 (z3 + 2))))] mb_X12_rain (by decide) (fun _ hu => c_X12_rain (hxs _) (hxs _) hμ27 hu) rfl (Nat.le_of_ble_eq_true rfl) h mi_X12_rain me_X12_rain lkm_RL_39 kt_53 rfl rfl rfl dL_law_486 (fun x28 μ29 hx28 hμ29 h => ?_)
                  refine o_icmp_eq (tgt := 1550) C hx26 hx28 dL_law_489 (by decide) h (fun _ h => ?_) (fun _ h => ?_)
                  · refine o_iinc (lv2 := fun x30 => [(3, vI x30), (0, gR G 999), (1, gR G 0), (2, gR G 53)]) C 3 dL_law_1550 rfl (by decide) (fun _ => rfl) h (fun x30 hx30 h => ?_)
                    refine o_goto (tgt := 18) C dL_law_1553 (by decide) ?_
                    exact WM.sub [1, 2, 3, 0] rfl (ih x30 hx30 μ29 hμ29 h)
                  · refine o_iconst C dL_law_492 ?_
                    exact o_lawret C hQ (by decide) dL_law_493 h
                · rcases ite_some h with ⟨e6, h⟩ | ⟨e6, h⟩
                  · refine o_tableIn (tgt := 494) C e6 ⟨by decide, by decide⟩ dL_law_32 (by decide) (by decide) rfl (by decide) ?_
                    refine o_aload_n C 1 dL_law_494 rfl rfl ?_
                    refine o_aload_n C 0 dL_law_495 rfl rfl ?_
                    refine o_iload_n C 3 dL_law_496 rfl rfl ?_
                    refine o_iconst C dL_law_497 ?_
                    refine o_iadd C dL_law_498 ?_
                    refine o_sld C hX (r32_w _) dL_law_499 h (fun h => ?_)
                    refine o_aload_n C 0 dL_law_500 rfl rfl ?_
                    refine o_iload_n C 3 dL_law_501 rfl rfl ?_
                    refine o_iconst C dL_law_502 ?_
                    refine o_iadd C dL_law_503 ?_
                    refine o_sld C hX (r32_w _) dL_law_504 h (fun h => ?_)
                    refine o_cVI C [vI (xs (Int.toNat (w32 (z3 + 1)))), vI (xs (Int.toNat (w32 (z3 + 2))))] mb_X11_ease (by decide) (fun _ hu => c_X11_ease (hxs _) (hxs _) hμ hu) rfl (Nat.le_of_ble_eq_true rfl) h mi_X11_ease me_X11_ease lkm_RL_40 kt_0 rfl rfl rfl dL_law_505 (fun x31 μ32 hx31 hμ32 h => ?_)
                    refine o_aload_n C 2 dL_law_508 rfl rfl ?_
                    refine o_aload_n C 0 dL_law_509 rfl rfl ?_
                    refine o_iload_n C 3 dL_law_510 rfl rfl ?_
                    refine o_iconst C dL_law_511 ?_
                    refine o_iadd C dL_law_512 ?_
                    refine o_sld C hX (r32_w _) dL_law_513 h (fun h => ?_)
                    refine o_aload_n C 0 dL_law_514 rfl rfl ?_
                    refine o_iload_n C 3 dL_law_515 rfl rfl ?_
                    refine o_iconst C dL_law_516 ?_
                    refine o_iadd C dL_law_517 ?_
                    refine o_sld C hX (r32_w _) dL_law_518 h (fun h => ?_)
                    refine o_cVI C [vI (xs (Int.toNat (w32 (z3 + 1)))), vI (xs (Int.toNat (w32 (z3 + 2))))] mb_X12_ease (by decide) (fun _ hu => c_X12_ease (hxs _) (hxs _) hμ32 hu) rfl (Nat.le_of_ble_eq_true rfl) h mi_X12_ease me_X12_ease lkm_RL_43 kt_53 rfl rfl rfl dL_law_519 (fun x33 μ34 hx33 hμ34 h => ?_)
                    refine o_icmp_eq (tgt := 1550) C hx31 hx33 dL_law_522 (by decide) h (fun _ h => ?_) (fun _ h => ?_)
                    · refine o_iinc (lv2 := fun x35 => [(3, vI x35), (0, gR G 999), (1, gR G 0), (2, gR G 53)]) C 3 dL_law_1550 rfl (by decide) (fun _ => rfl) h (fun x35 hx35 h => ?_)
                      refine o_goto (tgt := 18) C dL_law_1553 (by decide) ?_
                      exact WM.sub [1, 2, 3, 0] rfl (ih x35 hx35 μ34 hμ34 h)
                    · refine o_iconst C dL_law_525 ?_
                      exact o_lawret C hQ (by decide) dL_law_526 h
                  · rcases ite_some h with ⟨e7, h⟩ | ⟨e7, h⟩
                    · refine o_tableIn (tgt := 527) C e7 ⟨by decide, by decide⟩ dL_law_32 (by decide) (by decide) rfl (by decide) ?_
                      refine o_aload_n C 1 dL_law_527 rfl rfl ?_
                      refine o_aload_n C 0 dL_law_528 rfl rfl ?_
                      refine o_iload_n C 3 dL_law_529 rfl rfl ?_
                      refine o_iconst C dL_law_530 ?_
                      refine o_iadd C dL_law_531 ?_
                      refine o_sld C hX (r32_w _) dL_law_532 h (fun h => ?_)
                      refine o_aload_n C 0 dL_law_533 rfl rfl ?_
                      refine o_iload_n C 3 dL_law_534 rfl rfl ?_
                      refine o_iconst C dL_law_535 ?_
                      refine o_iadd C dL_law_536 ?_
                      refine o_sld C hX (r32_w _) dL_law_537 h (fun h => ?_)
                      refine o_cVI C [vI (xs (Int.toNat (w32 (z3 + 1)))), vI (xs (Int.toNat (w32 (z3 + 2))))] mb_X11_rate (by decide) (fun _ hu => c_X11_rate (hxs _) (hxs _) hμ hu) rfl (Nat.le_of_ble_eq_true rfl) h mi_X11_rate me_X11_rate lkm_RL_44 kt_0 rfl rfl rfl dL_law_538 (fun x36 μ37 hx36 hμ37 h => ?_)
                      refine o_aload_n C 2 dL_law_541 rfl rfl ?_
                      refine o_aload_n C 0 dL_law_542 rfl rfl ?_
                      refine o_iload_n C 3 dL_law_543 rfl rfl ?_
                      refine o_iconst C dL_law_544 ?_
                      refine o_iadd C dL_law_545 ?_
                      refine o_sld C hX (r32_w _) dL_law_546 h (fun h => ?_)
                      refine o_aload_n C 0 dL_law_547 rfl rfl ?_
                      refine o_iload_n C 3 dL_law_548 rfl rfl ?_
                      refine o_iconst C dL_law_549 ?_
                      refine o_iadd C dL_law_550 ?_
                      refine o_sld C hX (r32_w _) dL_law_551 h (fun h => ?_)
                      refine o_cVI C [vI (xs (Int.toNat (w32 (z3 + 1)))), vI (xs (Int.toNat (w32 (z3 + 2))))] mb_X12_rate (by decide) (fun _ hu => c_X12_rate (hxs _) (hxs _) hμ37 hu) rfl (Nat.le_of_ble_eq_true rfl) h mi_X12_rate me_X12_rate lkm_RL_47 kt_53 rfl rfl rfl dL_law_552 (fun x38 μ39 hx38 hμ39 h => ?_)
                      refine o_icmp_eq (tgt := 1550) C hx36 hx38 dL_law_555 (by decide) h (fun _ h => ?_) (fun _ h => ?_)
                      · refine o_iinc (lv2 := fun x40 => [(3, vI x40), (0, gR G 999), (1, gR G 0), (2, gR G 53)]) C 3 dL_law_1550 rfl (by decide) (fun _ => rfl) h (fun x40 hx40 h => ?_)
                        refine o_goto (tgt := 18) C dL_law_1553 (by decide) ?_
                        exact WM.sub [1, 2, 3, 0] rfl (ih x40 hx40 μ39 hμ39 h)
                      · refine o_iconst C dL_law_558 ?_
                        exact o_lawret C hQ (by decide) dL_law_559 h
                    · rcases ite_some h with ⟨e8, h⟩ | ⟨e8, h⟩
                      · refine o_tableIn (tgt := 560) C e8 ⟨by decide, by decide⟩ dL_law_32 (by decide) (by decide) rfl (by decide) ?_
                        refine o_aload_n C 1 dL_law_560 rfl rfl ?_
                        refine o_aload_n C 0 dL_law_561 rfl rfl ?_
                        refine o_iload_n C 3 dL_law_562 rfl rfl ?_
                        refine o_iconst C dL_law_563 ?_
                        refine o_iadd C dL_law_564 ?_
                        refine o_sld C hX (r32_w _) dL_law_565 h (fun h => ?_)
                        refine o_aload_n C 0 dL_law_566 rfl rfl ?_
                        refine o_iload_n C 3 dL_law_567 rfl rfl ?_
                        refine o_iconst C dL_law_568 ?_
                        refine o_iadd C dL_law_569 ?_
                        refine o_sld C hX (r32_w _) dL_law_570 h (fun h => ?_)
                        refine o_cVI C [vI (xs (Int.toNat (w32 (z3 + 1)))), vI (xs (Int.toNat (w32 (z3 + 2))))] mb_X11_stage (by decide) (fun _ hu => c_X11_stage (hxs _) (hxs _) hμ hu) rfl (Nat.le_of_ble_eq_true rfl) h mi_X11_stage me_X11_stage lkm_RL_48 kt_0 rfl rfl rfl dL_law_571 (fun x41 μ42 hx41 hμ42 h => ?_)
                        refine o_aload_n C 2 dL_law_574 rfl rfl ?_
                        refine o_aload_n C 0 dL_law_575 rfl rfl ?_
                        refine o_iload_n C 3 dL_law_576 rfl rfl ?_
                        refine o_iconst C dL_law_577 ?_
                        refine o_iadd C dL_law_578 ?_
                        refine o_sld C hX (r32_w _) dL_law_579 h (fun h => ?_)
                        refine o_aload_n C 0 dL_law_580 rfl rfl ?_
                        refine o_iload_n C 3 dL_law_581 rfl rfl ?_
                        refine o_iconst C dL_law_582 ?_
                        refine o_iadd C dL_law_583 ?_
                        refine o_sld C hX (r32_w _) dL_law_584 h (fun h => ?_)
                        refine o_cVI C [vI (xs (Int.toNat (w32 (z3 + 1)))), vI (xs (Int.toNat (w32 (z3 + 2))))] mb_X12_stage (by decide) (fun _ hu => c_X12_stage (hxs _) (hxs _) hμ42 hu) rfl (Nat.le_of_ble_eq_true rfl) h mi_X12_stage me_X12_stage lkm_RL_51 kt_53 rfl rfl rfl dL_law_585 (fun x43 μ44 hx43 hμ44 h => ?_)
                        refine o_icmp_eq (tgt := 1550) C hx41 hx43 dL_law_588 (by decide) h (fun _ h => ?_) (fun _ h => ?_)
                        · refine o_iinc (lv2 := fun x45 => [(3, vI x45), (0, gR G 999), (1, gR G 0), (2, gR G 53)]) C 3 dL_law_1550 rfl (by decide) (fun _ => rfl) h (fun x45 hx45 h => ?_)
                          refine o_goto (tgt := 18) C dL_law_1553 (by decide) ?_
                          exact WM.sub [1, 2, 3, 0] rfl (ih x45 hx45 μ44 hμ44 h)
                        · refine o_iconst C dL_law_591 ?_
                          exact o_lawret C hQ (by decide) dL_law_592 h
                      · rcases ite_some h with ⟨e9, h⟩ | ⟨e9, h⟩
                        · refine o_tableIn (tgt := 593) C e9 ⟨by decide, by decide⟩ dL_law_32 (by decide) (by decide) rfl (by decide) ?_
                          refine o_aload_n C 1 dL_law_593 rfl rfl ?_
                          refine o_cVI C [] mb_X11_pattern (by decide) (fun _ hu => c_X11_pattern hμ hu) rfl (Nat.le_of_ble_eq_true rfl) h mi_X11_pattern me_X11_pattern lkm_RL_52 kt_0 rfl rfl rfl dL_law_594 (fun x46 μ47 hx46 hμ47 h => ?_)
                          refine o_aload_n C 2 dL_law_597 rfl rfl ?_
                          refine o_cVI C [] mb_X12_pattern (by decide) (fun _ hu => c_X12_pattern hμ47 hu) rfl (Nat.le_of_ble_eq_true rfl) h mi_X12_pattern me_X12_pattern lkm_RL_56 kt_53 rfl rfl rfl dL_law_598 (fun x48 μ49 hx48 hμ49 h => ?_)
                          refine o_icmp_eq (tgt := 1550) C hx46 hx48 dL_law_601 (by decide) h (fun _ h => ?_) (fun _ h => ?_)
                          · refine o_iinc (lv2 := fun x50 => [(3, vI x50), (0, gR G 999), (1, gR G 0), (2, gR G 53)]) C 3 dL_law_1550 rfl (by decide) (fun _ => rfl) h (fun x50 hx50 h => ?_)
                            refine o_goto (tgt := 18) C dL_law_1553 (by decide) ?_
                            exact WM.sub [1, 2, 3, 0] rfl (ih x50 hx50 μ49 hμ49 h)
                          · refine o_iconst C dL_law_604 ?_
                            exact o_lawret C hQ (by decide) dL_law_605 h
                        · rcases ite_some h with ⟨e10, h⟩ | ⟨e10, h⟩
                          · refine o_tableIn (tgt := 606) C e10 ⟨by decide, by decide⟩ dL_law_32 (by decide) (by decide) rfl (by decide) ?_
                            refine o_aload_n C 1 dL_law_606 rfl rfl ?_
                            refine o_aload_n C 0 dL_law_607 rfl rfl ?_
                            refine o_iload_n C 3 dL_law_608 rfl rfl ?_
                            refine o_iconst C dL_law_609 ?_
                            refine o_iadd C dL_law_610 ?_
                            refine o_sld C hX (r32_w _) dL_law_611 h (fun h => ?_)
                            refine o_aload_n C 0 dL_law_612 rfl rfl ?_
                            refine o_iload_n C 3 dL_law_613 rfl rfl ?_
                            refine o_iconst C dL_law_614 ?_
                            refine o_iadd C dL_law_615 ?_
                            refine o_sld C hX (r32_w _) dL_law_616 h (fun h => ?_)
                            refine o_if_eq (tgt := 624) C (hxs _) dL_law_617 (by decide) h (fun _ h => ?_) (fun _ h => ?_)
                            · refine o_iconst C dL_law_624 ?_
                              exact WM.sub [0, 1, 2, 3] rfl (w_L_law_625 C hQ hX hxs hL ih hz3 (hxs _) ⟨by decide, by decide⟩ hμ h)
                            · refine o_iconst C dL_law_620 ?_
                              refine o_goto (tgt := 625) C dL_law_621 (by decide) ?_
                              exact WM.sub [0, 1, 2, 3] rfl (w_L_law_625 C hQ hX hxs hL ih hz3 (hxs _) ⟨by decide, by decide⟩ hμ h)
                          · rcases ite_some h with ⟨e11, h⟩ | ⟨e11, h⟩
                            · refine o_tableIn (tgt := 656) C e11 ⟨by decide, by decide⟩ dL_law_32 (by decide) (by decide) rfl (by decide) ?_
                              refine o_aload_n C 1 dL_law_656 rfl rfl ?_
                              refine o_aload_n C 0 dL_law_657 rfl rfl ?_
                              refine o_iload_n C 3 dL_law_658 rfl rfl ?_
                              refine o_iconst C dL_law_659 ?_
                              refine o_iadd C dL_law_660 ?_
                              refine o_sld C hX (r32_w _) dL_law_661 h (fun h => ?_)
                              refine o_cVI C [vI (xs (Int.toNat (w32 (z3 + 1))))] mb_X11_milli (by decide) (fun _ hu => c_X11_milli (hxs _) hμ hu) rfl (Nat.le_of_ble_eq_true rfl) h mi_X11_milli me_X11_milli lkm_RL_62 kt_0 rfl rfl rfl dL_law_662 (fun x51 μ52 hx51 hμ52 h => ?_)
                              refine o_aload_n C 2 dL_law_665 rfl rfl ?_
                              refine o_aload_n C 0 dL_law_666 rfl rfl ?_
                              refine o_iload_n C 3 dL_law_667 rfl rfl ?_
                              refine o_iconst C dL_law_668 ?_
                              refine o_iadd C dL_law_669 ?_
                              refine o_sld C hX (r32_w _) dL_law_670 h (fun h => ?_)
                              refine o_cVI C [vI (xs (Int.toNat (w32 (z3 + 1))))] mb_X12_milli (by decide) (fun _ hu => c_X12_milli (hxs _) hμ52 hu) rfl (Nat.le_of_ble_eq_true rfl) h mi_X12_milli me_X12_milli lkm_RL_66 kt_53 rfl rfl rfl dL_law_671 (fun x53 μ54 hx53 hμ54 h => ?_)
                              refine o_icmp_eq (tgt := 1550) C hx51 hx53 dL_law_674 (by decide) h (fun _ h => ?_) (fun _ h => ?_)
                              · refine o_iinc (lv2 := fun x55 => [(3, vI x55), (0, gR G 999), (1, gR G 0), (2, gR G 53)]) C 3 dL_law_1550 rfl (by decide) (fun _ => rfl) h (fun x55 hx55 h => ?_)
                                refine o_goto (tgt := 18) C dL_law_1553 (by decide) ?_
                                exact WM.sub [1, 2, 3, 0] rfl (ih x55 hx55 μ54 hμ54 h)
                              · refine o_iconst C dL_law_677 ?_
                                exact o_lawret C hQ (by decide) dL_law_678 h
                            · rcases ite_some h with ⟨e12, h⟩ | ⟨e12, h⟩
                              · refine o_tableIn (tgt := 679) C e12 ⟨by decide, by decide⟩ dL_law_32 (by decide) (by decide) rfl (by decide) ?_
                                refine o_aload_n C 1 dL_law_679 rfl rfl ?_
                                refine o_aload_n C 0 dL_law_680 rfl rfl ?_
                                refine o_iload_n C 3 dL_law_681 rfl rfl ?_
                                refine o_iconst C dL_law_682 ?_
                                refine o_iadd C dL_law_683 ?_
                                refine o_sld C hX (r32_w _) dL_law_684 h (fun h => ?_)
                                refine o_cVI C [vI (xs (Int.toNat (w32 (z3 + 1))))] mb_X11_flow (by decide) (fun _ hu => c_X11_flow (hxs _) hμ hu) rfl (Nat.le_of_ble_eq_true rfl) h mi_X11_flow me_X11_flow lkm_RL_67 kt_0 rfl rfl rfl dL_law_685 (fun x56 μ57 hx56 hμ57 h => ?_)
                                refine o_aload_n C 2 dL_law_688 rfl rfl ?_
                                refine o_aload_n C 0 dL_law_689 rfl rfl ?_
                                refine o_iload_n C 3 dL_law_690 rfl rfl ?_
                                refine o_iconst C dL_law_691 ?_
                                refine o_iadd C dL_law_692 ?_
                                refine o_sld C hX (r32_w _) dL_law_693 h (fun h => ?_)
                                refine o_cVI C [vI (xs (Int.toNat (w32 (z3 + 1))))] mb_X12_flow (by decide) (fun _ hu => c_X12_flow (hxs _) hμ57 hu) rfl (Nat.le_of_ble_eq_true rfl) h mi_X12_flow me_X12_flow lkm_RL_70 kt_53 rfl rfl rfl dL_law_694 (fun x58 μ59 hx58 hμ59 h => ?_)
                                refine o_icmp_eq (tgt := 1550) C hx56 hx58 dL_law_697 (by decide) h (fun _ h => ?_) (fun _ h => ?_)
                                · refine o_iinc (lv2 := fun x60 => [(3, vI x60), (0, gR G 999), (1, gR G 0), (2, gR G 53)]) C 3 dL_law_1550 rfl (by decide) (fun _ => rfl) h (fun x60 hx60 h => ?_)
                                  refine o_goto (tgt := 18) C dL_law_1553 (by decide) ?_
                                  exact WM.sub [1, 2, 3, 0] rfl (ih x60 hx60 μ59 hμ59 h)
                                · refine o_iconst C dL_law_700 ?_
                                  exact o_lawret C hQ (by decide) dL_law_701 h
                              · rcases ite_some h with ⟨e13, h⟩ | ⟨e13, h⟩
                                · refine o_tableIn (tgt := 702) C e13 ⟨by decide, by decide⟩ dL_law_32 (by decide) (by decide) rfl (by decide) ?_
                                  refine o_aload_n C 1 dL_law_702 rfl rfl ?_
                                  refine o_aload_n C 0 dL_law_703 rfl rfl ?_
                                  refine o_iload_n C 3 dL_law_704 rfl rfl ?_
                                  refine o_iconst C dL_law_705 ?_
                                  refine o_iadd C dL_law_706 ?_
                                  refine o_sld C hX (r32_w _) dL_law_707 h (fun h => ?_)
                                  refine o_cVI C [vI (xs (Int.toNat (w32 (z3 + 1))))] mb_X11_gives (by decide) (fun _ hu => c_X11_gives (hxs _) hμ hu) rfl (Nat.le_of_ble_eq_true rfl) h mi_X11_gives me_X11_gives lkm_RL_71 kt_0 rfl rfl rfl dL_law_708 (fun x61 μ62 hx61 hμ62 h => ?_)
                                  refine o_aload_n C 2 dL_law_711 rfl rfl ?_
                                  refine o_aload_n C 0 dL_law_712 rfl rfl ?_
                                  refine o_iload_n C 3 dL_law_713 rfl rfl ?_
                                  refine o_iconst C dL_law_714 ?_
                                  refine o_iadd C dL_law_715 ?_
                                  refine o_sld C hX (r32_w _) dL_law_716 h (fun h => ?_)
                                  refine o_cVI C [vI (xs (Int.toNat (w32 (z3 + 1))))] mb_X12_gives (by decide) (fun _ hu => c_X12_gives (hxs _) hμ62 hu) rfl (Nat.le_of_ble_eq_true rfl) h mi_X12_gives me_X12_gives lkm_RL_74 kt_53 rfl rfl rfl dL_law_717 (fun x63 μ64 hx63 hμ64 h => ?_)
                                  refine o_icmp_eq (tgt := 1550) C hx61 hx63 dL_law_720 (by decide) h (fun _ h => ?_) (fun _ h => ?_)
                                  · refine o_iinc (lv2 := fun x65 => [(3, vI x65), (0, gR G 999), (1, gR G 0), (2, gR G 53)]) C 3 dL_law_1550 rfl (by decide) (fun _ => rfl) h (fun x65 hx65 h => ?_)
                                    refine o_goto (tgt := 18) C dL_law_1553 (by decide) ?_
                                    exact WM.sub [1, 2, 3, 0] rfl (ih x65 hx65 μ64 hμ64 h)
                                  · refine o_iconst C dL_law_723 ?_
                                    exact o_lawret C hQ (by decide) dL_law_724 h
                                · rcases ite_some h with ⟨e14, h⟩ | ⟨e14, h⟩
                                  · refine o_tableIn (tgt := 725) C e14 ⟨by decide, by decide⟩ dL_law_32 (by decide) (by decide) rfl (by decide) ?_
                                    refine o_aload_n C 1 dL_law_725 rfl rfl ?_
                                    refine o_aload_n C 0 dL_law_726 rfl rfl ?_
                                    refine o_iload_n C 3 dL_law_727 rfl rfl ?_
                                    refine o_iconst C dL_law_728 ?_
                                    refine o_iadd C dL_law_729 ?_
                                    refine o_sld C hX (r32_w _) dL_law_730 h (fun h => ?_)
                                    refine o_cVI C [vI (xs (Int.toNat (w32 (z3 + 1))))] mb_X11_takes (by decide) (fun _ hu => c_X11_takes (hxs _) hμ hu) rfl (Nat.le_of_ble_eq_true rfl) h mi_X11_takes me_X11_takes lkm_RL_75 kt_0 rfl rfl rfl dL_law_731 (fun x66 μ67 hx66 hμ67 h => ?_)
                                    refine o_aload_n C 2 dL_law_734 rfl rfl ?_
                                    refine o_aload_n C 0 dL_law_735 rfl rfl ?_
                                    refine o_iload_n C 3 dL_law_736 rfl rfl ?_
                                    refine o_iconst C dL_law_737 ?_
                                    refine o_iadd C dL_law_738 ?_
                                    refine o_sld C hX (r32_w _) dL_law_739 h (fun h => ?_)
                                    refine o_cVI C [vI (xs (Int.toNat (w32 (z3 + 1))))] mb_X12_takes (by decide) (fun _ hu => c_X12_takes (hxs _) hμ67 hu) rfl (Nat.le_of_ble_eq_true rfl) h mi_X12_takes me_X12_takes lkm_RL_78 kt_53 rfl rfl rfl dL_law_740 (fun x68 μ69 hx68 hμ69 h => ?_)
                                    refine o_icmp_eq (tgt := 1550) C hx66 hx68 dL_law_743 (by decide) h (fun _ h => ?_) (fun _ h => ?_)
                                    · refine o_iinc (lv2 := fun x70 => [(3, vI x70), (0, gR G 999), (1, gR G 0), (2, gR G 53)]) C 3 dL_law_1550 rfl (by decide) (fun _ => rfl) h (fun x70 hx70 h => ?_)
                                      refine o_goto (tgt := 18) C dL_law_1553 (by decide) ?_
                                      exact WM.sub [1, 2, 3, 0] rfl (ih x70 hx70 μ69 hμ69 h)
                                    · refine o_iconst C dL_law_746 ?_
                                      exact o_lawret C hQ (by decide) dL_law_747 h
                                  · rcases ite_some h with ⟨e15, h⟩ | ⟨e15, h⟩
                                    · refine o_tableIn (tgt := 748) C e15 ⟨by decide, by decide⟩ dL_law_32 (by decide) (by decide) rfl (by decide) ?_
                                      refine o_aload_n C 1 dL_law_748 rfl rfl ?_
                                      refine o_aload_n C 0 dL_law_749 rfl rfl ?_
                                      refine o_iload_n C 3 dL_law_750 rfl rfl ?_
                                      refine o_iconst C dL_law_751 ?_
                                      refine o_iadd C dL_law_752 ?_
                                      refine o_sld C hX (r32_w _) dL_law_753 h (fun h => ?_)
                                      refine o_cVI C [vI (xs (Int.toNat (w32 (z3 + 1))))] mb_X11_dry (by decide) (fun _ hu => c_X11_dry (hxs _) hμ hu) rfl (Nat.le_of_ble_eq_true rfl) h mi_X11_dry me_X11_dry lkm_RL_79 kt_0 rfl rfl rfl dL_law_754 (fun x71 μ72 hx71 hμ72 h => ?_)
                                      refine o_aload_n C 2 dL_law_757 rfl rfl ?_
                                      refine o_aload_n C 0 dL_law_758 rfl rfl ?_
                                      refine o_iload_n C 3 dL_law_759 rfl rfl ?_
                                      refine o_iconst C dL_law_760 ?_
                                      refine o_iadd C dL_law_761 ?_
                                      refine o_sld C hX (r32_w _) dL_law_762 h (fun h => ?_)
                                      refine o_cVI C [vI (xs (Int.toNat (w32 (z3 + 1))))] mb_X12_dry (by decide) (fun _ hu => c_X12_dry (hxs _) hμ72 hu) rfl (Nat.le_of_ble_eq_true rfl) h mi_X12_dry me_X12_dry lkm_RL_82 kt_53 rfl rfl rfl dL_law_763 (fun x73 μ74 hx73 hμ74 h => ?_)
                                      refine o_icmp_eq (tgt := 1550) C hx71 hx73 dL_law_766 (by decide) h (fun _ h => ?_) (fun _ h => ?_)
                                      · refine o_iinc (lv2 := fun x75 => [(3, vI x75), (0, gR G 999), (1, gR G 0), (2, gR G 53)]) C 3 dL_law_1550 rfl (by decide) (fun _ => rfl) h (fun x75 hx75 h => ?_)
                                        refine o_goto (tgt := 18) C dL_law_1553 (by decide) ?_
                                        exact WM.sub [1, 2, 3, 0] rfl (ih x75 hx75 μ74 hμ74 h)
                                      · refine o_iconst C dL_law_769 ?_
                                        exact o_lawret C hQ (by decide) dL_law_770 h
                                    · rcases ite_some h with ⟨e16, h⟩ | ⟨e16, h⟩
                                      · refine o_tableIn (tgt := 771) C e16 ⟨by decide, by decide⟩ dL_law_32 (by decide) (by decide) rfl (by decide) ?_
                                        refine o_aload_n C 1 dL_law_771 rfl rfl ?_
                                        refine o_aload_n C 0 dL_law_772 rfl rfl ?_
                                        refine o_iload_n C 3 dL_law_773 rfl rfl ?_
                                        refine o_iconst C dL_law_774 ?_
                                        refine o_iadd C dL_law_775 ?_
                                        refine o_sld C hX (r32_w _) dL_law_776 h (fun h => ?_)
                                        refine o_cVI C [vI (xs (Int.toNat (w32 (z3 + 1))))] mb_X11_salt (by decide) (fun _ hu => c_X11_salt (hxs _) hμ hu) rfl (Nat.le_of_ble_eq_true rfl) h mi_X11_salt me_X11_salt lkm_RL_83 kt_0 rfl rfl rfl dL_law_777 (fun x76 μ77 hx76 hμ77 h => ?_)
                                        refine o_aload_n C 2 dL_law_780 rfl rfl ?_
                                        refine o_aload_n C 0 dL_law_781 rfl rfl ?_
                                        refine o_iload_n C 3 dL_law_782 rfl rfl ?_
                                        refine o_iconst C dL_law_783 ?_
                                        refine o_iadd C dL_law_784 ?_
                                        refine o_sld C hX (r32_w _) dL_law_785 h (fun h => ?_)
                                        refine o_cVI C [vI (xs (Int.toNat (w32 (z3 + 1))))] mb_X12_salt (by decide) (fun _ hu => c_X12_salt (hxs _) hμ77 hu) rfl (Nat.le_of_ble_eq_true rfl) h mi_X12_salt me_X12_salt lkm_RL_86 kt_53 rfl rfl rfl dL_law_786 (fun x78 μ79 hx78 hμ79 h => ?_)
                                        refine o_icmp_eq (tgt := 1550) C hx76 hx78 dL_law_789 (by decide) h (fun _ h => ?_) (fun _ h => ?_)
                                        · refine o_iinc (lv2 := fun x80 => [(3, vI x80), (0, gR G 999), (1, gR G 0), (2, gR G 53)]) C 3 dL_law_1550 rfl (by decide) (fun _ => rfl) h (fun x80 hx80 h => ?_)
                                          refine o_goto (tgt := 18) C dL_law_1553 (by decide) ?_
                                          exact WM.sub [1, 2, 3, 0] rfl (ih x80 hx80 μ79 hμ79 h)
                                        · refine o_iconst C dL_law_792 ?_
                                          exact o_lawret C hQ (by decide) dL_law_793 h
                                      · rcases ite_some h with ⟨e17, h⟩ | ⟨e17, h⟩
                                        · refine o_tableIn (tgt := 794) C e17 ⟨by decide, by decide⟩ dL_law_32 (by decide) (by decide) rfl (by decide) ?_
                                          refine o_aload_n C 1 dL_law_794 rfl rfl ?_
                                          refine o_aload_n C 0 dL_law_795 rfl rfl ?_
                                          refine o_iload_n C 3 dL_law_796 rfl rfl ?_
                                          refine o_iconst C dL_law_797 ?_
                                          refine o_iadd C dL_law_798 ?_
                                          refine o_sld C hX (r32_w _) dL_law_799 h (fun h => ?_)
                                          refine o_if_eq (tgt := 807) C (hxs _) dL_law_800 (by decide) h (fun _ h => ?_) (fun _ h => ?_)
                                          · refine o_iconst C dL_law_807 ?_
                                            exact WM.sub [0, 1, 2, 3] rfl (w_L_law_808 C hQ hX hxs hL ih hz3 ⟨by decide, by decide⟩ hμ h)
                                          · refine o_iconst C dL_law_803 ?_
                                            refine o_goto (tgt := 808) C dL_law_804 (by decide) ?_
                                            exact WM.sub [0, 1, 2, 3] rfl (w_L_law_808 C hQ hX hxs hL ih hz3 ⟨by decide, by decide⟩ hμ h)
                                        · rcases ite_some h with ⟨e18, h⟩ | ⟨e18, h⟩
                                          · refine o_tableIn (tgt := 834) C e18 ⟨by decide, by decide⟩ dL_law_32 (by decide) (by decide) rfl (by decide) ?_
                                            refine o_aload_n C 1 dL_law_834 rfl rfl ?_
                                            refine o_aload_n C 0 dL_law_835 rfl rfl ?_
                                            refine o_iload_n C 3 dL_law_836 rfl rfl ?_
                                            refine o_iconst C dL_law_837 ?_
                                            refine o_iadd C dL_law_838 ?_
                                            refine o_sld C hX (r32_w _) dL_law_839 h (fun h => ?_)
                                            refine o_aload_n C 0 dL_law_840 rfl rfl ?_
                                            refine o_iload_n C 3 dL_law_841 rfl rfl ?_
                                            refine o_iconst C dL_law_842 ?_
                                            refine o_iadd C dL_law_843 ?_
                                            refine o_sld C hX (r32_w _) dL_law_844 h (fun h => ?_)
                                            refine o_cVI C [vI (xs (Int.toNat (w32 (z3 + 1)))), vI (xs (Int.toNat (w32 (z3 + 2))))] mb_X11_way (by decide) (fun _ hu => c_X11_way (hxs _) (hxs _) hμ hu) rfl (Nat.le_of_ble_eq_true rfl) h mi_X11_way me_X11_way lkm_RL_92 kt_0 rfl rfl rfl dL_law_845 (fun x81 μ82 hx81 hμ82 h => ?_)
                                            refine o_aload_n C 2 dL_law_848 rfl rfl ?_
                                            refine o_aload_n C 0 dL_law_849 rfl rfl ?_
                                            refine o_iload_n C 3 dL_law_850 rfl rfl ?_
                                            refine o_iconst C dL_law_851 ?_
                                            refine o_iadd C dL_law_852 ?_
                                            refine o_sld C hX (r32_w _) dL_law_853 h (fun h => ?_)
                                            refine o_aload_n C 0 dL_law_854 rfl rfl ?_
                                            refine o_iload_n C 3 dL_law_855 rfl rfl ?_
                                            refine o_iconst C dL_law_856 ?_
                                            refine o_iadd C dL_law_857 ?_
                                            refine o_sld C hX (r32_w _) dL_law_858 h (fun h => ?_)
                                            refine o_cVI C [vI (xs (Int.toNat (w32 (z3 + 1)))), vI (xs (Int.toNat (w32 (z3 + 2))))] mb_X12_way (by decide) (fun _ hu => c_X12_way (hxs _) (hxs _) hμ82 hu) rfl (Nat.le_of_ble_eq_true rfl) h mi_X12_way me_X12_way lkm_RL_95 kt_53 rfl rfl rfl dL_law_859 (fun x83 μ84 hx83 hμ84 h => ?_)
                                            refine o_icmp_eq (tgt := 1550) C hx81 hx83 dL_law_862 (by decide) h (fun _ h => ?_) (fun _ h => ?_)
                                            · refine o_iinc (lv2 := fun x85 => [(3, vI x85), (0, gR G 999), (1, gR G 0), (2, gR G 53)]) C 3 dL_law_1550 rfl (by decide) (fun _ => rfl) h (fun x85 hx85 h => ?_)
                                              refine o_goto (tgt := 18) C dL_law_1553 (by decide) ?_
                                              exact WM.sub [1, 2, 3, 0] rfl (ih x85 hx85 μ84 hμ84 h)
                                            · refine o_iconst C dL_law_865 ?_
                                              exact o_lawret C hQ (by decide) dL_law_866 h
                                          · rcases ite_some h with ⟨e19, h⟩ | ⟨e19, h⟩
                                            · refine o_tableIn (tgt := 867) C e19 ⟨by decide, by decide⟩ dL_law_32 (by decide) (by decide) rfl (by decide) ?_
                                              refine o_aload_n C 1 dL_law_867 rfl rfl ?_
                                              refine o_aload_n C 0 dL_law_868 rfl rfl ?_
                                              refine o_iload_n C 3 dL_law_869 rfl rfl ?_
                                              refine o_iconst C dL_law_870 ?_
                                              refine o_iadd C dL_law_871 ?_
                                              refine o_sld C hX (r32_w _) dL_law_872 h (fun h => ?_)
                                              refine o_cVI C [vI (xs (Int.toNat (w32 (z3 + 1))))] mb_X11_end (by decide) (fun _ hu => c_X11_end (hxs _) hμ hu) rfl (Nat.le_of_ble_eq_true rfl) h mi_X11_end me_X11_end lkm_RL_96 kt_0 rfl rfl rfl dL_law_873 (fun x86 μ87 hx86 hμ87 h => ?_)
                                              refine o_aload_n C 2 dL_law_876 rfl rfl ?_
                                              refine o_aload_n C 0 dL_law_877 rfl rfl ?_
                                              refine o_iload_n C 3 dL_law_878 rfl rfl ?_
                                              refine o_iconst C dL_law_879 ?_
                                              refine o_iadd C dL_law_880 ?_
                                              refine o_sld C hX (r32_w _) dL_law_881 h (fun h => ?_)
                                              refine o_cVI C [vI (xs (Int.toNat (w32 (z3 + 1))))] mb_X12_end (by decide) (fun _ hu => c_X12_end (hxs _) hμ87 hu) rfl (Nat.le_of_ble_eq_true rfl) h mi_X12_end me_X12_end lkm_RL_99 kt_53 rfl rfl rfl dL_law_882 (fun x88 μ89 hx88 hμ89 h => ?_)
                                              refine o_icmp_eq (tgt := 1550) C hx86 hx88 dL_law_885 (by decide) h (fun _ h => ?_) (fun _ h => ?_)
                                              · refine o_iinc (lv2 := fun x90 => [(3, vI x90), (0, gR G 999), (1, gR G 0), (2, gR G 53)]) C 3 dL_law_1550 rfl (by decide) (fun _ => rfl) h (fun x90 hx90 h => ?_)
                                                refine o_goto (tgt := 18) C dL_law_1553 (by decide) ?_
                                                exact WM.sub [1, 2, 3, 0] rfl (ih x90 hx90 μ89 hμ89 h)
                                              · refine o_iconst C dL_law_888 ?_
                                                exact o_lawret C hQ (by decide) dL_law_889 h
                                            · rcases ite_some h with ⟨e20, h⟩ | ⟨e20, h⟩
                                              · refine o_tableIn (tgt := 890) C e20 ⟨by decide, by decide⟩ dL_law_32 (by decide) (by decide) rfl (by decide) ?_
                                                refine o_aload_n C 1 dL_law_890 rfl rfl ?_
                                                refine o_aload_n C 0 dL_law_891 rfl rfl ?_
                                                refine o_iload_n C 3 dL_law_892 rfl rfl ?_
                                                refine o_iconst C dL_law_893 ?_
                                                refine o_iadd C dL_law_894 ?_
                                                refine o_sld C hX (r32_w _) dL_law_895 h (fun h => ?_)
                                                refine o_aload_n C 0 dL_law_896 rfl rfl ?_
                                                refine o_iload_n C 3 dL_law_897 rfl rfl ?_
                                                refine o_iconst C dL_law_898 ?_
                                                refine o_iadd C dL_law_899 ?_
                                                refine o_sld C hX (r32_w _) dL_law_900 h (fun h => ?_)
                                                refine o_if_eq (tgt := 908) C (hxs _) dL_law_901 (by decide) h (fun _ h => ?_) (fun _ h => ?_)
                                                · refine o_iconst C dL_law_908 ?_
                                                  exact WM.sub [0, 1, 2, 3] rfl (w_L_law_909 C hQ hX hxs hL ih hz3 (hxs _) ⟨by decide, by decide⟩ hμ h)
                                                · refine o_iconst C dL_law_904 ?_
                                                  refine o_goto (tgt := 909) C dL_law_905 (by decide) ?_
                                                  exact WM.sub [0, 1, 2, 3] rfl (w_L_law_909 C hQ hX hxs hL ih hz3 (hxs _) ⟨by decide, by decide⟩ hμ h)
                                              · rcases ite_some h with ⟨e21, h⟩ | ⟨e21, h⟩
                                                · refine o_tableIn (tgt := 940) C e21 ⟨by decide, by decide⟩ dL_law_32 (by decide) (by decide) rfl (by decide) ?_
                                                  refine o_aload_n C 1 dL_law_940 rfl rfl ?_
                                                  refine o_aload_n C 0 dL_law_941 rfl rfl ?_
                                                  refine o_iload_n C 3 dL_law_942 rfl rfl ?_
                                                  refine o_iconst C dL_law_943 ?_
                                                  refine o_iadd C dL_law_944 ?_
                                                  refine o_sld C hX (r32_w _) dL_law_945 h (fun h => ?_)
                                                  refine o_cVL C [vI (xs (Int.toNat (w32 (z3 + 1))))] mb_X11_wayTime (by decide) (fun _ hu => c_X11_wayTime (hxs _) hμ hu) rfl (Nat.le_of_ble_eq_true rfl) h mi_X11_wayTime me_X11_wayTime lkm_RL_104 kt_0 rfl rfl rfl dL_law_946 (fun x91 μ92 hx91 hμ92 h => ?_)
                                                  refine o_aload_n C 2 dL_law_949 rfl rfl ?_
                                                  refine o_aload_n C 0 dL_law_950 rfl rfl ?_
                                                  refine o_iload_n C 3 dL_law_951 rfl rfl ?_
                                                  refine o_iconst C dL_law_952 ?_
                                                  refine o_iadd C dL_law_953 ?_
                                                  refine o_sld C hX (r32_w _) dL_law_954 h (fun h => ?_)
                                                  refine o_cVL C [vI (xs (Int.toNat (w32 (z3 + 1))))] mb_X12_wayTime (by decide) (fun _ hu => c_X12_wayTime (hxs _) hμ92 hu) rfl (Nat.le_of_ble_eq_true rfl) h mi_X12_wayTime me_X12_wayTime lkm_RL_108 kt_53 rfl rfl rfl dL_law_955 (fun x93 μ94 hx93 hμ94 h => ?_)
                                                  refine o_lcmp_eq (tgt := 1550) C hx91 hx93 dL_law_958 dL_law_959 (by decide) h (fun _ h => ?_) (fun _ h => ?_)
                                                  · refine o_iinc (lv2 := fun x95 => [(3, vI x95), (0, gR G 999), (1, gR G 0), (2, gR G 53)]) C 3 dL_law_1550 rfl (by decide) (fun _ => rfl) h (fun x95 hx95 h => ?_)
                                                    refine o_goto (tgt := 18) C dL_law_1553 (by decide) ?_
                                                    exact WM.sub [1, 2, 3, 0] rfl (ih x95 hx95 μ94 hμ94 h)
                                                  · refine o_iconst C dL_law_962 ?_
                                                    exact o_lawret C hQ (by decide) dL_law_963 h
                                                · rcases ite_some h with ⟨e22, h⟩ | ⟨e22, h⟩
                                                  · refine o_tableIn (tgt := 964) C e22 ⟨by decide, by decide⟩ dL_law_32 (by decide) (by decide) rfl (by decide) ?_
                                                    refine o_aload_n C 1 dL_law_964 rfl rfl ?_
                                                    refine o_aload_n C 0 dL_law_965 rfl rfl ?_
                                                    refine o_iload_n C 3 dL_law_966 rfl rfl ?_
                                                    refine o_iconst C dL_law_967 ?_
                                                    refine o_iadd C dL_law_968 ?_
                                                    refine o_sld C hX (r32_w _) dL_law_969 h (fun h => ?_)
                                                    refine o_cVI C [vI (xs (Int.toNat (w32 (z3 + 1))))] mb_X11_zone (by decide) (fun _ hu => c_X11_zone (hxs _) hμ hu) rfl (Nat.le_of_ble_eq_true rfl) h mi_X11_zone me_X11_zone lkm_RL_109 kt_0 rfl rfl rfl dL_law_970 (fun x96 μ97 hx96 hμ97 h => ?_)
                                                    refine o_aload_n C 2 dL_law_973 rfl rfl ?_
                                                    refine o_aload_n C 0 dL_law_974 rfl rfl ?_
                                                    refine o_iload_n C 3 dL_law_975 rfl rfl ?_
                                                    refine o_iconst C dL_law_976 ?_
                                                    refine o_iadd C dL_law_977 ?_
                                                    refine o_sld C hX (r32_w _) dL_law_978 h (fun h => ?_)
                                                    refine o_cVI C [vI (xs (Int.toNat (w32 (z3 + 1))))] mb_X12_zone (by decide) (fun _ hu => c_X12_zone (hxs _) hμ97 hu) rfl (Nat.le_of_ble_eq_true rfl) h mi_X12_zone me_X12_zone lkm_RL_112 kt_53 rfl rfl rfl dL_law_979 (fun x98 μ99 hx98 hμ99 h => ?_)
                                                    refine o_icmp_eq (tgt := 1550) C hx96 hx98 dL_law_982 (by decide) h (fun _ h => ?_) (fun _ h => ?_)
                                                    · refine o_iinc (lv2 := fun x100 => [(3, vI x100), (0, gR G 999), (1, gR G 0), (2, gR G 53)]) C 3 dL_law_1550 rfl (by decide) (fun _ => rfl) h (fun x100 hx100 h => ?_)
                                                      refine o_goto (tgt := 18) C dL_law_1553 (by decide) ?_
                                                      exact WM.sub [1, 2, 3, 0] rfl (ih x100 hx100 μ99 hμ99 h)
                                                    · refine o_iconst C dL_law_985 ?_
                                                      exact o_lawret C hQ (by decide) dL_law_986 h
                                                  · rcases ite_some h with ⟨e23, h⟩ | ⟨e23, h⟩
                                                    · refine o_tableIn (tgt := 987) C e23 ⟨by decide, by decide⟩ dL_law_32 (by decide) (by decide) rfl (by decide) ?_
                                                      refine o_aload_n C 1 dL_law_987 rfl rfl ?_
                                                      refine o_aload_n C 0 dL_law_988 rfl rfl ?_
                                                      refine o_iload_n C 3 dL_law_989 rfl rfl ?_
                                                      refine o_iconst C dL_law_990 ?_
                                                      refine o_iadd C dL_law_991 ?_
                                                      refine o_sld C hX (r32_w _) dL_law_992 h (fun h => ?_)
                                                      refine o_aload_n C 0 dL_law_993 rfl rfl ?_
                                                      refine o_iload_n C 3 dL_law_994 rfl rfl ?_
                                                      refine o_iconst C dL_law_995 ?_
                                                      refine o_iadd C dL_law_996 ?_
                                                      refine o_sld C hX (r32_w _) dL_law_997 h (fun h => ?_)
                                                      refine o_cVI C [vI (xs (Int.toNat (w32 (z3 + 1)))), vI (xs (Int.toNat (w32 (z3 + 2))))] mb_X11_spill (by decide) (fun _ hu => c_X11_spill (hxs _) (hxs _) hμ hu) rfl (Nat.le_of_ble_eq_true rfl) h mi_X11_spill me_X11_spill lkm_RL_113 kt_0 rfl rfl rfl dL_law_998 (fun x101 μ102 hx101 hμ102 h => ?_)
                                                      refine o_aload_n C 2 dL_law_1001 rfl rfl ?_
                                                      refine o_aload_n C 0 dL_law_1002 rfl rfl ?_
                                                      refine o_iload_n C 3 dL_law_1003 rfl rfl ?_
                                                      refine o_iconst C dL_law_1004 ?_
                                                      refine o_iadd C dL_law_1005 ?_
                                                      refine o_sld C hX (r32_w _) dL_law_1006 h (fun h => ?_)
                                                      refine o_aload_n C 0 dL_law_1007 rfl rfl ?_
                                                      refine o_iload_n C 3 dL_law_1008 rfl rfl ?_
                                                      refine o_iconst C dL_law_1009 ?_
                                                      refine o_iadd C dL_law_1010 ?_
                                                      refine o_sld C hX (r32_w _) dL_law_1011 h (fun h => ?_)
                                                      refine o_cVI C [vI (xs (Int.toNat (w32 (z3 + 1)))), vI (xs (Int.toNat (w32 (z3 + 2))))] mb_X12_spill (by decide) (fun _ hu => c_X12_spill (hxs _) (hxs _) hμ102 hu) rfl (Nat.le_of_ble_eq_true rfl) h mi_X12_spill me_X12_spill lkm_RL_116 kt_53 rfl rfl rfl dL_law_1012 (fun x103 μ104 hx103 hμ104 h => ?_)
                                                      refine o_icmp_eq (tgt := 1550) C hx101 hx103 dL_law_1015 (by decide) h (fun _ h => ?_) (fun _ h => ?_)
                                                      · refine o_iinc (lv2 := fun x105 => [(3, vI x105), (0, gR G 999), (1, gR G 0), (2, gR G 53)]) C 3 dL_law_1550 rfl (by decide) (fun _ => rfl) h (fun x105 hx105 h => ?_)
                                                        refine o_goto (tgt := 18) C dL_law_1553 (by decide) ?_
                                                        exact WM.sub [1, 2, 3, 0] rfl (ih x105 hx105 μ104 hμ104 h)
                                                      · refine o_iconst C dL_law_1018 ?_
                                                        exact o_lawret C hQ (by decide) dL_law_1019 h
                                                    · rcases ite_some h with ⟨e24, h⟩ | ⟨e24, h⟩
                                                      · refine o_tableIn (tgt := 1020) C e24 ⟨by decide, by decide⟩ dL_law_32 (by decide) (by decide) rfl (by decide) ?_
                                                        refine o_aload_n C 1 dL_law_1020 rfl rfl ?_
                                                        refine o_aload_n C 0 dL_law_1021 rfl rfl ?_
                                                        refine o_iload_n C 3 dL_law_1022 rfl rfl ?_
                                                        refine o_iconst C dL_law_1023 ?_
                                                        refine o_iadd C dL_law_1024 ?_
                                                        refine o_sld C hX (r32_w _) dL_law_1025 h (fun h => ?_)
                                                        refine o_aload_n C 0 dL_law_1026 rfl rfl ?_
                                                        refine o_iload_n C 3 dL_law_1027 rfl rfl ?_
                                                        refine o_iconst C dL_law_1028 ?_
                                                        refine o_iadd C dL_law_1029 ?_
                                                        refine o_sld C hX (r32_w _) dL_law_1030 h (fun h => ?_)
                                                        refine o_cVI C [vI (xs (Int.toNat (w32 (z3 + 1)))), vI (xs (Int.toNat (w32 (z3 + 2))))] mb_X11_pour (by decide) (fun _ hu => c_X11_pour (hxs _) (hxs _) hμ hu) rfl (Nat.le_of_ble_eq_true rfl) h mi_X11_pour me_X11_pour lkm_RL_117 kt_0 rfl rfl rfl dL_law_1031 (fun x106 μ107 hx106 hμ107 h => ?_)
                                                        refine o_aload_n C 2 dL_law_1034 rfl rfl ?_
                                                        refine o_aload_n C 0 dL_law_1035 rfl rfl ?_
                                                        refine o_iload_n C 3 dL_law_1036 rfl rfl ?_
                                                        refine o_iconst C dL_law_1037 ?_
                                                        refine o_iadd C dL_law_1038 ?_
                                                        refine o_sld C hX (r32_w _) dL_law_1039 h (fun h => ?_)
                                                        refine o_aload_n C 0 dL_law_1040 rfl rfl ?_
                                                        refine o_iload_n C 3 dL_law_1041 rfl rfl ?_
                                                        refine o_iconst C dL_law_1042 ?_
                                                        refine o_iadd C dL_law_1043 ?_
                                                        refine o_sld C hX (r32_w _) dL_law_1044 h (fun h => ?_)
                                                        refine o_cVI C [vI (xs (Int.toNat (w32 (z3 + 1)))), vI (xs (Int.toNat (w32 (z3 + 2))))] mb_X12_pour (by decide) (fun _ hu => c_X12_pour (hxs _) (hxs _) hμ107 hu) rfl (Nat.le_of_ble_eq_true rfl) h mi_X12_pour me_X12_pour lkm_RL_120 kt_53 rfl rfl rfl dL_law_1045 (fun x108 μ109 hx108 hμ109 h => ?_)
                                                        refine o_icmp_eq (tgt := 1550) C hx106 hx108 dL_law_1048 (by decide) h (fun _ h => ?_) (fun _ h => ?_)
                                                        · refine o_iinc (lv2 := fun x110 => [(3, vI x110), (0, gR G 999), (1, gR G 0), (2, gR G 53)]) C 3 dL_law_1550 rfl (by decide) (fun _ => rfl) h (fun x110 hx110 h => ?_)
                                                          refine o_goto (tgt := 18) C dL_law_1553 (by decide) ?_
                                                          exact WM.sub [1, 2, 3, 0] rfl (ih x110 hx110 μ109 hμ109 h)
                                                        · refine o_iconst C dL_law_1051 ?_
                                                          exact o_lawret C hQ (by decide) dL_law_1052 h
                                                      · rcases ite_some h with ⟨e25, h⟩ | ⟨e25, h⟩
                                                        · refine o_tableIn (tgt := 1053) C e25 ⟨by decide, by decide⟩ dL_law_32 (by decide) (by decide) rfl (by decide) ?_
                                                          refine o_aload_n C 1 dL_law_1053 rfl rfl ?_
                                                          refine o_aload_n C 0 dL_law_1054 rfl rfl ?_
                                                          refine o_iload_n C 3 dL_law_1055 rfl rfl ?_
                                                          refine o_iconst C dL_law_1056 ?_
                                                          refine o_iadd C dL_law_1057 ?_
                                                          refine o_sld C hX (r32_w _) dL_law_1058 h (fun h => ?_)
                                                          refine o_cVI C [vI (xs (Int.toNat (w32 (z3 + 1))))] mb_X11_cups (by decide) (fun _ hu => c_X11_cups (hxs _) hμ hu) rfl (Nat.le_of_ble_eq_true rfl) h mi_X11_cups me_X11_cups lkm_RL_121 kt_0 rfl rfl rfl dL_law_1059 (fun x111 μ112 hx111 hμ112 h => ?_)
                                                          refine o_aload_n C 2 dL_law_1062 rfl rfl ?_
                                                          refine o_aload_n C 0 dL_law_1063 rfl rfl ?_
                                                          refine o_iload_n C 3 dL_law_1064 rfl rfl ?_
                                                          refine o_iconst C dL_law_1065 ?_
                                                          refine o_iadd C dL_law_1066 ?_
                                                          refine o_sld C hX (r32_w _) dL_law_1067 h (fun h => ?_)
                                                          refine o_cVI C [vI (xs (Int.toNat (w32 (z3 + 1))))] mb_X12_cups (by decide) (fun _ hu => c_X12_cups (hxs _) hμ112 hu) rfl (Nat.le_of_ble_eq_true rfl) h mi_X12_cups me_X12_cups lkm_RL_124 kt_53 rfl rfl rfl dL_law_1068 (fun x113 μ114 hx113 hμ114 h => ?_)
                                                          refine o_icmp_eq (tgt := 1550) C hx111 hx113 dL_law_1071 (by decide) h (fun _ h => ?_) (fun _ h => ?_)
                                                          · refine o_iinc (lv2 := fun x115 => [(3, vI x115), (0, gR G 999), (1, gR G 0), (2, gR G 53)]) C 3 dL_law_1550 rfl (by decide) (fun _ => rfl) h (fun x115 hx115 h => ?_)
                                                            refine o_goto (tgt := 18) C dL_law_1553 (by decide) ?_
                                                            exact WM.sub [1, 2, 3, 0] rfl (ih x115 hx115 μ114 hμ114 h)
                                                          · refine o_iconst C dL_law_1074 ?_
                                                            exact o_lawret C hQ (by decide) dL_law_1075 h
                                                        · rcases ite_some h with ⟨e26, h⟩ | ⟨e26, h⟩
                                                          · refine o_tableIn (tgt := 1076) C e26 ⟨by decide, by decide⟩ dL_law_32 (by decide) (by decide) rfl (by decide) ?_
                                                            refine o_aload_n C 1 dL_law_1076 rfl rfl ?_
                                                            refine o_aload_n C 0 dL_law_1077 rfl rfl ?_
                                                            refine o_iload_n C 3 dL_law_1078 rfl rfl ?_
                                                            refine o_iconst C dL_law_1079 ?_
                                                            refine o_iadd C dL_law_1080 ?_
                                                            refine o_sld C hX (r32_w _) dL_law_1081 h (fun h => ?_)
                                                            refine o_cVI C [vI (xs (Int.toNat (w32 (z3 + 1))))] mb_X11_mark (by decide) (fun _ hu => c_X11_mark (hxs _) hμ hu) rfl (Nat.le_of_ble_eq_true rfl) h mi_X11_mark me_X11_mark lkm_RL_125 kt_0 rfl rfl rfl dL_law_1082 (fun x116 μ117 hx116 hμ117 h => ?_)
                                                            refine o_aload_n C 2 dL_law_1085 rfl rfl ?_
                                                            refine o_aload_n C 0 dL_law_1086 rfl rfl ?_
                                                            refine o_iload_n C 3 dL_law_1087 rfl rfl ?_
                                                            refine o_iconst C dL_law_1088 ?_
                                                            refine o_iadd C dL_law_1089 ?_
                                                            refine o_sld C hX (r32_w _) dL_law_1090 h (fun h => ?_)
                                                            refine o_cVI C [vI (xs (Int.toNat (w32 (z3 + 1))))] mb_X12_mark (by decide) (fun _ hu => c_X12_mark (hxs _) hμ117 hu) rfl (Nat.le_of_ble_eq_true rfl) h mi_X12_mark me_X12_mark lkm_RL_128 kt_53 rfl rfl rfl dL_law_1091 (fun x118 μ119 hx118 hμ119 h => ?_)
                                                            refine o_icmp_eq (tgt := 1550) C hx116 hx118 dL_law_1094 (by decide) h (fun _ h => ?_) (fun _ h => ?_)
                                                            · refine o_iinc (lv2 := fun x120 => [(3, vI x120), (0, gR G 999), (1, gR G 0), (2, gR G 53)]) C 3 dL_law_1550 rfl (by decide) (fun _ => rfl) h (fun x120 hx120 h => ?_)
                                                              refine o_goto (tgt := 18) C dL_law_1553 (by decide) ?_
                                                              exact WM.sub [1, 2, 3, 0] rfl (ih x120 hx120 μ119 hμ119 h)
                                                            · refine o_iconst C dL_law_1097 ?_
                                                              exact o_lawret C hQ (by decide) dL_law_1098 h
                                                          · rcases ite_some h with ⟨e27, h⟩ | ⟨e27, h⟩
                                                            · refine o_tableIn (tgt := 1099) C e27 ⟨by decide, by decide⟩ dL_law_32 (by decide) (by decide) rfl (by decide) ?_
                                                              refine o_aload_n C 1 dL_law_1099 rfl rfl ?_
                                                              refine o_aload_n C 0 dL_law_1100 rfl rfl ?_
                                                              refine o_iload_n C 3 dL_law_1101 rfl rfl ?_
                                                              refine o_iconst C dL_law_1102 ?_
                                                              refine o_iadd C dL_law_1103 ?_
                                                              refine o_sld C hX (r32_w _) dL_law_1104 h (fun h => ?_)
                                                              refine o_cVI C [vI (xs (Int.toNat (w32 (z3 + 1))))] mb_X11_tick (by decide) (fun _ hu => c_X11_tick (hxs _) hμ hu) rfl (Nat.le_of_ble_eq_true rfl) h mi_X11_tick me_X11_tick lkm_RL_129 kt_0 rfl rfl rfl dL_law_1105 (fun x121 μ122 hx121 hμ122 h => ?_)
                                                              refine o_aload_n C 2 dL_law_1108 rfl rfl ?_
                                                              refine o_aload_n C 0 dL_law_1109 rfl rfl ?_
                                                              refine o_iload_n C 3 dL_law_1110 rfl rfl ?_
                                                              refine o_iconst C dL_law_1111 ?_
                                                              refine o_iadd C dL_law_1112 ?_
                                                              refine o_sld C hX (r32_w _) dL_law_1113 h (fun h => ?_)
                                                              refine o_cVI C [vI (xs (Int.toNat (w32 (z3 + 1))))] mb_X12_tick (by decide) (fun _ hu => c_X12_tick (hxs _) hμ122 hu) rfl (Nat.le_of_ble_eq_true rfl) h mi_X12_tick me_X12_tick lkm_RL_132 kt_53 rfl rfl rfl dL_law_1114 (fun x123 μ124 hx123 hμ124 h => ?_)
                                                              refine o_icmp_eq (tgt := 1550) C hx121 hx123 dL_law_1117 (by decide) h (fun _ h => ?_) (fun _ h => ?_)
                                                              · refine o_iinc (lv2 := fun x125 => [(3, vI x125), (0, gR G 999), (1, gR G 0), (2, gR G 53)]) C 3 dL_law_1550 rfl (by decide) (fun _ => rfl) h (fun x125 hx125 h => ?_)
                                                                refine o_goto (tgt := 18) C dL_law_1553 (by decide) ?_
                                                                exact WM.sub [1, 2, 3, 0] rfl (ih x125 hx125 μ124 hμ124 h)
                                                              · refine o_iconst C dL_law_1120 ?_
                                                                exact o_lawret C hQ (by decide) dL_law_1121 h
                                                            · rcases ite_some h with ⟨e28, h⟩ | ⟨e28, h⟩
                                                              · refine o_tableIn (tgt := 1122) C e28 ⟨by decide, by decide⟩ dL_law_32 (by decide) (by decide) rfl (by decide) ?_
                                                                refine o_aload_n C 1 dL_law_1122 rfl rfl ?_
                                                                refine o_aload_n C 0 dL_law_1123 rfl rfl ?_
                                                                refine o_iload_n C 3 dL_law_1124 rfl rfl ?_
                                                                refine o_iconst C dL_law_1125 ?_
                                                                refine o_iadd C dL_law_1126 ?_
                                                                refine o_sld C hX (r32_w _) dL_law_1127 h (fun h => ?_)
                                                                refine o_cVL C [vI (xs (Int.toNat (w32 (z3 + 1))))] mb_X11_book (by decide) (fun _ hu => c_X11_book (hxs _) hμ hu) rfl (Nat.le_of_ble_eq_true rfl) h mi_X11_book me_X11_book lkm_RL_133 kt_0 rfl rfl rfl dL_law_1128 (fun x126 μ127 hx126 hμ127 h => ?_)
                                                                refine o_aload_n C 2 dL_law_1131 rfl rfl ?_
                                                                refine o_aload_n C 0 dL_law_1132 rfl rfl ?_
                                                                refine o_iload_n C 3 dL_law_1133 rfl rfl ?_
                                                                refine o_iconst C dL_law_1134 ?_
                                                                refine o_iadd C dL_law_1135 ?_
                                                                refine o_sld C hX (r32_w _) dL_law_1136 h (fun h => ?_)
                                                                refine o_cVL C [vI (xs (Int.toNat (w32 (z3 + 1))))] mb_X12_book (by decide) (fun _ hu => c_X12_book (hxs _) hμ127 hu) rfl (Nat.le_of_ble_eq_true rfl) h mi_X12_book me_X12_book lkm_RL_136 kt_53 rfl rfl rfl dL_law_1137 (fun x128 μ129 hx128 hμ129 h => ?_)
                                                                refine o_lcmp_eq (tgt := 1550) C hx126 hx128 dL_law_1140 dL_law_1141 (by decide) h (fun _ h => ?_) (fun _ h => ?_)
                                                                · refine o_iinc (lv2 := fun x130 => [(3, vI x130), (0, gR G 999), (1, gR G 0), (2, gR G 53)]) C 3 dL_law_1550 rfl (by decide) (fun _ => rfl) h (fun x130 hx130 h => ?_)
                                                                  refine o_goto (tgt := 18) C dL_law_1553 (by decide) ?_
                                                                  exact WM.sub [1, 2, 3, 0] rfl (ih x130 hx130 μ129 hμ129 h)
                                                                · refine o_iconst C dL_law_1144 ?_
                                                                  exact o_lawret C hQ (by decide) dL_law_1145 h
                                                              · rcases ite_some h with ⟨e29, h⟩ | ⟨e29, h⟩
                                                                · refine o_tableIn (tgt := 1146) C e29 ⟨by decide, by decide⟩ dL_law_32 (by decide) (by decide) rfl (by decide) ?_
                                                                  refine o_aload_n C 1 dL_law_1146 rfl rfl ?_
                                                                  refine o_aload_n C 0 dL_law_1147 rfl rfl ?_
                                                                  refine o_iload_n C 3 dL_law_1148 rfl rfl ?_
                                                                  refine o_iconst C dL_law_1149 ?_
                                                                  refine o_iadd C dL_law_1150 ?_
                                                                  refine o_sld C hX (r32_w _) dL_law_1151 h (fun h => ?_)
                                                                  refine o_aload_n C 0 dL_law_1152 rfl rfl ?_
                                                                  refine o_iload_n C 3 dL_law_1153 rfl rfl ?_
                                                                  refine o_iconst C dL_law_1154 ?_
                                                                  refine o_iadd C dL_law_1155 ?_
                                                                  refine o_sld C hX (r32_w _) dL_law_1156 h (fun h => ?_)
                                                                  refine o_cVI C [vI (xs (Int.toNat (w32 (z3 + 1)))), vI (xs (Int.toNat (w32 (z3 + 2))))] mb_X11_world (by decide) (fun _ hu => c_X11_world (hxs _) (hxs _) hμ hu) rfl (Nat.le_of_ble_eq_true rfl) h mi_X11_world me_X11_world lkm_RL_137 kt_0 rfl rfl rfl dL_law_1157 (fun x131 μ132 hx131 hμ132 h => ?_)
                                                                  refine o_aload_n C 2 dL_law_1160 rfl rfl ?_
                                                                  refine o_aload_n C 0 dL_law_1161 rfl rfl ?_
                                                                  refine o_iload_n C 3 dL_law_1162 rfl rfl ?_
                                                                  refine o_iconst C dL_law_1163 ?_
                                                                  refine o_iadd C dL_law_1164 ?_
                                                                  refine o_sld C hX (r32_w _) dL_law_1165 h (fun h => ?_)
                                                                  refine o_aload_n C 0 dL_law_1166 rfl rfl ?_
                                                                  refine o_iload_n C 3 dL_law_1167 rfl rfl ?_
                                                                  refine o_iconst C dL_law_1168 ?_
                                                                  refine o_iadd C dL_law_1169 ?_
                                                                  refine o_sld C hX (r32_w _) dL_law_1170 h (fun h => ?_)
                                                                  refine o_cVI C [vI (xs (Int.toNat (w32 (z3 + 1)))), vI (xs (Int.toNat (w32 (z3 + 2))))] mb_X12_world (by decide) (fun _ hu => c_X12_world (hxs _) (hxs _) hμ132 hu) rfl (Nat.le_of_ble_eq_true rfl) h mi_X12_world me_X12_world lkm_RL_140 kt_53 rfl rfl rfl dL_law_1171 (fun x133 μ134 hx133 hμ134 h => ?_)
                                                                  refine o_icmp_eq (tgt := 1550) C hx131 hx133 dL_law_1174 (by decide) h (fun _ h => ?_) (fun _ h => ?_)
                                                                  · refine o_iinc (lv2 := fun x135 => [(3, vI x135), (0, gR G 999), (1, gR G 0), (2, gR G 53)]) C 3 dL_law_1550 rfl (by decide) (fun _ => rfl) h (fun x135 hx135 h => ?_)
                                                                    refine o_goto (tgt := 18) C dL_law_1553 (by decide) ?_
                                                                    exact WM.sub [1, 2, 3, 0] rfl (ih x135 hx135 μ134 hμ134 h)
                                                                  · refine o_iconst C dL_law_1177 ?_
                                                                    exact o_lawret C hQ (by decide) dL_law_1178 h
                                                                · rcases ite_some h with ⟨e30, h⟩ | ⟨e30, h⟩
                                                                  · refine o_tableIn (tgt := 1179) C e30 ⟨by decide, by decide⟩ dL_law_32 (by decide) (by decide) rfl (by decide) ?_
                                                                    refine o_aload_n C 1 dL_law_1179 rfl rfl ?_
                                                                    refine o_aload_n C 0 dL_law_1180 rfl rfl ?_
                                                                    refine o_iload_n C 3 dL_law_1181 rfl rfl ?_
                                                                    refine o_iconst C dL_law_1182 ?_
                                                                    refine o_iadd C dL_law_1183 ?_
                                                                    refine o_sld C hX (r32_w _) dL_law_1184 h (fun h => ?_)
                                                                    refine o_aload_n C 0 dL_law_1185 rfl rfl ?_
                                                                    refine o_iload_n C 3 dL_law_1186 rfl rfl ?_
                                                                    refine o_iconst C dL_law_1187 ?_
                                                                    refine o_iadd C dL_law_1188 ?_
                                                                    refine o_sld C hX (r32_w _) dL_law_1189 h (fun h => ?_)
                                                                    refine o_aload_n C 0 dL_law_1190 rfl rfl ?_
                                                                    refine o_iload_n C 3 dL_law_1191 rfl rfl ?_
                                                                    refine o_iconst C dL_law_1192 ?_
                                                                    refine o_iadd C dL_law_1193 ?_
                                                                    refine o_sld C hX (r32_w _) dL_law_1194 h (fun h => ?_)
                                                                    refine o_cVI C [vI (xs (Int.toNat (w32 (z3 + 1)))), vI (xs (Int.toNat (w32 (z3 + 2)))), vI (xs (Int.toNat (w32 (z3 + 3))))] mb_X11_see (by decide) (fun _ hu => c_X11_see (hxs _) (hxs _) (hxs _) hμ hu) rfl (Nat.le_of_ble_eq_true rfl) h mi_X11_see me_X11_see lkm_RL_141 kt_0 rfl rfl rfl dL_law_1195 (fun x136 μ137 hx136 hμ137 h => ?_)
                                                                    refine o_aload_n C 2 dL_law_1198 rfl rfl ?_
                                                                    refine o_aload_n C 0 dL_law_1199 rfl rfl ?_
                                                                    refine o_iload_n C 3 dL_law_1200 rfl rfl ?_
                                                                    refine o_iconst C dL_law_1201 ?_
                                                                    refine o_iadd C dL_law_1202 ?_
                                                                    refine o_sld C hX (r32_w _) dL_law_1203 h (fun h => ?_)
                                                                    refine o_aload_n C 0 dL_law_1204 rfl rfl ?_
                                                                    refine o_iload_n C 3 dL_law_1205 rfl rfl ?_
                                                                    refine o_iconst C dL_law_1206 ?_
                                                                    refine o_iadd C dL_law_1207 ?_
                                                                    refine o_sld C hX (r32_w _) dL_law_1208 h (fun h => ?_)
                                                                    refine o_aload_n C 0 dL_law_1209 rfl rfl ?_
                                                                    refine o_iload_n C 3 dL_law_1210 rfl rfl ?_
                                                                    refine o_iconst C dL_law_1211 ?_
                                                                    refine o_iadd C dL_law_1212 ?_
                                                                    refine o_sld C hX (r32_w _) dL_law_1213 h (fun h => ?_)
                                                                    refine o_cVI C [vI (xs (Int.toNat (w32 (z3 + 1)))), vI (xs (Int.toNat (w32 (z3 + 2)))), vI (xs (Int.toNat (w32 (z3 + 3))))] mb_X12_see (by decide) (fun _ hu => c_X12_see (hxs _) (hxs _) (hxs _) hμ137 hu) rfl (Nat.le_of_ble_eq_true rfl) h mi_X12_see me_X12_see lkm_RL_144 kt_53 rfl rfl rfl dL_law_1214 (fun x138 μ139 hx138 hμ139 h => ?_)
                                                                    refine o_icmp_eq (tgt := 1550) C hx136 hx138 dL_law_1217 (by decide) h (fun _ h => ?_) (fun _ h => ?_)
                                                                    · refine o_iinc (lv2 := fun x140 => [(3, vI x140), (0, gR G 999), (1, gR G 0), (2, gR G 53)]) C 3 dL_law_1550 rfl (by decide) (fun _ => rfl) h (fun x140 hx140 h => ?_)
                                                                      refine o_goto (tgt := 18) C dL_law_1553 (by decide) ?_
                                                                      exact WM.sub [1, 2, 3, 0] rfl (ih x140 hx140 μ139 hμ139 h)
                                                                    · refine o_iconst C dL_law_1220 ?_
                                                                      exact o_lawret C hQ (by decide) dL_law_1221 h
                                                                  · rcases ite_some h with ⟨e31, h⟩ | ⟨e31, h⟩
                                                                    · refine o_tableIn (tgt := 1222) C e31 ⟨by decide, by decide⟩ dL_law_32 (by decide) (by decide) rfl (by decide) ?_
                                                                      refine o_aload_n C 1 dL_law_1222 rfl rfl ?_
                                                                      refine o_cVI C [] mb_X11_left (by decide) (fun _ hu => c_X11_left hμ hu) rfl (Nat.le_of_ble_eq_true rfl) h mi_X11_left me_X11_left lkm_RL_145 kt_0 rfl rfl rfl dL_law_1223 (fun x141 μ142 hx141 hμ142 h => ?_)
                                                                      refine o_aload_n C 2 dL_law_1226 rfl rfl ?_
                                                                      refine o_cVI C [] mb_X12_left (by decide) (fun _ hu => c_X12_left hμ142 hu) rfl (Nat.le_of_ble_eq_true rfl) h mi_X12_left me_X12_left lkm_RL_148 kt_53 rfl rfl rfl dL_law_1227 (fun x143 μ144 hx143 hμ144 h => ?_)
                                                                      refine o_icmp_eq (tgt := 1550) C hx141 hx143 dL_law_1230 (by decide) h (fun _ h => ?_) (fun _ h => ?_)
                                                                      · refine o_iinc (lv2 := fun x145 => [(3, vI x145), (0, gR G 999), (1, gR G 0), (2, gR G 53)]) C 3 dL_law_1550 rfl (by decide) (fun _ => rfl) h (fun x145 hx145 h => ?_)
                                                                        refine o_goto (tgt := 18) C dL_law_1553 (by decide) ?_
                                                                        exact WM.sub [1, 2, 3, 0] rfl (ih x145 hx145 μ144 hμ144 h)
                                                                      · refine o_iconst C dL_law_1233 ?_
                                                                        exact o_lawret C hQ (by decide) dL_law_1234 h
                                                                    · rcases ite_some h with ⟨e32, h⟩ | ⟨e32, h⟩
                                                                      · refine o_tableIn (tgt := 1235) C e32 ⟨by decide, by decide⟩ dL_law_32 (by decide) (by decide) rfl (by decide) ?_
                                                                        refine o_aload_n C 1 dL_law_1235 rfl rfl ?_
                                                                        refine o_aload_n C 0 dL_law_1236 rfl rfl ?_
                                                                        refine o_iload_n C 3 dL_law_1237 rfl rfl ?_
                                                                        refine o_iconst C dL_law_1238 ?_
                                                                        refine o_iadd C dL_law_1239 ?_
                                                                        refine o_sld C hX (r32_w _) dL_law_1240 h (fun h => ?_)
                                                                        refine o_aload_n C 0 dL_law_1241 rfl rfl ?_
                                                                        refine o_iload_n C 3 dL_law_1242 rfl rfl ?_
                                                                        refine o_iconst C dL_law_1243 ?_
                                                                        refine o_iadd C dL_law_1244 ?_
                                                                        refine o_sld C hX (r32_w _) dL_law_1245 h (fun h => ?_)
                                                                        refine o_cVI C [vI (xs (Int.toNat (w32 (z3 + 1)))), vI (xs (Int.toNat (w32 (z3 + 2))))] mb_X11_inWorld (by decide) (fun _ hu => c_X11_inWorld (hxs _) (hxs _) hμ hu) rfl (Nat.le_of_ble_eq_true rfl) h mi_X11_inWorld me_X11_inWorld lkm_RL_149 kt_0 rfl rfl rfl dL_law_1246 (fun x146 μ147 hx146 hμ147 h => ?_)
                                                                        refine o_aload_n C 2 dL_law_1249 rfl rfl ?_
                                                                        refine o_aload_n C 0 dL_law_1250 rfl rfl ?_
                                                                        refine o_iload_n C 3 dL_law_1251 rfl rfl ?_
                                                                        refine o_iconst C dL_law_1252 ?_
                                                                        refine o_iadd C dL_law_1253 ?_
                                                                        refine o_sld C hX (r32_w _) dL_law_1254 h (fun h => ?_)
                                                                        refine o_aload_n C 0 dL_law_1255 rfl rfl ?_
                                                                        refine o_iload_n C 3 dL_law_1256 rfl rfl ?_
                                                                        refine o_iconst C dL_law_1257 ?_
                                                                        refine o_iadd C dL_law_1258 ?_
                                                                        refine o_sld C hX (r32_w _) dL_law_1259 h (fun h => ?_)
                                                                        refine o_cVI C [vI (xs (Int.toNat (w32 (z3 + 1)))), vI (xs (Int.toNat (w32 (z3 + 2))))] mb_X12_inWorld (by decide) (fun _ hu => c_X12_inWorld (hxs _) (hxs _) hμ147 hu) rfl (Nat.le_of_ble_eq_true rfl) h mi_X12_inWorld me_X12_inWorld lkm_RL_152 kt_53 rfl rfl rfl dL_law_1260 (fun x148 μ149 hx148 hμ149 h => ?_)
                                                                        refine o_icmp_eq (tgt := 1550) C hx146 hx148 dL_law_1263 (by decide) h (fun _ h => ?_) (fun _ h => ?_)
                                                                        · refine o_iinc (lv2 := fun x150 => [(3, vI x150), (0, gR G 999), (1, gR G 0), (2, gR G 53)]) C 3 dL_law_1550 rfl (by decide) (fun _ => rfl) h (fun x150 hx150 h => ?_)
                                                                          refine o_goto (tgt := 18) C dL_law_1553 (by decide) ?_
                                                                          exact WM.sub [1, 2, 3, 0] rfl (ih x150 hx150 μ149 hμ149 h)
                                                                        · refine o_iconst C dL_law_1266 ?_
                                                                          exact o_lawret C hQ (by decide) dL_law_1267 h
                                                                      · rcases ite_some h with ⟨e33, h⟩ | ⟨e33, h⟩
                                                                        · refine o_tableIn (tgt := 1268) C e33 ⟨by decide, by decide⟩ dL_law_32 (by decide) (by decide) rfl (by decide) ?_
                                                                          refine o_aload_n C 1 dL_law_1268 rfl rfl ?_
                                                                          refine o_cVI C [] mb_X11_next (by decide) (fun _ hu => c_X11_next hμ hu) rfl (Nat.le_of_ble_eq_true rfl) h mi_X11_next me_X11_next lkm_RL_153 kt_0 rfl rfl rfl dL_law_1269 (fun x151 μ152 hx151 hμ152 h => ?_)
                                                                          refine o_aload_n C 2 dL_law_1272 rfl rfl ?_
                                                                          refine o_cVI C [] mb_X12_next (by decide) (fun _ hu => c_X12_next hμ152 hu) rfl (Nat.le_of_ble_eq_true rfl) h mi_X12_next me_X12_next lkm_RL_156 kt_53 rfl rfl rfl dL_law_1273 (fun x153 μ154 hx153 hμ154 h => ?_)
                                                                          refine o_icmp_eq (tgt := 1550) C hx151 hx153 dL_law_1276 (by decide) h (fun _ h => ?_) (fun _ h => ?_)
                                                                          · refine o_iinc (lv2 := fun x155 => [(3, vI x155), (0, gR G 999), (1, gR G 0), (2, gR G 53)]) C 3 dL_law_1550 rfl (by decide) (fun _ => rfl) h (fun x155 hx155 h => ?_)
                                                                            refine o_goto (tgt := 18) C dL_law_1553 (by decide) ?_
                                                                            exact WM.sub [1, 2, 3, 0] rfl (ih x155 hx155 μ154 hμ154 h)
                                                                          · refine o_iconst C dL_law_1279 ?_
                                                                            exact o_lawret C hQ (by decide) dL_law_1280 h
                                                                        · rcases ite_some h with ⟨e34, h⟩ | ⟨e34, h⟩
                                                                          · refine o_tableIn (tgt := 1281) C e34 ⟨by decide, by decide⟩ dL_law_32 (by decide) (by decide) rfl (by decide) ?_
                                                                            refine o_aload_n C 1 dL_law_1281 rfl rfl ?_
                                                                            refine o_aload_n C 0 dL_law_1282 rfl rfl ?_
                                                                            refine o_iload_n C 3 dL_law_1283 rfl rfl ?_
                                                                            refine o_iconst C dL_law_1284 ?_
                                                                            refine o_iadd C dL_law_1285 ?_
                                                                            refine o_sld C hX (r32_w _) dL_law_1286 h (fun h => ?_)
                                                                            refine o_cVI C [vI (xs (Int.toNat (w32 (z3 + 1))))] mb_X11_alike (by decide) (fun _ hu => c_X11_alike (hxs _) hμ hu) rfl (Nat.le_of_ble_eq_true rfl) h mi_X11_alike me_X11_alike lkm_RL_157 kt_0 rfl rfl rfl dL_law_1287 (fun x156 μ157 hx156 hμ157 h => ?_)
                                                                            refine o_aload_n C 2 dL_law_1290 rfl rfl ?_
                                                                            refine o_aload_n C 0 dL_law_1291 rfl rfl ?_
                                                                            refine o_iload_n C 3 dL_law_1292 rfl rfl ?_
                                                                            refine o_iconst C dL_law_1293 ?_
                                                                            refine o_iadd C dL_law_1294 ?_
                                                                            refine o_sld C hX (r32_w _) dL_law_1295 h (fun h => ?_)
                                                                            refine o_cVI C [vI (xs (Int.toNat (w32 (z3 + 1))))] mb_X12_alike (by decide) (fun _ hu => c_X12_alike (hxs _) hμ157 hu) rfl (Nat.le_of_ble_eq_true rfl) h mi_X12_alike me_X12_alike lkm_RL_160 kt_53 rfl rfl rfl dL_law_1296 (fun x158 μ159 hx158 hμ159 h => ?_)
                                                                            refine o_icmp_eq (tgt := 1550) C hx156 hx158 dL_law_1299 (by decide) h (fun _ h => ?_) (fun _ h => ?_)
                                                                            · refine o_iinc (lv2 := fun x160 => [(3, vI x160), (0, gR G 999), (1, gR G 0), (2, gR G 53)]) C 3 dL_law_1550 rfl (by decide) (fun _ => rfl) h (fun x160 hx160 h => ?_)
                                                                              refine o_goto (tgt := 18) C dL_law_1553 (by decide) ?_
                                                                              exact WM.sub [1, 2, 3, 0] rfl (ih x160 hx160 μ159 hμ159 h)
                                                                            · refine o_iconst C dL_law_1302 ?_
                                                                              exact o_lawret C hQ (by decide) dL_law_1303 h
                                                                          · rcases ite_some h with ⟨e35, h⟩ | ⟨e35, h⟩
                                                                            · refine o_tableIn (tgt := 1304) C e35 ⟨by decide, by decide⟩ dL_law_32 (by decide) (by decide) rfl (by decide) ?_
                                                                              refine o_aload_n C 1 dL_law_1304 rfl rfl ?_
                                                                              refine o_aload_n C 0 dL_law_1305 rfl rfl ?_
                                                                              refine o_iload_n C 3 dL_law_1306 rfl rfl ?_
                                                                              refine o_iconst C dL_law_1307 ?_
                                                                              refine o_iadd C dL_law_1308 ?_
                                                                              refine o_sld C hX (r32_w _) dL_law_1309 h (fun h => ?_)
                                                                              refine o_cVI C [vI (xs (Int.toNat (w32 (z3 + 1))))] mb_X11_sign (by decide) (fun _ hu => c_X11_sign (hxs _) hμ hu) rfl (Nat.le_of_ble_eq_true rfl) h mi_X11_sign me_X11_sign lkm_RL_161 kt_0 rfl rfl rfl dL_law_1310 (fun x161 μ162 hx161 hμ162 h => ?_)
                                                                              refine o_aload_n C 2 dL_law_1313 rfl rfl ?_
                                                                              refine o_aload_n C 0 dL_law_1314 rfl rfl ?_
                                                                              refine o_iload_n C 3 dL_law_1315 rfl rfl ?_
                                                                              refine o_iconst C dL_law_1316 ?_
                                                                              refine o_iadd C dL_law_1317 ?_
                                                                              refine o_sld C hX (r32_w _) dL_law_1318 h (fun h => ?_)
                                                                              refine o_cVI C [vI (xs (Int.toNat (w32 (z3 + 1))))] mb_X12_sign (by decide) (fun _ hu => c_X12_sign (hxs _) hμ162 hu) rfl (Nat.le_of_ble_eq_true rfl) h mi_X12_sign me_X12_sign lkm_RL_164 kt_53 rfl rfl rfl dL_law_1319 (fun x163 μ164 hx163 hμ164 h => ?_)
                                                                              refine o_icmp_eq (tgt := 1550) C hx161 hx163 dL_law_1322 (by decide) h (fun _ h => ?_) (fun _ h => ?_)
                                                                              · refine o_iinc (lv2 := fun x165 => [(3, vI x165), (0, gR G 999), (1, gR G 0), (2, gR G 53)]) C 3 dL_law_1550 rfl (by decide) (fun _ => rfl) h (fun x165 hx165 h => ?_)
                                                                                refine o_goto (tgt := 18) C dL_law_1553 (by decide) ?_
                                                                                exact WM.sub [1, 2, 3, 0] rfl (ih x165 hx165 μ164 hμ164 h)
                                                                              · refine o_iconst C dL_law_1325 ?_
                                                                                exact o_lawret C hQ (by decide) dL_law_1326 h
                                                                            · rcases ite_some h with ⟨e36, h⟩ | ⟨e36, h⟩
                                                                              · refine o_tableIn (tgt := 1327) C e36 ⟨by decide, by decide⟩ dL_law_32 (by decide) (by decide) rfl (by decide) ?_
                                                                                refine o_aload_n C 1 dL_law_1327 rfl rfl ?_
                                                                                refine o_cVI C [] mb_X11_wipe (by decide) (fun _ hu => c_X11_wipe hμ hu) rfl (Nat.le_of_ble_eq_true rfl) h mi_X11_wipe me_X11_wipe lkm_RL_165 kt_0 rfl rfl rfl dL_law_1328 (fun x166 μ167 hx166 hμ167 h => ?_)
                                                                                refine o_aload_n C 2 dL_law_1331 rfl rfl ?_
                                                                                refine o_cVI C [] mb_X12_wipe (by decide) (fun _ hu => c_X12_wipe hμ167 hu) rfl (Nat.le_of_ble_eq_true rfl) h mi_X12_wipe me_X12_wipe lkm_RL_168 kt_53 rfl rfl rfl dL_law_1332 (fun x168 μ169 hx168 hμ169 h => ?_)
                                                                                refine o_icmp_eq (tgt := 1550) C hx166 hx168 dL_law_1335 (by decide) h (fun _ h => ?_) (fun _ h => ?_)
                                                                                · refine o_iinc (lv2 := fun x170 => [(3, vI x170), (0, gR G 999), (1, gR G 0), (2, gR G 53)]) C 3 dL_law_1550 rfl (by decide) (fun _ => rfl) h (fun x170 hx170 h => ?_)
                                                                                  refine o_goto (tgt := 18) C dL_law_1553 (by decide) ?_
                                                                                  exact WM.sub [1, 2, 3, 0] rfl (ih x170 hx170 μ169 hμ169 h)
                                                                                · refine o_iconst C dL_law_1338 ?_
                                                                                  exact o_lawret C hQ (by decide) dL_law_1339 h
                                                                              · rcases ite_some h with ⟨e37, h⟩ | ⟨e37, h⟩
                                                                                · refine o_tableIn (tgt := 1340) C e37 ⟨by decide, by decide⟩ dL_law_32 (by decide) (by decide) rfl (by decide) ?_
                                                                                  refine o_aload_n C 1 dL_law_1340 rfl rfl ?_
                                                                                  refine o_cVI C [] mb_X11_fault (by decide) (fun _ hu => c_X11_fault hμ hu) rfl (Nat.le_of_ble_eq_true rfl) h mi_X11_fault me_X11_fault lkm_RL_169 kt_0 rfl rfl rfl dL_law_1341 (fun x171 μ172 hx171 hμ172 h => ?_)
                                                                                  refine o_aload_n C 2 dL_law_1344 rfl rfl ?_
                                                                                  refine o_cVI C [] mb_X12_fault (by decide) (fun _ hu => c_X12_fault hμ172 hu) rfl (Nat.le_of_ble_eq_true rfl) h mi_X12_fault me_X12_fault lkm_RL_172 kt_53 rfl rfl rfl dL_law_1345 (fun x173 μ174 hx173 hμ174 h => ?_)
                                                                                  refine o_icmp_eq (tgt := 1550) C hx171 hx173 dL_law_1348 (by decide) h (fun _ h => ?_) (fun _ h => ?_)
                                                                                  · refine o_iinc (lv2 := fun x175 => [(3, vI x175), (0, gR G 999), (1, gR G 0), (2, gR G 53)]) C 3 dL_law_1550 rfl (by decide) (fun _ => rfl) h (fun x175 hx175 h => ?_)
                                                                                    refine o_goto (tgt := 18) C dL_law_1553 (by decide) ?_
                                                                                    exact WM.sub [1, 2, 3, 0] rfl (ih x175 hx175 μ174 hμ174 h)
                                                                                  · refine o_iconst C dL_law_1351 ?_
                                                                                    exact o_lawret C hQ (by decide) dL_law_1352 h
                                                                                · rcases ite_some h with ⟨e38, h⟩ | ⟨e38, h⟩
                                                                                  · refine o_tableIn (tgt := 1353) C e38 ⟨by decide, by decide⟩ dL_law_32 (by decide) (by decide) rfl (by decide) ?_
                                                                                    refine o_aload_n C 1 dL_law_1353 rfl rfl ?_
                                                                                    refine o_cVI C [] mb_X11_holds (by decide) (fun _ hu => c_X11_holds hμ hu) rfl (Nat.le_of_ble_eq_true rfl) h mi_X11_holds me_X11_holds lkm_RL_173 kt_0 rfl rfl rfl dL_law_1354 (fun x176 μ177 hx176 hμ177 h => ?_)
                                                                                    refine o_aload_n C 2 dL_law_1357 rfl rfl ?_
                                                                                    refine o_cVI C [] mb_X12_holds (by decide) (fun _ hu => c_X12_holds hμ177 hu) rfl (Nat.le_of_ble_eq_true rfl) h mi_X12_holds me_X12_holds lkm_RL_176 kt_53 rfl rfl rfl dL_law_1358 (fun x178 μ179 hx178 hμ179 h => ?_)
                                                                                    refine o_icmp_eq (tgt := 1550) C hx176 hx178 dL_law_1361 (by decide) h (fun _ h => ?_) (fun _ h => ?_)
                                                                                    · refine o_iinc (lv2 := fun x180 => [(3, vI x180), (0, gR G 999), (1, gR G 0), (2, gR G 53)]) C 3 dL_law_1550 rfl (by decide) (fun _ => rfl) h (fun x180 hx180 h => ?_)
                                                                                      refine o_goto (tgt := 18) C dL_law_1553 (by decide) ?_
                                                                                      exact WM.sub [1, 2, 3, 0] rfl (ih x180 hx180 μ179 hμ179 h)
                                                                                    · refine o_iconst C dL_law_1364 ?_
                                                                                      exact o_lawret C hQ (by decide) dL_law_1365 h
                                                                                  · rcases ite_some h with ⟨e39, h⟩ | ⟨e39, h⟩
                                                                                    · refine o_tableIn (tgt := 1366) C e39 ⟨by decide, by decide⟩ dL_law_32 (by decide) (by decide) rfl (by decide) ?_
                                                                                      refine o_aload_n C 1 dL_law_1366 rfl rfl ?_
                                                                                      refine o_aload_n C 0 dL_law_1367 rfl rfl ?_
                                                                                      refine o_iload_n C 3 dL_law_1368 rfl rfl ?_
                                                                                      refine o_iconst C dL_law_1369 ?_
                                                                                      refine o_iadd C dL_law_1370 ?_
                                                                                      refine o_sld C hX (r32_w _) dL_law_1371 h (fun h => ?_)
                                                                                      refine o_aload_n C 0 dL_law_1372 rfl rfl ?_
                                                                                      refine o_iload_n C 3 dL_law_1373 rfl rfl ?_
                                                                                      refine o_iconst C dL_law_1374 ?_
                                                                                      refine o_iadd C dL_law_1375 ?_
                                                                                      refine o_sld C hX (r32_w _) dL_law_1376 h (fun h => ?_)
                                                                                      refine o_cVI C [vI (xs (Int.toNat (w32 (z3 + 1)))), vI (xs (Int.toNat (w32 (z3 + 2))))] mb_X11_limit (by decide) (fun _ hu => c_X11_limit (hxs _) (hxs _) hμ hu) rfl (Nat.le_of_ble_eq_true rfl) h mi_X11_limit me_X11_limit lkm_RL_177 kt_0 rfl rfl rfl dL_law_1377 (fun x181 μ182 hx181 hμ182 h => ?_)
                                                                                      refine o_aload_n C 2 dL_law_1380 rfl rfl ?_
                                                                                      refine o_aload_n C 0 dL_law_1381 rfl rfl ?_
                                                                                      refine o_iload_n C 3 dL_law_1382 rfl rfl ?_
                                                                                      refine o_iconst C dL_law_1383 ?_
                                                                                      refine o_iadd C dL_law_1384 ?_
                                                                                      refine o_sld C hX (r32_w _) dL_law_1385 h (fun h => ?_)
                                                                                      refine o_aload_n C 0 dL_law_1386 rfl rfl ?_
                                                                                      refine o_iload_n C 3 dL_law_1387 rfl rfl ?_
                                                                                      refine o_iconst C dL_law_1388 ?_
                                                                                      refine o_iadd C dL_law_1389 ?_
                                                                                      refine o_sld C hX (r32_w _) dL_law_1390 h (fun h => ?_)
                                                                                      refine o_cVI C [vI (xs (Int.toNat (w32 (z3 + 1)))), vI (xs (Int.toNat (w32 (z3 + 2))))] mb_X12_limit (by decide) (fun _ hu => c_X12_limit (hxs _) (hxs _) hμ182 hu) rfl (Nat.le_of_ble_eq_true rfl) h mi_X12_limit me_X12_limit lkm_RL_180 kt_53 rfl rfl rfl dL_law_1391 (fun x183 μ184 hx183 hμ184 h => ?_)
                                                                                      refine o_icmp_eq (tgt := 1550) C hx181 hx183 dL_law_1394 (by decide) h (fun _ h => ?_) (fun _ h => ?_)
                                                                                      · refine o_iinc (lv2 := fun x185 => [(3, vI x185), (0, gR G 999), (1, gR G 0), (2, gR G 53)]) C 3 dL_law_1550 rfl (by decide) (fun _ => rfl) h (fun x185 hx185 h => ?_)
                                                                                        refine o_goto (tgt := 18) C dL_law_1553 (by decide) ?_
                                                                                        exact WM.sub [1, 2, 3, 0] rfl (ih x185 hx185 μ184 hμ184 h)
                                                                                      · refine o_iconst C dL_law_1397 ?_
                                                                                        exact o_lawret C hQ (by decide) dL_law_1398 h
                                                                                    · rcases ite_some h with ⟨e40, h⟩ | ⟨e40, h⟩
                                                                                      · refine o_tableIn (tgt := 1399) C e40 ⟨by decide, by decide⟩ dL_law_32 (by decide) (by decide) rfl (by decide) ?_
                                                                                        refine o_aload_n C 1 dL_law_1399 rfl rfl ?_
                                                                                        refine o_cVI C [] mb_X11_worth (by decide) (fun _ hu => c_X11_worth hμ hu) rfl (Nat.le_of_ble_eq_true rfl) h mi_X11_worth me_X11_worth lkm_RL_181 kt_0 rfl rfl rfl dL_law_1400 (fun x186 μ187 hx186 hμ187 h => ?_)
                                                                                        refine o_aload_n C 2 dL_law_1403 rfl rfl ?_
                                                                                        refine o_cVI C [] mb_X12_worth (by decide) (fun _ hu => c_X12_worth hμ187 hu) rfl (Nat.le_of_ble_eq_true rfl) h mi_X12_worth me_X12_worth lkm_RL_184 kt_53 rfl rfl rfl dL_law_1404 (fun x188 μ189 hx188 hμ189 h => ?_)
                                                                                        refine o_icmp_eq (tgt := 1550) C hx186 hx188 dL_law_1407 (by decide) h (fun _ h => ?_) (fun _ h => ?_)
                                                                                        · refine o_iinc (lv2 := fun x190 => [(3, vI x190), (0, gR G 999), (1, gR G 0), (2, gR G 53)]) C 3 dL_law_1550 rfl (by decide) (fun _ => rfl) h (fun x190 hx190 h => ?_)
                                                                                          refine o_goto (tgt := 18) C dL_law_1553 (by decide) ?_
                                                                                          exact WM.sub [1, 2, 3, 0] rfl (ih x190 hx190 μ189 hμ189 h)
                                                                                        · refine o_iconst C dL_law_1410 ?_
                                                                                          exact o_lawret C hQ (by decide) dL_law_1411 h
                                                                                      · rcases ite_some h with ⟨e41, h⟩ | ⟨e41, h⟩
                                                                                        · refine o_tableIn (tgt := 1412) C e41 ⟨by decide, by decide⟩ dL_law_32 (by decide) (by decide) rfl (by decide) ?_
                                                                                          refine o_aload_n C 1 dL_law_1412 rfl rfl ?_
                                                                                          refine o_aload_n C 0 dL_law_1413 rfl rfl ?_
                                                                                          refine o_iload_n C 3 dL_law_1414 rfl rfl ?_
                                                                                          refine o_iconst C dL_law_1415 ?_
                                                                                          refine o_iadd C dL_law_1416 ?_
                                                                                          refine o_sld C hX (r32_w _) dL_law_1417 h (fun h => ?_)
                                                                                          refine o_cVI C [vI (xs (Int.toNat (w32 (z3 + 1))))] mb_X11_level (by decide) (fun _ hu => c_X11_level (hxs _) hμ hu) rfl (Nat.le_of_ble_eq_true rfl) h mi_X11_level me_X11_level lkm_RL_185 kt_0 rfl rfl rfl dL_law_1418 (fun x191 μ192 hx191 hμ192 h => ?_)
                                                                                          refine o_aload_n C 2 dL_law_1421 rfl rfl ?_
                                                                                          refine o_aload_n C 0 dL_law_1422 rfl rfl ?_
                                                                                          refine o_iload_n C 3 dL_law_1423 rfl rfl ?_
                                                                                          refine o_iconst C dL_law_1424 ?_
                                                                                          refine o_iadd C dL_law_1425 ?_
                                                                                          refine o_sld C hX (r32_w _) dL_law_1426 h (fun h => ?_)
                                                                                          refine o_cVI C [vI (xs (Int.toNat (w32 (z3 + 1))))] mb_X12_level (by decide) (fun _ hu => c_X12_level (hxs _) hμ192 hu) rfl (Nat.le_of_ble_eq_true rfl) h mi_X12_level me_X12_level lkm_RL_188 kt_53 rfl rfl rfl dL_law_1427 (fun x193 μ194 hx193 hμ194 h => ?_)
                                                                                          refine o_icmp_eq (tgt := 1550) C hx191 hx193 dL_law_1430 (by decide) h (fun _ h => ?_) (fun _ h => ?_)
                                                                                          · refine o_iinc (lv2 := fun x195 => [(3, vI x195), (0, gR G 999), (1, gR G 0), (2, gR G 53)]) C 3 dL_law_1550 rfl (by decide) (fun _ => rfl) h (fun x195 hx195 h => ?_)
                                                                                            refine o_goto (tgt := 18) C dL_law_1553 (by decide) ?_
                                                                                            exact WM.sub [1, 2, 3, 0] rfl (ih x195 hx195 μ194 hμ194 h)
                                                                                          · refine o_iconst C dL_law_1433 ?_
                                                                                            exact o_lawret C hQ (by decide) dL_law_1434 h
                                                                                        · rcases ite_some h with ⟨e42, h⟩ | ⟨e42, h⟩
                                                                                          · refine o_tableIn (tgt := 1435) C e42 ⟨by decide, by decide⟩ dL_law_32 (by decide) (by decide) rfl (by decide) ?_
                                                                                            refine o_aload_n C 1 dL_law_1435 rfl rfl ?_
                                                                                            refine o_cVI C [] mb_X11_draw (by decide) (fun _ hu => c_X11_draw hμ hu) rfl (Nat.le_of_ble_eq_true rfl) h mi_X11_draw me_X11_draw lkm_RL_189 kt_0 rfl rfl rfl dL_law_1436 (fun x196 μ197 hx196 hμ197 h => ?_)
                                                                                            refine o_aload_n C 2 dL_law_1439 rfl rfl ?_
                                                                                            refine o_cVI C [] mb_X12_draw (by decide) (fun _ hu => c_X12_draw hμ197 hu) rfl (Nat.le_of_ble_eq_true rfl) h mi_X12_draw me_X12_draw lkm_RL_192 kt_53 rfl rfl rfl dL_law_1440 (fun x198 μ199 hx198 hμ199 h => ?_)
                                                                                            refine o_icmp_eq (tgt := 1550) C hx196 hx198 dL_law_1443 (by decide) h (fun _ h => ?_) (fun _ h => ?_)
                                                                                            · refine o_iinc (lv2 := fun x200 => [(3, vI x200), (0, gR G 999), (1, gR G 0), (2, gR G 53)]) C 3 dL_law_1550 rfl (by decide) (fun _ => rfl) h (fun x200 hx200 h => ?_)
                                                                                              refine o_goto (tgt := 18) C dL_law_1553 (by decide) ?_
                                                                                              exact WM.sub [1, 2, 3, 0] rfl (ih x200 hx200 μ199 hμ199 h)
                                                                                            · refine o_iconst C dL_law_1446 ?_
                                                                                              exact o_lawret C hQ (by decide) dL_law_1447 h
                                                                                          · rcases ite_some h with ⟨e43, h⟩ | ⟨e43, h⟩
                                                                                            · refine o_tableIn (tgt := 1448) C e43 ⟨by decide, by decide⟩ dL_law_32 (by decide) (by decide) rfl (by decide) ?_
                                                                                              refine o_aload_n C 1 dL_law_1448 rfl rfl ?_
                                                                                              refine o_aload_n C 0 dL_law_1449 rfl rfl ?_
                                                                                              refine o_iload_n C 3 dL_law_1450 rfl rfl ?_
                                                                                              refine o_iconst C dL_law_1451 ?_
                                                                                              refine o_iadd C dL_law_1452 ?_
                                                                                              refine o_sld C hX (r32_w _) dL_law_1453 h (fun h => ?_)
                                                                                              refine o_cVI C [vI (xs (Int.toNat (w32 (z3 + 1))))] mb_X11_price (by decide) (fun _ hu => c_X11_price (hxs _) hμ hu) rfl (Nat.le_of_ble_eq_true rfl) h mi_X11_price me_X11_price lkm_RL_193 kt_0 rfl rfl rfl dL_law_1454 (fun x201 μ202 hx201 hμ202 h => ?_)
                                                                                              refine o_aload_n C 2 dL_law_1457 rfl rfl ?_
                                                                                              refine o_aload_n C 0 dL_law_1458 rfl rfl ?_
                                                                                              refine o_iload_n C 3 dL_law_1459 rfl rfl ?_
                                                                                              refine o_iconst C dL_law_1460 ?_
                                                                                              refine o_iadd C dL_law_1461 ?_
                                                                                              refine o_sld C hX (r32_w _) dL_law_1462 h (fun h => ?_)
                                                                                              refine o_cVI C [vI (xs (Int.toNat (w32 (z3 + 1))))] mb_X12_price (by decide) (fun _ hu => c_X12_price (hxs _) hμ202 hu) rfl (Nat.le_of_ble_eq_true rfl) h mi_X12_price me_X12_price lkm_RL_196 kt_53 rfl rfl rfl dL_law_1463 (fun x203 μ204 hx203 hμ204 h => ?_)
                                                                                              refine o_icmp_eq (tgt := 1550) C hx201 hx203 dL_law_1466 (by decide) h (fun _ h => ?_) (fun _ h => ?_)
                                                                                              · refine o_iinc (lv2 := fun x205 => [(3, vI x205), (0, gR G 999), (1, gR G 0), (2, gR G 53)]) C 3 dL_law_1550 rfl (by decide) (fun _ => rfl) h (fun x205 hx205 h => ?_)
                                                                                                refine o_goto (tgt := 18) C dL_law_1553 (by decide) ?_
                                                                                                exact WM.sub [1, 2, 3, 0] rfl (ih x205 hx205 μ204 hμ204 h)
                                                                                              · refine o_iconst C dL_law_1469 ?_
                                                                                                exact o_lawret C hQ (by decide) dL_law_1470 h
                                                                                            · rcases ite_some h with ⟨e44, h⟩ | ⟨e44, h⟩
                                                                                              · refine o_tableIn (tgt := 1471) C e44 ⟨by decide, by decide⟩ dL_law_32 (by decide) (by decide) rfl (by decide) ?_
                                                                                                refine o_aload_n C 1 dL_law_1471 rfl rfl ?_
                                                                                                refine o_aload_n C 0 dL_law_1472 rfl rfl ?_
                                                                                                refine o_iload_n C 3 dL_law_1473 rfl rfl ?_
                                                                                                refine o_iconst C dL_law_1474 ?_
                                                                                                refine o_iadd C dL_law_1475 ?_
                                                                                                refine o_sld C hX (r32_w _) dL_law_1476 h (fun h => ?_)
                                                                                                refine o_cVI C [vI (xs (Int.toNat (w32 (z3 + 1))))] mb_X11_harm (by decide) (fun _ hu => c_X11_harm (hxs _) hμ hu) rfl (Nat.le_of_ble_eq_true rfl) h mi_X11_harm me_X11_harm lkm_RL_197 kt_0 rfl rfl rfl dL_law_1477 (fun x206 μ207 hx206 hμ207 h => ?_)
                                                                                                refine o_aload_n C 2 dL_law_1480 rfl rfl ?_
                                                                                                refine o_aload_n C 0 dL_law_1481 rfl rfl ?_
                                                                                                refine o_iload_n C 3 dL_law_1482 rfl rfl ?_
                                                                                                refine o_iconst C dL_law_1483 ?_
                                                                                                refine o_iadd C dL_law_1484 ?_
                                                                                                refine o_sld C hX (r32_w _) dL_law_1485 h (fun h => ?_)
                                                                                                refine o_cVI C [vI (xs (Int.toNat (w32 (z3 + 1))))] mb_X12_harm (by decide) (fun _ hu => c_X12_harm (hxs _) hμ207 hu) rfl (Nat.le_of_ble_eq_true rfl) h mi_X12_harm me_X12_harm lkm_RL_200 kt_53 rfl rfl rfl dL_law_1486 (fun x208 μ209 hx208 hμ209 h => ?_)
                                                                                                refine o_icmp_eq (tgt := 1550) C hx206 hx208 dL_law_1489 (by decide) h (fun _ h => ?_) (fun _ h => ?_)
                                                                                                · refine o_iinc (lv2 := fun x210 => [(3, vI x210), (0, gR G 999), (1, gR G 0), (2, gR G 53)]) C 3 dL_law_1550 rfl (by decide) (fun _ => rfl) h (fun x210 hx210 h => ?_)
                                                                                                  refine o_goto (tgt := 18) C dL_law_1553 (by decide) ?_
                                                                                                  exact WM.sub [1, 2, 3, 0] rfl (ih x210 hx210 μ209 hμ209 h)
                                                                                                · refine o_iconst C dL_law_1492 ?_
                                                                                                  exact o_lawret C hQ (by decide) dL_law_1493 h
                                                                                              · rcases ite_some h with ⟨e45, h⟩ | ⟨e45, h⟩
                                                                                                · refine o_tableIn (tgt := 1494) C e45 ⟨by decide, by decide⟩ dL_law_32 (by decide) (by decide) rfl (by decide) ?_
                                                                                                  refine o_aload_n C 1 dL_law_1494 rfl rfl ?_
                                                                                                  refine o_aload_n C 0 dL_law_1495 rfl rfl ?_
                                                                                                  refine o_iload_n C 3 dL_law_1496 rfl rfl ?_
                                                                                                  refine o_iconst C dL_law_1497 ?_
                                                                                                  refine o_iadd C dL_law_1498 ?_
                                                                                                  refine o_sld C hX (r32_w _) dL_law_1499 h (fun h => ?_)
                                                                                                  refine o_aload_n C 0 dL_law_1500 rfl rfl ?_
                                                                                                  refine o_iload_n C 3 dL_law_1501 rfl rfl ?_
                                                                                                  refine o_iconst C dL_law_1502 ?_
                                                                                                  refine o_iadd C dL_law_1503 ?_
                                                                                                  refine o_sld C hX (r32_w _) dL_law_1504 h (fun h => ?_)
                                                                                                  refine o_cVI C [vI (xs (Int.toNat (w32 (z3 + 1)))), vI (xs (Int.toNat (w32 (z3 + 2))))] mb_X11_share (by decide) (fun _ hu => c_X11_share (hxs _) (hxs _) hμ hu) rfl (Nat.le_of_ble_eq_true rfl) h mi_X11_share me_X11_share lkm_RL_201 kt_0 rfl rfl rfl dL_law_1505 (fun x211 μ212 hx211 hμ212 h => ?_)
                                                                                                  refine o_aload_n C 2 dL_law_1508 rfl rfl ?_
                                                                                                  refine o_aload_n C 0 dL_law_1509 rfl rfl ?_
                                                                                                  refine o_iload_n C 3 dL_law_1510 rfl rfl ?_
                                                                                                  refine o_iconst C dL_law_1511 ?_
                                                                                                  refine o_iadd C dL_law_1512 ?_
                                                                                                  refine o_sld C hX (r32_w _) dL_law_1513 h (fun h => ?_)
                                                                                                  refine o_aload_n C 0 dL_law_1514 rfl rfl ?_
                                                                                                  refine o_iload_n C 3 dL_law_1515 rfl rfl ?_
                                                                                                  refine o_iconst C dL_law_1516 ?_
                                                                                                  refine o_iadd C dL_law_1517 ?_
                                                                                                  refine o_sld C hX (r32_w _) dL_law_1518 h (fun h => ?_)
                                                                                                  refine o_cVI C [vI (xs (Int.toNat (w32 (z3 + 1)))), vI (xs (Int.toNat (w32 (z3 + 2))))] mb_X12_share (by decide) (fun _ hu => c_X12_share (hxs _) (hxs _) hμ212 hu) rfl (Nat.le_of_ble_eq_true rfl) h mi_X12_share me_X12_share lkm_RL_204 kt_53 rfl rfl rfl dL_law_1519 (fun x213 μ214 hx213 hμ214 h => ?_)
                                                                                                  refine o_icmp_eq (tgt := 1550) C hx211 hx213 dL_law_1522 (by decide) h (fun _ h => ?_) (fun _ h => ?_)
                                                                                                  · refine o_iinc (lv2 := fun x215 => [(3, vI x215), (0, gR G 999), (1, gR G 0), (2, gR G 53)]) C 3 dL_law_1550 rfl (by decide) (fun _ => rfl) h (fun x215 hx215 h => ?_)
                                                                                                    refine o_goto (tgt := 18) C dL_law_1553 (by decide) ?_
                                                                                                    exact WM.sub [1, 2, 3, 0] rfl (ih x215 hx215 μ214 hμ214 h)
                                                                                                  · refine o_iconst C dL_law_1525 ?_
                                                                                                    exact o_lawret C hQ (by decide) dL_law_1526 h
                                                                                                · rcases ite_some h with ⟨e46, h⟩ | ⟨e46, h⟩
                                                                                                  · refine o_tableIn (tgt := 1527) C e46 ⟨by decide, by decide⟩ dL_law_32 (by decide) (by decide) rfl (by decide) ?_
                                                                                                    refine o_aload_n C 1 dL_law_1527 rfl rfl ?_
                                                                                                    refine o_aload_n C 0 dL_law_1528 rfl rfl ?_
                                                                                                    refine o_iload_n C 3 dL_law_1529 rfl rfl ?_
                                                                                                    refine o_iconst C dL_law_1530 ?_
                                                                                                    refine o_iadd C dL_law_1531 ?_
                                                                                                    refine o_sld C hX (r32_w _) dL_law_1532 h (fun h => ?_)
                                                                                                    refine o_cVI C [vI (xs (Int.toNat (w32 (z3 + 1))))] mb_X11_count (by decide) (fun _ hu => c_X11_count (hxs _) hμ hu) rfl (Nat.le_of_ble_eq_true rfl) h mi_X11_count me_X11_count lkm_RL_205 kt_0 rfl rfl rfl dL_law_1533 (fun x216 μ217 hx216 hμ217 h => ?_)
                                                                                                    refine o_aload_n C 2 dL_law_1536 rfl rfl ?_
                                                                                                    refine o_aload_n C 0 dL_law_1537 rfl rfl ?_
                                                                                                    refine o_iload_n C 3 dL_law_1538 rfl rfl ?_
                                                                                                    refine o_iconst C dL_law_1539 ?_
                                                                                                    refine o_iadd C dL_law_1540 ?_
                                                                                                    refine o_sld C hX (r32_w _) dL_law_1541 h (fun h => ?_)
                                                                                                    refine o_cVI C [vI (xs (Int.toNat (w32 (z3 + 1))))] mb_X12_count (by decide) (fun _ hu => c_X12_count (hxs _) hμ217 hu) rfl (Nat.le_of_ble_eq_true rfl) h mi_X12_count me_X12_count lkm_RL_208 kt_53 rfl rfl rfl dL_law_1542 (fun x218 μ219 hx218 hμ219 h => ?_)
                                                                                                    refine o_icmp_eq (tgt := 1550) C hx216 hx218 dL_law_1545 (by decide) h (fun _ h => ?_) (fun _ h => ?_)
                                                                                                    · refine o_iinc (lv2 := fun x220 => [(3, vI x220), (0, gR G 999), (1, gR G 0), (2, gR G 53)]) C 3 dL_law_1550 rfl (by decide) (fun _ => rfl) h (fun x220 hx220 h => ?_)
                                                                                                      refine o_goto (tgt := 18) C dL_law_1553 (by decide) ?_
                                                                                                      exact WM.sub [1, 2, 3, 0] rfl (ih x220 hx220 μ219 hμ219 h)
                                                                                                    · refine o_iconst C dL_law_1548 ?_
                                                                                                      exact o_lawret C hQ (by decide) dL_law_1549 h
                                                                                                  · refine o_tableOut (tgt := 1550) C (r32_toInt _) dL_law_32 (by omega) (by decide) ?_
                                                                                                    refine o_iinc (lv2 := fun x221 => [(3, vI x221), (0, gR G 999), (1, gR G 0), (2, gR G 53)]) C 3 dL_law_1550 rfl (by decide) (fun _ => rfl) h (fun x221 hx221 h => ?_)
                                                                                                    refine o_goto (tgt := 18) C dL_law_1553 (by decide) ?_
                                                                                                    exact WM.sub [1, 2, 3, 0] rfl (ih x221 hx221 μ hμ h)
def f_law (L : Nat) (xs : Nat → Int) (μ : GM) : Option (Int × GM) :=
  k_L_law_18 L xs FU 0 μ
theorem w_L_law_16 {G : GX} {u : Int × GM} (C : CX G 8 cL_law 4 RL) (hQ : gQLw G u) {L : Nat} {xs : Nat → Int} (hX : SX G L xs) (hxs : ∀ j, r32 (xs j)) (hL : r32 (L : Int)) {μ : GM} (hμ : gRg μ) (h : f_law L xs μ = some u) : WM G 4 μ 16 [(2, gR G 53), (1, gR G 0), (0, gR G 999)] [] := by
  unfold f_law at h
  refine o_iconst C dL_law_16 ?_
  refine o_istore_n (lv2 := [(3, vI 0), (2, gR G 53), (1, gR G 0), (0, gR G 999)]) C dL_law_17 rfl (by decide) rfl ?_
  exact WM.sub [3, 2, 1, 0] rfl (w_L_law_18 C hQ hX hxs hL FU 0 ⟨by decide, by decide⟩ μ hμ h)
