def k_X12_open_176 : Nat → Int → Int → GM → Option (Int × GM)
  | 0, _, _, _ => none
  | n + 1, z1, z2, μ =>
    if z2 < (μ.2 53 18) then
      ck (0 ≤ z2 ∧ z2 < 3) (
      if (μ.1 67 z2) = z1 then
        ck (0 ≤ z2 ∧ z2 < 3) (
        bd (f_X12_let (w32 (300 + z2)) (w64 ((μ.1 73 z2) * (μ.2 53 24))) μ) fun _x2 μ3 =>
        lt (w32 (z2 + 1)) fun x4 =>
        k_X12_open_176 n z1 x4 μ3)
      else
        lt (w32 (z2 + 1)) fun x1 =>
        k_X12_open_176 n z1 x1 μ)
    else
      some (0, μ)
set_option maxHeartbeats 4000000 in
set_option maxRecDepth 100000 in
theorem w_X12_open_176 {G : GX} {u : Int × GM} (C : CX G 1 cX12_open 3 RX12) (hQ : gQV G none u) : ∀ (n : Nat) (z1 : Int) (hz1 : r32 z1) (z2 : Int) (hz2 : r32 z2) (μ : GM) (hμ : gRg μ), k_X12_open_176 n z1 z2 μ = some u → WM G 3 μ 176 [(0, gR G 53), (1, vI z1), (2, vI z2)] [] := by
  intro n
  induction n with
  | zero =>
    intro z1 hz1 z2 hz2 μ hμ h
    cases h
  | succ n ih =>
    intro z1 hz1 z2 hz2 μ hμ h
    rw [k_X12_open_176] at h
    refine o_iload_n C 2 dX12_open_176 rfl rfl ?_
    refine o_aload_n C 0 dX12_open_177 rfl rfl ?_
    refine o_getI (j := 18) C kt_53 rfl rfl (Nat.le_of_ble_eq_true rfl) lkf_RX12_144 dX12_open_178 ?_
    refine o_icmp_ge (tgt := 221) C hz2 (hμ.fi kt_53 rfl (by decide)) dX12_open_181 (by decide) h (fun _ h => ?_) (fun _ h => ?_)
    · exact o_vret C hQ dX12_open_221 h hμ
    · refine o_aload_n C 0 dX12_open_184 rfl rfl ?_
      refine o_getR (j := 19) C kt_53 rfl rfl (Nat.le_of_ble_eq_true rfl) lkf_RX12_49 dX12_open_185 ?_
      refine o_iload_n C 2 dX12_open_188 rfl rfl ?_
      refine o_iald C kt_67 rfl hz2 dX12_open_189 h (fun h => ?_)
      refine o_iload_n C 1 dX12_open_190 rfl rfl ?_
      refine o_icmp_ne (tgt := 215) C (hμ.i kt_67 (by decide) _) hz1 dX12_open_191 (by decide) h (fun _ h => ?_) (fun _ h => ?_)
      · refine o_iinc (lv2 := fun x1 => [(2, vI x1), (0, gR G 53), (1, vI z1)]) C 2 dX12_open_215 rfl (by decide) (fun _ => rfl) h (fun x1 hx1 h => ?_)
        refine o_goto (tgt := 176) C dX12_open_218 (by decide) ?_
        exact WM.sub [1, 2, 0] rfl (ih z1 hz1 x1 hx1 μ hμ h)
      · refine o_aload_n C 0 dX12_open_194 rfl rfl ?_
        refine o_sipush (v := 300) C dX12_open_195 (by decide) ?_
        refine o_iload_n C 2 dX12_open_198 rfl rfl ?_
        refine o_iadd C dX12_open_199 ?_
        refine o_aload_n C 0 dX12_open_200 rfl rfl ?_
        refine o_getR (j := 27) C kt_53 rfl rfl (Nat.le_of_ble_eq_true rfl) lkf_RX12_68 dX12_open_201 ?_
        refine o_iload_n C 2 dX12_open_204 rfl rfl ?_
        refine o_iald C kt_73 rfl hz2 dX12_open_205 h (fun h => ?_)
        refine o_i2l C (hμ.i kt_73 (by decide) _) dX12_open_206 ?_
        refine o_aload_n C 0 dX12_open_207 rfl rfl ?_
        refine o_getJ (j := 24) C kt_53 rfl rfl (Nat.le_of_ble_eq_true rfl) lkf_RX12_211 dX12_open_208 ?_
        refine o_lmul C dX12_open_211 ?_
        refine o_cVV C [vI (w32 (300 + z2)), vJ (w64 ((μ.1 73 z2) * (μ.2 53 24)))] mb_X12_let (by decide) (fun _ hu => c_X12_let (r32_w _) (r64_w _) hμ hu) rfl (Nat.le_of_ble_eq_true rfl) h mi_X12_let me_X12_let lkm_RX12_264 kt_53 rfl rfl rfl dX12_open_212 (fun _x2 μ3 hμ3 h => ?_)
        refine o_iinc (lv2 := fun x4 => [(2, vI x4), (0, gR G 53), (1, vI z1)]) C 2 dX12_open_215 rfl (by decide) (fun _ => rfl) h (fun x4 hx4 h => ?_)
        refine o_goto (tgt := 176) C dX12_open_218 (by decide) ?_
        exact WM.sub [1, 2, 0] rfl (ih z1 hz1 x4 hx4 μ3 hμ3 h)
def k_X12_open_136 : Nat → Int → Int → GM → Option (Int × GM)
  | 0, _, _, _ => none
  | n + 1, z1, z2, μ =>
    if z2 < (μ.2 53 14) then
      ck (0 ≤ z2 ∧ z2 < 2) (
      if (μ.1 64 z2) = z1 then
        bd (f_X12_takesOf z2 μ) fun x2 μ3 =>
        bd (f_X12_let (w32 (200 + z2)) x2 μ3) fun _x4 μ5 =>
        lt (w32 (z2 + 1)) fun x6 =>
        k_X12_open_136 n z1 x6 μ5
      else
        lt (w32 (z2 + 1)) fun x1 =>
        k_X12_open_136 n z1 x1 μ)
    else
      k_X12_open_176 FU z1 0 μ
set_option maxHeartbeats 4000000 in
set_option maxRecDepth 100000 in
theorem w_X12_open_136 {G : GX} {u : Int × GM} (C : CX G 1 cX12_open 3 RX12) (hQ : gQV G none u) : ∀ (n : Nat) (z1 : Int) (hz1 : r32 z1) (z2 : Int) (hz2 : r32 z2) (μ : GM) (hμ : gRg μ), k_X12_open_136 n z1 z2 μ = some u → WM G 3 μ 136 [(0, gR G 53), (1, vI z1), (2, vI z2)] [] := by
  intro n
  induction n with
  | zero =>
    intro z1 hz1 z2 hz2 μ hμ h
    cases h
  | succ n ih =>
    intro z1 hz1 z2 hz2 μ hμ h
    rw [k_X12_open_136] at h
    refine o_iload_n C 2 dX12_open_136 rfl rfl ?_
    refine o_aload_n C 0 dX12_open_137 rfl rfl ?_
    refine o_getI (j := 14) C kt_53 rfl rfl (Nat.le_of_ble_eq_true rfl) lkf_RX12_172 dX12_open_138 ?_
    refine o_icmp_ge (tgt := 174) C hz2 (hμ.fi kt_53 rfl (by decide)) dX12_open_141 (by decide) h (fun _ h => ?_) (fun _ h => ?_)
    · refine o_iconst C dX12_open_174 ?_
      refine o_istore_n (lv2 := [(2, vI 0), (0, gR G 53), (1, vI z1)]) C dX12_open_175 rfl (by decide) rfl ?_
      exact WM.sub [1, 2, 0] rfl (w_X12_open_176 C hQ FU z1 hz1 0 ⟨by decide, by decide⟩ μ hμ h)
    · refine o_aload_n C 0 dX12_open_144 rfl rfl ?_
      refine o_getR (j := 15) C kt_53 rfl rfl (Nat.le_of_ble_eq_true rfl) lkf_RX12_40 dX12_open_145 ?_
      refine o_iload_n C 2 dX12_open_148 rfl rfl ?_
      refine o_iald C kt_64 rfl hz2 dX12_open_149 h (fun h => ?_)
      refine o_iload_n C 1 dX12_open_150 rfl rfl ?_
      refine o_icmp_ne (tgt := 168) C (hμ.i kt_64 (by decide) _) hz1 dX12_open_151 (by decide) h (fun _ h => ?_) (fun _ h => ?_)
      · refine o_iinc (lv2 := fun x1 => [(2, vI x1), (0, gR G 53), (1, vI z1)]) C 2 dX12_open_168 rfl (by decide) (fun _ => rfl) h (fun x1 hx1 h => ?_)
        refine o_goto (tgt := 136) C dX12_open_171 (by decide) ?_
        exact WM.sub [1, 2, 0] rfl (ih z1 hz1 x1 hx1 μ hμ h)
      · refine o_aload_n C 0 dX12_open_154 rfl rfl ?_
        refine o_sipush (v := 200) C dX12_open_155 (by decide) ?_
        refine o_iload_n C 2 dX12_open_158 rfl rfl ?_
        refine o_iadd C dX12_open_159 ?_
        refine o_aload_n C 0 dX12_open_160 rfl rfl ?_
        refine o_iload_n C 2 dX12_open_161 rfl rfl ?_
        refine o_cVL C [vI z2] mb_X12_takesOf (by decide) (fun _ hu => c_X12_takesOf hz2 hμ hu) rfl (Nat.le_of_ble_eq_true rfl) h mi_X12_takesOf me_X12_takesOf lkm_RX12_253 kt_53 rfl rfl rfl dX12_open_162 (fun x2 μ3 hx2 hμ3 h => ?_)
        refine o_cVV C [vI (w32 (200 + z2)), vJ x2] mb_X12_let (by decide) (fun _ hu => c_X12_let (r32_w _) hx2 hμ3 hu) rfl (Nat.le_of_ble_eq_true rfl) h mi_X12_let me_X12_let lkm_RX12_264 kt_53 rfl rfl rfl dX12_open_165 (fun _x4 μ5 hμ5 h => ?_)
        refine o_iinc (lv2 := fun x6 => [(2, vI x6), (0, gR G 53), (1, vI z1)]) C 2 dX12_open_168 rfl (by decide) (fun _ => rfl) h (fun x6 hx6 h => ?_)
        refine o_goto (tgt := 136) C dX12_open_171 (by decide) ?_
        exact WM.sub [1, 2, 0] rfl (ih z1 hz1 x6 hx6 μ5 hμ5 h)
def k_X12_open_96 : Nat → Int → Int → GM → Option (Int × GM)
  | 0, _, _, _ => none
  | n + 1, z1, z2, μ =>
    if z2 < (μ.2 53 9) then
      ck (0 ≤ z2 ∧ z2 < 3) (
      if (μ.1 60 z2) = z1 then
        bd (f_X12_givesOf z2 μ) fun x2 μ3 =>
        bd (f_X12_let (w32 (100 + z2)) (w64 (-x2)) μ3) fun _x4 μ5 =>
        lt (w32 (z2 + 1)) fun x6 =>
        k_X12_open_96 n z1 x6 μ5
      else
        lt (w32 (z2 + 1)) fun x1 =>
        k_X12_open_96 n z1 x1 μ)
    else
      k_X12_open_136 FU z1 0 μ
set_option maxHeartbeats 4000000 in
set_option maxRecDepth 100000 in
theorem w_X12_open_96 {G : GX} {u : Int × GM} (C : CX G 1 cX12_open 3 RX12) (hQ : gQV G none u) : ∀ (n : Nat) (z1 : Int) (hz1 : r32 z1) (z2 : Int) (hz2 : r32 z2) (μ : GM) (hμ : gRg μ), k_X12_open_96 n z1 z2 μ = some u → WM G 3 μ 96 [(0, gR G 53), (1, vI z1), (2, vI z2)] [] := by
  intro n
  induction n with
  | zero =>
    intro z1 hz1 z2 hz2 μ hμ h
    cases h
  | succ n ih =>
    intro z1 hz1 z2 hz2 μ hμ h
    rw [k_X12_open_96] at h
    refine o_iload_n C 2 dX12_open_96 rfl rfl ?_
    refine o_aload_n C 0 dX12_open_97 rfl rfl ?_
    refine o_getI (j := 9) C kt_53 rfl rfl (Nat.le_of_ble_eq_true rfl) lkf_RX12_169 dX12_open_98 ?_
    refine o_icmp_ge (tgt := 134) C hz2 (hμ.fi kt_53 rfl (by decide)) dX12_open_101 (by decide) h (fun _ h => ?_) (fun _ h => ?_)
    · refine o_iconst C dX12_open_134 ?_
      refine o_istore_n (lv2 := [(2, vI 0), (0, gR G 53), (1, vI z1)]) C dX12_open_135 rfl (by decide) rfl ?_
      exact WM.sub [1, 2, 0] rfl (w_X12_open_136 C hQ FU z1 hz1 0 ⟨by decide, by decide⟩ μ hμ h)
    · refine o_aload_n C 0 dX12_open_104 rfl rfl ?_
      refine o_getR (j := 10) C kt_53 rfl rfl (Nat.le_of_ble_eq_true rfl) lkf_RX12_28 dX12_open_105 ?_
      refine o_iload_n C 2 dX12_open_108 rfl rfl ?_
      refine o_iald C kt_60 rfl hz2 dX12_open_109 h (fun h => ?_)
      refine o_iload_n C 1 dX12_open_110 rfl rfl ?_
      refine o_icmp_ne (tgt := 128) C (hμ.i kt_60 (by decide) _) hz1 dX12_open_111 (by decide) h (fun _ h => ?_) (fun _ h => ?_)
      · refine o_iinc (lv2 := fun x1 => [(2, vI x1), (0, gR G 53), (1, vI z1)]) C 2 dX12_open_128 rfl (by decide) (fun _ => rfl) h (fun x1 hx1 h => ?_)
        refine o_goto (tgt := 96) C dX12_open_131 (by decide) ?_
        exact WM.sub [1, 2, 0] rfl (ih z1 hz1 x1 hx1 μ hμ h)
      · refine o_aload_n C 0 dX12_open_114 rfl rfl ?_
        refine o_bipush (v := 100) C dX12_open_115 (by decide) ?_
        refine o_iload_n C 2 dX12_open_117 rfl rfl ?_
        refine o_iadd C dX12_open_118 ?_
        refine o_aload_n C 0 dX12_open_119 rfl rfl ?_
        refine o_iload_n C 2 dX12_open_120 rfl rfl ?_
        refine o_cVL C [vI z2] mb_X12_givesOf (by decide) (fun _ hu => c_X12_givesOf hz2 hμ hu) rfl (Nat.le_of_ble_eq_true rfl) h mi_X12_givesOf me_X12_givesOf lkm_RX12_250 kt_53 rfl rfl rfl dX12_open_121 (fun x2 μ3 hx2 hμ3 h => ?_)
        refine o_lneg C dX12_open_124 ?_
        refine o_cVV C [vI (w32 (100 + z2)), vJ (w64 (-x2))] mb_X12_let (by decide) (fun _ hu => c_X12_let (r32_w _) (r64_w _) hμ3 hu) rfl (Nat.le_of_ble_eq_true rfl) h mi_X12_let me_X12_let lkm_RX12_264 kt_53 rfl rfl rfl dX12_open_125 (fun _x4 μ5 hμ5 h => ?_)
        refine o_iinc (lv2 := fun x6 => [(2, vI x6), (0, gR G 53), (1, vI z1)]) C 2 dX12_open_128 rfl (by decide) (fun _ => rfl) h (fun x6 hx6 h => ?_)
        refine o_goto (tgt := 96) C dX12_open_131 (by decide) ?_
        exact WM.sub [1, 2, 0] rfl (ih z1 hz1 x6 hx6 μ5 hμ5 h)
def k_X12_open_85 (kL7 : Int → Int → GM → Option (Int × GM)) (z1 : Int) (z2 : Int) (s1 : Int) (s2 : Int) (μ : GM) : Option (Int × GM) :=
  bd (f_X12_let s1 s2 μ) fun _x1 μ2 =>
  lt (w32 (z2 + 1)) fun x3 =>
  kL7 z1 x3 μ2
set_option maxHeartbeats 4000000 in
set_option maxRecDepth 100000 in
theorem w_X12_open_85 {G : GX} {u : Int × GM} (C : CX G 1 cX12_open 3 RX12) (hQ : gQV G none u) {kL7 : Int → Int → GM → Option (Int × GM)} (hL7 : ∀ (z1 : Int) (hz1 : r32 z1) (z2 : Int) (hz2 : r32 z2) (μ : GM) (hμ : gRg μ), kL7 z1 z2 μ = some u → WM G 3 μ 7 [(0, gR G 53), (1, vI z1), (2, vI z2)] []) {z1 : Int} (hz1 : r32 z1) {z2 : Int} (hz2 : r32 z2) {s1 : Int} (hs1 : r32 s1) {s2 : Int} (hs2 : r64 s2) {μ : GM} (hμ : gRg μ) (h : k_X12_open_85 kL7 z1 z2 s1 s2 μ = some u) : WM G 3 μ 85 [(0, gR G 53), (1, vI z1), (2, vI z2)] [vJ s2, vI s1, gR G 53] := by
  unfold k_X12_open_85 at h
  refine o_cVV C [vI s1, vJ s2] mb_X12_let (by decide) (fun _ hu => c_X12_let hs1 hs2 hμ hu) rfl (Nat.le_of_ble_eq_true rfl) h mi_X12_let me_X12_let lkm_RX12_264 kt_53 rfl rfl rfl dX12_open_85 (fun _x1 μ2 hμ2 h => ?_)
  refine o_iinc (lv2 := fun x3 => [(2, vI x3), (0, gR G 53), (1, vI z1)]) C 2 dX12_open_88 rfl (by decide) (fun _ => rfl) h (fun x3 hx3 h => ?_)
  refine o_goto (tgt := 7) C dX12_open_91 (by decide) ?_
  exact WM.sub [1, 2, 0] rfl (hL7 z1 hz1 x3 hx3 μ2 hμ2 h)
def k_X12_open_61 (kL7 : Int → Int → GM → Option (Int × GM)) (z1 : Int) (z2 : Int) (s1 : Int) (μ : GM) : Option (Int × GM) :=
  ck (0 ≤ z2 ∧ z2 < 12) (
  if (μ.1 57 z2) = z1 then
    bd (f_X12_flowOf z2 μ) fun x3 μ4 =>
    k_X12_open_85 kL7 z1 z2 s1 x3 μ4
  else
    bd (f_X12_flowOf z2 μ) fun x1 μ2 =>
    k_X12_open_85 kL7 z1 z2 s1 (w64 (-x1)) μ2)
set_option maxHeartbeats 4000000 in
set_option maxRecDepth 100000 in
theorem w_X12_open_61 {G : GX} {u : Int × GM} (C : CX G 1 cX12_open 3 RX12) (hQ : gQV G none u) {kL7 : Int → Int → GM → Option (Int × GM)} (hL7 : ∀ (z1 : Int) (hz1 : r32 z1) (z2 : Int) (hz2 : r32 z2) (μ : GM) (hμ : gRg μ), kL7 z1 z2 μ = some u → WM G 3 μ 7 [(0, gR G 53), (1, vI z1), (2, vI z2)] []) {z1 : Int} (hz1 : r32 z1) {z2 : Int} (hz2 : r32 z2) {s1 : Int} (hs1 : r32 s1) {μ : GM} (hμ : gRg μ) (h : k_X12_open_61 kL7 z1 z2 s1 μ = some u) : WM G 3 μ 61 [(0, gR G 53), (1, vI z1), (2, vI z2)] [vI s1, gR G 53] := by
  unfold k_X12_open_61 at h
  refine o_aload_n C 0 dX12_open_61 rfl rfl ?_
  refine o_getR (j := 6) C kt_53 rfl rfl (Nat.le_of_ble_eq_true rfl) lkf_RX12_19 dX12_open_62 ?_
  refine o_iload_n C 2 dX12_open_65 rfl rfl ?_
  refine o_iald C kt_57 rfl hz2 dX12_open_66 h (fun h => ?_)
  refine o_iload_n C 1 dX12_open_67 rfl rfl ?_
  refine o_icmp_ne (tgt := 79) C (hμ.i kt_57 (by decide) _) hz1 dX12_open_68 (by decide) h (fun _ h => ?_) (fun _ h => ?_)
  · refine o_aload_n C 0 dX12_open_79 rfl rfl ?_
    refine o_iload_n C 2 dX12_open_80 rfl rfl ?_
    refine o_cVL C [vI z2] mb_X12_flowOf (by decide) (fun _ hu => c_X12_flowOf hz2 hμ hu) rfl (Nat.le_of_ble_eq_true rfl) h mi_X12_flowOf me_X12_flowOf lkm_RX12_247 kt_53 rfl rfl rfl dX12_open_81 (fun x1 μ2 hx1 hμ2 h => ?_)
    refine o_lneg C dX12_open_84 ?_
    exact WM.sub [0, 1, 2] rfl (w_X12_open_85 C hQ hL7 hz1 hz2 hs1 (r64_w _) hμ2 h)
  · refine o_aload_n C 0 dX12_open_71 rfl rfl ?_
    refine o_iload_n C 2 dX12_open_72 rfl rfl ?_
    refine o_cVL C [vI z2] mb_X12_flowOf (by decide) (fun _ hu => c_X12_flowOf hz2 hμ hu) rfl (Nat.le_of_ble_eq_true rfl) h mi_X12_flowOf me_X12_flowOf lkm_RX12_247 kt_53 rfl rfl rfl dX12_open_73 (fun x3 μ4 hx3 hμ4 h => ?_)
    refine o_goto (tgt := 85) C dX12_open_76 (by decide) ?_
    exact WM.sub [0, 1, 2] rfl (w_X12_open_85 C hQ hL7 hz1 hz2 hs1 hx3 hμ4 h)
def k_X12_open_35 (kL7 : Int → Int → GM → Option (Int × GM)) (z1 : Int) (z2 : Int) (μ : GM) : Option (Int × GM) :=
  ck (0 ≤ z2 ∧ z2 < 12) (
  if (μ.1 57 z2) = z1 then
    ck (0 ≤ z2 ∧ z2 < 12) (
    k_X12_open_61 kL7 z1 z2 (μ.1 58 z2) μ)
  else
    ck (0 ≤ z2 ∧ z2 < 12) (
    k_X12_open_61 kL7 z1 z2 (μ.1 57 z2) μ))
set_option maxHeartbeats 4000000 in
set_option maxRecDepth 100000 in
theorem w_X12_open_35 {G : GX} {u : Int × GM} (C : CX G 1 cX12_open 3 RX12) (hQ : gQV G none u) {kL7 : Int → Int → GM → Option (Int × GM)} (hL7 : ∀ (z1 : Int) (hz1 : r32 z1) (z2 : Int) (hz2 : r32 z2) (μ : GM) (hμ : gRg μ), kL7 z1 z2 μ = some u → WM G 3 μ 7 [(0, gR G 53), (1, vI z1), (2, vI z2)] []) {z1 : Int} (hz1 : r32 z1) {z2 : Int} (hz2 : r32 z2) {μ : GM} (hμ : gRg μ) (h : k_X12_open_35 kL7 z1 z2 μ = some u) : WM G 3 μ 35 [(0, gR G 53), (1, vI z1), (2, vI z2)] [] := by
  unfold k_X12_open_35 at h
  refine o_aload_n C 0 dX12_open_35 rfl rfl ?_
  refine o_aload_n C 0 dX12_open_36 rfl rfl ?_
  refine o_getR (j := 6) C kt_53 rfl rfl (Nat.le_of_ble_eq_true rfl) lkf_RX12_19 dX12_open_37 ?_
  refine o_iload_n C 2 dX12_open_40 rfl rfl ?_
  refine o_iald C kt_57 rfl hz2 dX12_open_41 h (fun h => ?_)
  refine o_iload_n C 1 dX12_open_42 rfl rfl ?_
  refine o_icmp_ne (tgt := 55) C (hμ.i kt_57 (by decide) _) hz1 dX12_open_43 (by decide) h (fun _ h => ?_) (fun _ h => ?_)
  · refine o_aload_n C 0 dX12_open_55 rfl rfl ?_
    refine o_getR (j := 6) C kt_53 rfl rfl (Nat.le_of_ble_eq_true rfl) lkf_RX12_19 dX12_open_56 ?_
    refine o_iload_n C 2 dX12_open_59 rfl rfl ?_
    refine o_iald C kt_57 rfl hz2 dX12_open_60 h (fun h => ?_)
    exact WM.sub [0, 1, 2] rfl (w_X12_open_61 C hQ hL7 hz1 hz2 (hμ.i kt_57 (by decide) _) hμ h)
  · refine o_aload_n C 0 dX12_open_46 rfl rfl ?_
    refine o_getR (j := 7) C kt_53 rfl rfl (Nat.le_of_ble_eq_true rfl) lkf_RX12_22 dX12_open_47 ?_
    refine o_iload_n C 2 dX12_open_50 rfl rfl ?_
    refine o_iald C kt_58 rfl hz2 dX12_open_51 h (fun h => ?_)
    refine o_goto (tgt := 61) C dX12_open_52 (by decide) ?_
    exact WM.sub [0, 1, 2] rfl (w_X12_open_61 C hQ hL7 hz1 hz2 (hμ.i kt_58 (by decide) _) hμ h)
def k_X12_open_7 : Nat → Int → Int → GM → Option (Int × GM)
  | 0, _, _, _ => none
  | n + 1, z1, z2, μ =>
    if z2 < (μ.2 53 5) then
      ck (0 ≤ z2 ∧ z2 < 12) (
      if (μ.1 57 z2) = z1 then
        k_X12_open_35 (k_X12_open_7 n) z1 z2 μ
      else
        ck (0 ≤ z2 ∧ z2 < 12) (
        if (μ.1 58 z2) = z1 then
          k_X12_open_35 (k_X12_open_7 n) z1 z2 μ
        else
          lt (w32 (z2 + 1)) fun x1 =>
          k_X12_open_7 n z1 x1 μ))
    else
      k_X12_open_96 FU z1 0 μ
set_option maxHeartbeats 4000000 in
set_option maxRecDepth 100000 in
theorem w_X12_open_7 {G : GX} {u : Int × GM} (C : CX G 1 cX12_open 3 RX12) (hQ : gQV G none u) : ∀ (n : Nat) (z1 : Int) (hz1 : r32 z1) (z2 : Int) (hz2 : r32 z2) (μ : GM) (hμ : gRg μ), k_X12_open_7 n z1 z2 μ = some u → WM G 3 μ 7 [(0, gR G 53), (1, vI z1), (2, vI z2)] [] := by
  intro n
  induction n with
  | zero =>
    intro z1 hz1 z2 hz2 μ hμ h
    cases h
  | succ n ih =>
    intro z1 hz1 z2 hz2 μ hμ h
    rw [k_X12_open_7] at h
    refine o_iload_n C 2 dX12_open_7 rfl rfl ?_
    refine o_aload_n C 0 dX12_open_8 rfl rfl ?_
    refine o_getI (j := 5) C kt_53 rfl rfl (Nat.le_of_ble_eq_true rfl) lkf_RX12_164 dX12_open_9 ?_
    refine o_icmp_ge (tgt := 94) C hz2 (hμ.fi kt_53 rfl (by decide)) dX12_open_12 (by decide) h (fun _ h => ?_) (fun _ h => ?_)
    · refine o_iconst C dX12_open_94 ?_
      refine o_istore_n (lv2 := [(2, vI 0), (0, gR G 53), (1, vI z1)]) C dX12_open_95 rfl (by decide) rfl ?_
      exact WM.sub [1, 2, 0] rfl (w_X12_open_96 C hQ FU z1 hz1 0 ⟨by decide, by decide⟩ μ hμ h)
    · refine o_aload_n C 0 dX12_open_15 rfl rfl ?_
      refine o_getR (j := 6) C kt_53 rfl rfl (Nat.le_of_ble_eq_true rfl) lkf_RX12_19 dX12_open_16 ?_
      refine o_iload_n C 2 dX12_open_19 rfl rfl ?_
      refine o_iald C kt_57 rfl hz2 dX12_open_20 h (fun h => ?_)
      refine o_iload_n C 1 dX12_open_21 rfl rfl ?_
      refine o_icmp_eq (tgt := 35) C (hμ.i kt_57 (by decide) _) hz1 dX12_open_22 (by decide) h (fun _ h => ?_) (fun _ h => ?_)
      · exact WM.sub [0, 1, 2] rfl (w_X12_open_35 C hQ ih hz1 hz2 hμ h)
      · refine o_aload_n C 0 dX12_open_25 rfl rfl ?_
        refine o_getR (j := 7) C kt_53 rfl rfl (Nat.le_of_ble_eq_true rfl) lkf_RX12_22 dX12_open_26 ?_
        refine o_iload_n C 2 dX12_open_29 rfl rfl ?_
        refine o_iald C kt_58 rfl hz2 dX12_open_30 h (fun h => ?_)
        refine o_iload_n C 1 dX12_open_31 rfl rfl ?_
        refine o_icmp_ne (tgt := 88) C (hμ.i kt_58 (by decide) _) hz1 dX12_open_32 (by decide) h (fun _ h => ?_) (fun _ h => ?_)
        · refine o_iinc (lv2 := fun x1 => [(2, vI x1), (0, gR G 53), (1, vI z1)]) C 2 dX12_open_88 rfl (by decide) (fun _ => rfl) h (fun x1 hx1 h => ?_)
          refine o_goto (tgt := 7) C dX12_open_91 (by decide) ?_
          exact WM.sub [1, 2, 0] rfl (ih z1 hz1 x1 hx1 μ hμ h)
        · exact WM.sub [0, 1, 2] rfl (w_X12_open_35 C hQ ih hz1 hz2 hμ h)
def f_X12_open (z1 : Int) (μ : GM) : Option (Int × GM) :=
  lm (gF μ 53 31 0) fun μ1 =>
  k_X12_open_7 FU z1 0 μ1
set_option maxHeartbeats 4000000 in
set_option maxRecDepth 100000 in
theorem w_X12_open_0 {G : GX} {u : Int × GM} (C : CX G 1 cX12_open 3 RX12) (hQ : gQV G none u) {z1 : Int} (hz1 : r32 z1) {μ : GM} (hμ : gRg μ) (h : f_X12_open z1 μ = some u) : WM G 3 μ 0 [(0, gR G 53), (1, vI z1)] [] := by
  unfold f_X12_open at h
  refine o_aload_n C 0 dX12_open_0 rfl rfl ?_
  refine o_iconst C dX12_open_1 ?_
  refine o_putI (j := 31) C kt_53 rfl rfl tyX12_ok nmX12 (Nat.le_of_ble_eq_true rfl) lkf_RX12_261 rfl rfl ⟨by decide, by decide⟩ hμ dX12_open_2 h (fun μ1 hμ1 h => ?_)
  refine o_iconst C dX12_open_5 ?_
  refine o_istore_n (lv2 := [(2, vI 0), (0, gR G 53), (1, vI z1)]) C dX12_open_6 rfl (by decide) rfl ?_
  exact WM.sub [1, 2, 0] rfl (w_X12_open_7 C hQ FU z1 hz1 0 ⟨by decide, by decide⟩ μ1 hμ1 h)
theorem c_X12_open {z1 : Int} (hz1 : r32 z1) {μ : GM} (hμ : gRg μ) {u : Int × GM} (h : f_X12_open z1 μ = some u) : MtV 1 yX12_open cX12_open 3 none (fun ad => [.ref (ad 53), vI z1]) μ u := MtV.of pf_X12_open (fun _ => Nat.le_of_ble_eq_true rfl) (fun G C hQ => w_X12_open_0 C hQ hz1 hμ h)
def k_X12_greatest_5 : Nat → Int → Int → GM → Option (Int × GM)
  | 0, _, _, _ => none
  | n + 1, z1, z2, μ =>
    if z2 < (μ.2 53 31) then
      if z1 = (-10000009) then
        lt (w32 (z2 + 1)) fun x1 =>
        k_X12_greatest_5 n z2 x1 μ
      else
        ck (0 ≤ z2 ∧ z2 < 20) (
        ck (0 ≤ z1 ∧ z1 < 20) (
        if (μ.1 78 z1) < (μ.1 78 z2) then
          lt (w32 (z2 + 1)) fun x3 =>
          k_X12_greatest_5 n z2 x3 μ
        else
          lt (w32 (z2 + 1)) fun x2 =>
          k_X12_greatest_5 n z1 x2 μ))
    else
      some (z1, μ)
set_option maxHeartbeats 4000000 in
set_option maxRecDepth 100000 in
theorem w_X12_greatest_5 {G : GX} {u : Int × GM} (C : CX G 0 cX12_greatest 3 RX12) (hQ : gQI G (some .int) u) : ∀ (n : Nat) (z1 : Int) (hz1 : r32 z1) (z2 : Int) (hz2 : r32 z2) (μ : GM) (hμ : gRg μ), k_X12_greatest_5 n z1 z2 μ = some u → WM G 3 μ 5 [(0, gR G 53), (1, vI z1), (2, vI z2)] [] := by
  intro n
  induction n with
  | zero =>
    intro z1 hz1 z2 hz2 μ hμ h
    cases h
  | succ n ih =>
    intro z1 hz1 z2 hz2 μ hμ h
    rw [k_X12_greatest_5] at h
    refine o_iload_n C 2 dX12_greatest_5 rfl rfl ?_
    refine o_aload_n C 0 dX12_greatest_6 rfl rfl ?_
    refine o_getI (j := 31) C kt_53 rfl rfl (Nat.le_of_ble_eq_true rfl) lkf_RX12_261 dX12_greatest_7 ?_
    refine o_icmp_ge (tgt := 47) C hz2 (hμ.fi kt_53 rfl (by decide)) dX12_greatest_10 (by decide) h (fun _ h => ?_) (fun _ h => ?_)
    · refine o_iload_n C 1 dX12_greatest_47 rfl rfl ?_
      exact o_iret C hQ dX12_greatest_48 h hz1 hμ
    · refine o_iload_n C 1 dX12_greatest_13 rfl rfl ?_
      refine o_ldc (v := (-10000009)) C lkc_RX12_132 rfl dX12_greatest_14 ?_
      refine o_icmp_eq (tgt := 35) C hz1 ⟨by decide, by decide⟩ dX12_greatest_16 (by decide) h (fun _ h => ?_) (fun _ h => ?_)
      · refine o_iload_n C 2 dX12_greatest_35 rfl rfl ?_
        refine o_goto (tgt := 40) C dX12_greatest_36 (by decide) ?_
        refine o_istore_n (lv2 := [(1, vI z2), (0, gR G 53), (2, vI z2)]) C dX12_greatest_40 rfl (by decide) rfl ?_
        refine o_iinc (lv2 := fun x1 => [(2, vI x1), (1, vI z2), (0, gR G 53)]) C 2 dX12_greatest_41 rfl (by decide) (fun _ => rfl) h (fun x1 hx1 h => ?_)
        refine o_goto (tgt := 5) C dX12_greatest_44 (by decide) ?_
        exact WM.sub [2, 1, 0] rfl (ih z2 hz2 x1 hx1 μ hμ h)
      · refine o_aload_n C 0 dX12_greatest_19 rfl rfl ?_
        refine o_getR (j := 33) C kt_53 rfl rfl (Nat.le_of_ble_eq_true rfl) lkf_RX12_83 dX12_greatest_20 ?_
        refine o_iload_n C 2 dX12_greatest_23 rfl rfl ?_
        refine o_lald C kt_78 rfl hz2 dX12_greatest_24 h (fun h => ?_)
        refine o_aload_n C 0 dX12_greatest_25 rfl rfl ?_
        refine o_getR (j := 33) C kt_53 rfl rfl (Nat.le_of_ble_eq_true rfl) lkf_RX12_83 dX12_greatest_26 ?_
        refine o_iload_n C 1 dX12_greatest_29 rfl rfl ?_
        refine o_lald C kt_78 rfl hz1 dX12_greatest_30 h (fun h => ?_)
        refine o_lcmp_le (tgt := 39) C (hμ.l kt_78 _) (hμ.l kt_78 _) dX12_greatest_31 dX12_greatest_32 (by decide) h (fun _ h => ?_) (fun _ h => ?_)
        · refine o_iload_n C 1 dX12_greatest_39 rfl rfl ?_
          refine o_istore_n (lv2 := [(1, vI z1), (0, gR G 53), (2, vI z2)]) C dX12_greatest_40 rfl (by decide) rfl ?_
          refine o_iinc (lv2 := fun x2 => [(2, vI x2), (1, vI z1), (0, gR G 53)]) C 2 dX12_greatest_41 rfl (by decide) (fun _ => rfl) h (fun x2 hx2 h => ?_)
          refine o_goto (tgt := 5) C dX12_greatest_44 (by decide) ?_
          exact WM.sub [2, 1, 0] rfl (ih z1 hz1 x2 hx2 μ hμ h)
        · refine o_iload_n C 2 dX12_greatest_35 rfl rfl ?_
          refine o_goto (tgt := 40) C dX12_greatest_36 (by decide) ?_
          refine o_istore_n (lv2 := [(1, vI z2), (0, gR G 53), (2, vI z2)]) C dX12_greatest_40 rfl (by decide) rfl ?_
          refine o_iinc (lv2 := fun x3 => [(2, vI x3), (1, vI z2), (0, gR G 53)]) C 2 dX12_greatest_41 rfl (by decide) (fun _ => rfl) h (fun x3 hx3 h => ?_)
          refine o_goto (tgt := 5) C dX12_greatest_44 (by decide) ?_
          exact WM.sub [2, 1, 0] rfl (ih z2 hz2 x3 hx3 μ hμ h)
def f_X12_greatest (μ : GM) : Option (Int × GM) :=
  k_X12_greatest_5 FU (-10000009) 0 μ
set_option maxHeartbeats 4000000 in
set_option maxRecDepth 100000 in
theorem w_X12_greatest_0 {G : GX} {u : Int × GM} (C : CX G 0 cX12_greatest 3 RX12) (hQ : gQI G (some .int) u) {μ : GM} (hμ : gRg μ) (h : f_X12_greatest μ = some u) : WM G 3 μ 0 [(0, gR G 53)] [] := by
  unfold f_X12_greatest at h
  refine o_ldc (v := (-10000009)) C lkc_RX12_132 rfl dX12_greatest_0 ?_
  refine o_istore_n (lv2 := [(1, vI (-10000009)), (0, gR G 53)]) C dX12_greatest_2 rfl (by decide) rfl ?_
  refine o_iconst C dX12_greatest_3 ?_
  refine o_istore_n (lv2 := [(2, vI 0), (1, vI (-10000009)), (0, gR G 53)]) C dX12_greatest_4 rfl (by decide) rfl ?_
  exact WM.sub [2, 1, 0] rfl (w_X12_greatest_5 C hQ FU (-10000009) ⟨by decide, by decide⟩ 0 ⟨by decide, by decide⟩ μ hμ h)
theorem c_X12_greatest {μ : GM} (hμ : gRg μ) {u : Int × GM} (h : f_X12_greatest μ = some u) : MtI 0 yX12_greatest cX12_greatest 3 (some .int) (fun ad => [.ref (ad 53)]) μ u := MtI.of pf_X12_greatest (fun _ => Nat.le_of_ble_eq_true rfl) (fun G C hQ => w_X12_greatest_0 C hQ hμ h)
def k_X12_allFlow_4 : Nat → Int → Int → GM → Option (Int × GM)
  | 0, _, _, _ => none
  | n + 1, z1, z3, μ =>
    if z3 < (μ.2 53 31) then
      ck (0 ≤ z3 ∧ z3 < 20) (
      lt (w64 (z1 + (μ.1 78 z3))) fun x1 =>
      lt (w32 (z3 + 1)) fun x2 =>
      k_X12_allFlow_4 n x1 x2 μ)
    else
      some (z1, μ)
set_option maxHeartbeats 4000000 in
set_option maxRecDepth 100000 in
theorem w_X12_allFlow_4 {G : GX} {u : Int × GM} (C : CX G 0 cX12_allFlow 4 RX12) (hQ : gQL G (some .long) u) : ∀ (n : Nat) (z1 : Int) (hz1 : r64 z1) (z3 : Int) (hz3 : r32 z3) (μ : GM) (hμ : gRg μ), k_X12_allFlow_4 n z1 z3 μ = some u → WM G 4 μ 4 [(0, gR G 53), (1, vJ z1), (3, vI z3)] [] := by
  intro n
  induction n with
  | zero =>
    intro z1 hz1 z3 hz3 μ hμ h
    cases h
  | succ n ih =>
    intro z1 hz1 z3 hz3 μ hμ h
    rw [k_X12_allFlow_4] at h
    refine o_iload_n C 2 dX12_allFlow_4 rfl rfl ?_
    refine o_aload_n C 0 dX12_allFlow_5 rfl rfl ?_
    refine o_getI (j := 31) C kt_53 rfl rfl (Nat.le_of_ble_eq_true rfl) lkf_RX12_261 dX12_allFlow_6 ?_
    refine o_icmp_ge (tgt := 27) C hz3 (hμ.fi kt_53 rfl (by decide)) dX12_allFlow_9 (by decide) h (fun _ h => ?_) (fun _ h => ?_)
    · refine o_lload_n C 1 dX12_allFlow_27 rfl rfl ?_
      exact o_lret C hQ dX12_allFlow_28 h hz1 hμ
    · refine o_lload_n C 1 dX12_allFlow_12 rfl rfl ?_
      refine o_aload_n C 0 dX12_allFlow_13 rfl rfl ?_
      refine o_getR (j := 33) C kt_53 rfl rfl (Nat.le_of_ble_eq_true rfl) lkf_RX12_83 dX12_allFlow_14 ?_
      refine o_iload_n C 2 dX12_allFlow_17 rfl rfl ?_
      refine o_lald C kt_78 rfl hz3 dX12_allFlow_18 h (fun h => ?_)
      refine o_ladd C dX12_allFlow_19 ?_
      refine o_ltl h (r64_w _) (fun x1 hx1 h => ?_)
      refine o_lstore_n (lv2 := [(1, vJ x1), (0, gR G 53), (3, vI z3)]) C dX12_allFlow_20 rfl (by decide) rfl ?_
      refine o_iinc (lv2 := fun x2 => [(3, vI x2), (1, vJ x1), (0, gR G 53)]) C 2 dX12_allFlow_21 rfl (by decide) (fun _ => rfl) h (fun x2 hx2 h => ?_)
      refine o_goto (tgt := 4) C dX12_allFlow_24 (by decide) ?_
      exact WM.sub [2, 1, 0] rfl (ih x1 hx1 x2 hx2 μ hμ h)
def f_X12_allFlow (μ : GM) : Option (Int × GM) :=
  k_X12_allFlow_4 FU 0 0 μ
set_option maxHeartbeats 4000000 in
set_option maxRecDepth 100000 in
theorem w_X12_allFlow_0 {G : GX} {u : Int × GM} (C : CX G 0 cX12_allFlow 4 RX12) (hQ : gQL G (some .long) u) {μ : GM} (hμ : gRg μ) (h : f_X12_allFlow μ = some u) : WM G 4 μ 0 [(0, gR G 53)] [] := by
  unfold f_X12_allFlow at h
  refine o_lconst (v := 0) C dX12_allFlow_0 rfl ?_
  refine o_lstore_n (lv2 := [(1, vJ 0), (0, gR G 53)]) C dX12_allFlow_1 rfl (by decide) rfl ?_
  refine o_iconst C dX12_allFlow_2 ?_
  refine o_istore_n (lv2 := [(3, vI 0), (1, vJ 0), (0, gR G 53)]) C dX12_allFlow_3 rfl (by decide) rfl ?_
  exact WM.sub [2, 1, 0] rfl (w_X12_allFlow_4 C hQ FU 0 ⟨by decide, by decide⟩ 0 ⟨by decide, by decide⟩ μ hμ h)
theorem c_X12_allFlow {μ : GM} (hμ : gRg μ) {u : Int × GM} (h : f_X12_allFlow μ = some u) : MtL 0 yX12_allFlow cX12_allFlow 4 (some .long) (fun ad => [.ref (ad 53)]) μ u := MtL.of pf_X12_allFlow (fun _ => Nat.le_of_ble_eq_true rfl) (fun G C hQ => w_X12_allFlow_0 C hQ hμ h)
def f_X12_nextOf (z1 : Int) (μ : GM) : Option (Int × GM) :=
  bd (f_X12_open z1 μ) fun _x1 μ2 =>
  bd (f_X12_greatest μ2) fun x3 μ4 =>
  if x3 = (-10000009) then
    some ((-10000009), μ4)
  else
    ck (0 ≤ x3 ∧ x3 < 20) (
    some ((μ4.1 77 x3), μ4))
set_option maxHeartbeats 4000000 in
set_option maxRecDepth 100000 in
theorem w_X12_nextOf_0 {G : GX} {u : Int × GM} (C : CX G 2 cX12_nextOf 3 RX12) (hQ : gQI G (some .int) u) {z1 : Int} (hz1 : r32 z1) {μ : GM} (hμ : gRg μ) (h : f_X12_nextOf z1 μ = some u) : WM G 3 μ 0 [(0, gR G 53), (1, vI z1)] [] := by
  unfold f_X12_nextOf at h
  refine o_aload_n C 0 dX12_nextOf_0 rfl rfl ?_
  refine o_iload_n C 1 dX12_nextOf_1 rfl rfl ?_
  refine o_cVV C [vI z1] mb_X12_open (by decide) (fun _ hu => c_X12_open hz1 hμ hu) rfl (Nat.le_of_ble_eq_true rfl) h mi_X12_open me_X12_open lkm_RX12_268 kt_53 rfl rfl rfl dX12_nextOf_2 (fun _x1 μ2 hμ2 h => ?_)
  refine o_aload_n C 0 dX12_nextOf_5 rfl rfl ?_
  refine o_cVI C [] mb_X12_greatest (by decide) (fun _ hu => c_X12_greatest hμ2 hu) rfl (Nat.le_of_ble_eq_true rfl) h mi_X12_greatest me_X12_greatest lkm_RX12_271 kt_53 rfl rfl rfl dX12_nextOf_6 (fun x3 μ4 hx3 hμ4 h => ?_)
  refine o_istore_n (lv2 := [(2, vI x3), (0, gR G 53), (1, vI z1)]) C dX12_nextOf_9 rfl (by decide) rfl ?_
  refine o_iload_n C 0 dX12_nextOf_10 rfl rfl ?_
  refine o_ldc (v := (-10000009)) C lkc_RX12_132 rfl dX12_nextOf_11 ?_
  refine o_icmp_ne (tgt := 21) C hx3 ⟨by decide, by decide⟩ dX12_nextOf_13 (by decide) h (fun _ h => ?_) (fun _ h => ?_)
  · refine o_aload_n C 1 dX12_nextOf_21 rfl rfl ?_
    refine o_getR (j := 32) C kt_53 rfl rfl (Nat.le_of_ble_eq_true rfl) lkf_RX12_80 dX12_nextOf_22 ?_
    refine o_iload_n C 0 dX12_nextOf_25 rfl rfl ?_
    refine o_iald C kt_77 rfl hx3 dX12_nextOf_26 h (fun h => ?_)
    exact o_iret C hQ dX12_nextOf_27 h (hμ4.i kt_77 (by decide) _) hμ4
  · refine o_ldc (v := (-10000009)) C lkc_RX12_132 rfl dX12_nextOf_16 ?_
    refine o_goto (tgt := 27) C dX12_nextOf_18 (by decide) ?_
    exact o_iret C hQ dX12_nextOf_27 h ⟨by decide, by decide⟩ hμ4
theorem c_X12_nextOf {z1 : Int} (hz1 : r32 z1) {μ : GM} (hμ : gRg μ) {u : Int × GM} (h : f_X12_nextOf z1 μ = some u) : MtI 2 yX12_nextOf cX12_nextOf 3 (some .int) (fun ad => [.ref (ad 53), vI z1]) μ u := MtI.of pf_X12_nextOf (fun _ => Nat.le_of_ble_eq_true rfl) (fun G C hQ => w_X12_nextOf_0 C hQ hz1 hμ h)
def k_X12_way_68 (z3 : Int) (μ : GM) : Option (Int × GM) :=
  bd (f_X12_in z3 0 5 μ) fun x1 μ2 =>
  if x1 = 0 then
    some ((-10000009), μ2)
  else
    some (z3, μ2)
set_option maxHeartbeats 4000000 in
set_option maxRecDepth 100000 in
theorem w_X12_way_68 {G : GX} {u : Int × GM} (C : CX G 5 cX12_way 5 RX12) (hQ : gQI G (some .int) u) {z3 : Int} (hz3 : r32 z3) {μ : GM} (hμ : gRg μ) (h : k_X12_way_68 z3 μ = some u) : WM G 5 μ 68 [(3, vI z3)] [] := by
  unfold k_X12_way_68 at h
  refine o_iload_n C 0 dX12_way_68 rfl rfl ?_
  refine o_i2l C hz3 dX12_way_69 ?_
  refine o_lconst (v := 0) C dX12_way_70 rfl ?_
  refine o_ldc2 (v := 5) C lkc_RX12_275 rfl dX12_way_71 ?_
  refine o_cSI C [vJ z3, vJ 0, vJ 5] mb_X12_in (by decide) (fun _ hu => c_X12_in (r32_r64 hz3) ⟨by decide, by decide⟩ ⟨by decide, by decide⟩ hμ hu) rfl (Nat.le_of_ble_eq_true rfl) h ms_X12_in lkm_RX12_140 rfl rfl dX12_way_74 (fun x1 μ2 hx1 hμ2 h => ?_)
  refine o_if_eq (tgt := 84) C hx1 dX12_way_77 (by decide) h (fun _ h => ?_) (fun _ h => ?_)
  · refine o_ldc (v := (-10000009)) C lkc_RX12_132 rfl dX12_way_84 ?_
    exact o_iret C hQ dX12_way_86 h ⟨by decide, by decide⟩ hμ2
  · refine o_iload_n C 0 dX12_way_80 rfl rfl ?_
    refine o_goto (tgt := 86) C dX12_way_81 (by decide) ?_
    exact o_iret C hQ dX12_way_86 h hz3 hμ2
def k_X12_way_38 : Nat → Int → Int → Int → GM → Option (Int × GM)
  | 0, _, _, _, _ => none
  | n + 1, z2, z3, z4, μ =>
    if z4 < z2 then
      bd (f_X12_in z3 0 5 μ) fun x1 μ2 =>
      if x1 = 0 then
        k_X12_way_68 z3 μ2
      else
        bd (f_X12_nextOf z3 μ2) fun x3 μ4 =>
        lt (w32 (z4 + 1)) fun x5 =>
        k_X12_way_38 n z2 x3 x5 μ4
    else
      k_X12_way_68 z3 μ
set_option maxHeartbeats 4000000 in
set_option maxRecDepth 100000 in
theorem w_X12_way_38 {G : GX} {u : Int × GM} (C : CX G 5 cX12_way 5 RX12) (hQ : gQI G (some .int) u) : ∀ (n : Nat) (z2 : Int) (hz2 : r32 z2) (z3 : Int) (hz3 : r32 z3) (z4 : Int) (hz4 : r32 z4) (μ : GM) (hμ : gRg μ), k_X12_way_38 n z2 z3 z4 μ = some u → WM G 5 μ 38 [(0, gR G 53), (2, vI z2), (3, vI z3), (4, vI z4)] [] := by
  intro n
  induction n with
  | zero =>
    intro z2 hz2 z3 hz3 z4 hz4 μ hμ h
    cases h
  | succ n ih =>
    intro z2 hz2 z3 hz3 z4 hz4 μ hμ h
    rw [k_X12_way_38] at h
    refine o_iload C 3 dX12_way_38 rfl ?_
    refine o_iload_n C 1 dX12_way_40 rfl rfl ?_
    refine o_icmp_ge (tgt := 68) C hz4 hz2 dX12_way_41 (by decide) h (fun _ h => ?_) (fun _ h => ?_)
    · exact WM.sub [2] rfl (w_X12_way_68 C hQ hz3 hμ h)
    · refine o_iload_n C 2 dX12_way_44 rfl rfl ?_
      refine o_i2l C hz3 dX12_way_45 ?_
      refine o_lconst (v := 0) C dX12_way_46 rfl ?_
      refine o_ldc2 (v := 5) C lkc_RX12_275 rfl dX12_way_47 ?_
      refine o_cSI C [vJ z3, vJ 0, vJ 5] mb_X12_in (by decide) (fun _ hu => c_X12_in (r32_r64 hz3) ⟨by decide, by decide⟩ ⟨by decide, by decide⟩ hμ hu) rfl (Nat.le_of_ble_eq_true rfl) h ms_X12_in lkm_RX12_140 rfl rfl dX12_way_50 (fun x1 μ2 hx1 hμ2 h => ?_)
      refine o_if_eq (tgt := 68) C hx1 dX12_way_53 (by decide) h (fun _ h => ?_) (fun _ h => ?_)
      · exact WM.sub [2] rfl (w_X12_way_68 C hQ hz3 hμ2 h)
      · refine o_aload_n C 0 dX12_way_56 rfl rfl ?_
        refine o_iload_n C 2 dX12_way_57 rfl rfl ?_
        refine o_cVI C [vI z3] mb_X12_nextOf (by decide) (fun _ hu => c_X12_nextOf hz3 hμ2 hu) rfl (Nat.le_of_ble_eq_true rfl) h mi_X12_nextOf me_X12_nextOf lkm_RX12_277 kt_53 rfl rfl rfl dX12_way_58 (fun x3 μ4 hx3 hμ4 h => ?_)
        refine o_istore_n (lv2 := [(3, vI x3), (0, gR G 53), (2, vI z2), (4, vI z4)]) C dX12_way_61 rfl (by decide) rfl ?_
        refine o_iinc (lv2 := fun x5 => [(4, vI x5), (3, vI x3), (0, gR G 53), (2, vI z2)]) C 3 dX12_way_62 rfl (by decide) (fun _ => rfl) h (fun x5 hx5 h => ?_)
        refine o_goto (tgt := 38) C dX12_way_65 (by decide) ?_
        exact WM.sub [2, 3, 1, 0] rfl (ih z2 hz2 x3 hx3 x5 hx5 μ4 hμ4 h)
def f_X12_way (z1 : Int) (z2 : Int) (μ : GM) : Option (Int × GM) :=
  lm (gF μ 53 0 0) fun μ1 =>
  bd (f_X12_noCell z1 μ1) fun x2 μ3 =>
  if x2 = 0 then
    bd (f_X12_rests μ3) fun x4 μ5 =>
    if x4 = 0 then
      some ((-10000003), μ5)
    else
      if z2 < 0 then
        some ((-10000009), μ5)
      else
        k_X12_way_38 FU z2 z1 0 μ5
  else
    some ((-10000001), μ3)
set_option maxHeartbeats 4000000 in
set_option maxRecDepth 100000 in
theorem w_X12_way_0 {G : GX} {u : Int × GM} (C : CX G 5 cX12_way 5 RX12) (hQ : gQI G (some .int) u) {z1 : Int} (hz1 : r32 z1) {z2 : Int} (hz2 : r32 z2) {μ : GM} (hμ : gRg μ) (h : f_X12_way z1 z2 μ = some u) : WM G 5 μ 0 [(0, gR G 53), (1, vI z1), (2, vI z2)] [] := by
  unfold f_X12_way at h
  refine o_aload_n C 0 dX12_way_0 rfl rfl ?_
  refine o_iconst C dX12_way_1 ?_
  refine o_putI (j := 0) C kt_53 rfl rfl tyX12_ok nmX12 (Nat.le_of_ble_eq_true rfl) lkf_RX12_133 rfl rfl ⟨by decide, by decide⟩ hμ dX12_way_2 h (fun μ1 hμ1 h => ?_)
  refine o_aload_n C 0 dX12_way_5 rfl rfl ?_
  refine o_iload_n C 1 dX12_way_6 rfl rfl ?_
  refine o_cVI C [vI z1] mb_X12_noCell (by decide) (fun _ hu => c_X12_noCell hz1 hμ1 hu) rfl (Nat.le_of_ble_eq_true rfl) h mi_X12_noCell me_X12_noCell lkm_RX12_155 kt_53 rfl rfl rfl dX12_way_7 (fun x2 μ3 hx2 hμ3 h => ?_)
  refine o_if_eq (tgt := 16) C hx2 dX12_way_10 (by decide) h (fun _ h => ?_) (fun _ h => ?_)
  · refine o_aload_n C 0 dX12_way_16 rfl rfl ?_
    refine o_cVI C [] mb_X12_rests (by decide) (fun _ hu => c_X12_rests hμ3 hu) rfl (Nat.le_of_ble_eq_true rfl) h mi_X12_rests me_X12_rests lkm_RX12_229 kt_53 rfl rfl rfl dX12_way_17 (fun x4 μ5 hx4 hμ5 h => ?_)
    refine o_if_ne (tgt := 26) C hx4 dX12_way_20 (by decide) h (fun _ h => ?_) (fun _ h => ?_)
    · refine o_iload_n C 2 dX12_way_26 rfl rfl ?_
      refine o_if_ge (tgt := 33) C hz2 dX12_way_27 (by decide) h (fun _ h => ?_) (fun _ h => ?_)
      · refine o_iload_n C 1 dX12_way_33 rfl rfl ?_
        refine o_istore_n (lv2 := [(3, vI z1), (0, gR G 53), (1, vI z1), (2, vI z2)]) C dX12_way_34 rfl (by decide) rfl ?_
        refine o_iconst C dX12_way_35 ?_
        refine o_istore (lv2 := [(4, vI 0), (3, vI z1), (0, gR G 53), (1, vI z1), (2, vI z2)]) C dX12_way_36 (by decide) rfl ?_
        exact WM.sub [2, 4, 1, 0] rfl (w_X12_way_38 C hQ FU z2 hz2 z1 hz1 0 ⟨by decide, by decide⟩ μ5 hμ5 h)
      · refine o_ldc (v := (-10000009)) C lkc_RX12_132 rfl dX12_way_30 ?_
        exact o_iret C hQ dX12_way_32 h ⟨by decide, by decide⟩ hμ5
    · refine o_ldc (v := (-10000003)) C lkc_RX12_163 rfl dX12_way_23 ?_
      exact o_iret C hQ dX12_way_25 h ⟨by decide, by decide⟩ hμ5
  · refine o_ldc (v := (-10000001)) C lkc_RX12_159 rfl dX12_way_13 ?_
    exact o_iret C hQ dX12_way_15 h ⟨by decide, by decide⟩ hμ3
theorem c_X12_way {z1 : Int} (hz1 : r32 z1) {z2 : Int} (hz2 : r32 z2) {μ : GM} (hμ : gRg μ) {u : Int × GM} (h : f_X12_way z1 z2 μ = some u) : MtI 5 yX12_way cX12_way 5 (some .int) (fun ad => [.ref (ad 53), vI z1, vI z2]) μ u := MtI.of pf_X12_way (fun _ => Nat.le_of_ble_eq_true rfl) (fun G C hQ => w_X12_way_0 C hQ hz1 hz2 hμ h)
def k_X12_end_28 : Nat → Int → GM → Option (Int × GM)
  | 0, _, _ => none
  | n + 1, z2, μ =>
    bd (f_X12_in z2 0 5 μ) fun x1 μ2 =>
    if x1 = 0 then
      some (z2, μ2)
    else
      bd (f_X12_nextOf z2 μ2) fun x3 μ4 =>
      k_X12_end_28 n x3 μ4
set_option maxHeartbeats 4000000 in
set_option maxRecDepth 100000 in
theorem w_X12_end_28 {G : GX} {u : Int × GM} (C : CX G 5 cX12_end 3 RX12) (hQ : gQI G (some .int) u) : ∀ (n : Nat) (z2 : Int) (hz2 : r32 z2) (μ : GM) (hμ : gRg μ), k_X12_end_28 n z2 μ = some u → WM G 3 μ 28 [(0, gR G 53), (2, vI z2)] [] := by
  intro n
  induction n with
  | zero =>
    intro z2 hz2 μ hμ h
    cases h
  | succ n ih =>
    intro z2 hz2 μ hμ h
    rw [k_X12_end_28] at h
    refine o_iload_n C 1 dX12_end_28 rfl rfl ?_
    refine o_i2l C hz2 dX12_end_29 ?_
    refine o_lconst (v := 0) C dX12_end_30 rfl ?_
    refine o_ldc2 (v := 5) C lkc_RX12_275 rfl dX12_end_31 ?_
    refine o_cSI C [vJ z2, vJ 0, vJ 5] mb_X12_in (by decide) (fun _ hu => c_X12_in (r32_r64 hz2) ⟨by decide, by decide⟩ ⟨by decide, by decide⟩ hμ hu) rfl (Nat.le_of_ble_eq_true rfl) h ms_X12_in lkm_RX12_140 rfl rfl dX12_end_34 (fun x1 μ2 hx1 hμ2 h => ?_)
    refine o_if_eq (tgt := 49) C hx1 dX12_end_37 (by decide) h (fun _ h => ?_) (fun _ h => ?_)
    · refine o_iload_n C 1 dX12_end_49 rfl rfl ?_
      exact o_iret C hQ dX12_end_50 h hz2 hμ2
    · refine o_aload_n C 0 dX12_end_40 rfl rfl ?_
      refine o_iload_n C 1 dX12_end_41 rfl rfl ?_
      refine o_cVI C [vI z2] mb_X12_nextOf (by decide) (fun _ hu => c_X12_nextOf hz2 hμ2 hu) rfl (Nat.le_of_ble_eq_true rfl) h mi_X12_nextOf me_X12_nextOf lkm_RX12_277 kt_53 rfl rfl rfl dX12_end_42 (fun x3 μ4 hx3 hμ4 h => ?_)
      refine o_istore_n (lv2 := [(2, vI x3), (0, gR G 53)]) C dX12_end_45 rfl (by decide) rfl ?_
      refine o_goto (tgt := 28) C dX12_end_46 (by decide) ?_
      exact WM.sub [1, 0] rfl (ih x3 hx3 μ4 hμ4 h)
def f_X12_end (z1 : Int) (μ : GM) : Option (Int × GM) :=
  lm (gF μ 53 0 0) fun μ1 =>
  bd (f_X12_noCell z1 μ1) fun x2 μ3 =>
  if x2 = 0 then
    bd (f_X12_rests μ3) fun x4 μ5 =>
    if x4 = 0 then
      some ((-10000003), μ5)
    else
      k_X12_end_28 FU z1 μ5
  else
    some ((-10000001), μ3)
set_option maxHeartbeats 4000000 in
set_option maxRecDepth 100000 in
theorem w_X12_end_0 {G : GX} {u : Int × GM} (C : CX G 5 cX12_end 3 RX12) (hQ : gQI G (some .int) u) {z1 : Int} (hz1 : r32 z1) {μ : GM} (hμ : gRg μ) (h : f_X12_end z1 μ = some u) : WM G 3 μ 0 [(0, gR G 53), (1, vI z1)] [] := by
  unfold f_X12_end at h
  refine o_aload_n C 0 dX12_end_0 rfl rfl ?_
  refine o_iconst C dX12_end_1 ?_
  refine o_putI (j := 0) C kt_53 rfl rfl tyX12_ok nmX12 (Nat.le_of_ble_eq_true rfl) lkf_RX12_133 rfl rfl ⟨by decide, by decide⟩ hμ dX12_end_2 h (fun μ1 hμ1 h => ?_)
  refine o_aload_n C 0 dX12_end_5 rfl rfl ?_
  refine o_iload_n C 1 dX12_end_6 rfl rfl ?_
  refine o_cVI C [vI z1] mb_X12_noCell (by decide) (fun _ hu => c_X12_noCell hz1 hμ1 hu) rfl (Nat.le_of_ble_eq_true rfl) h mi_X12_noCell me_X12_noCell lkm_RX12_155 kt_53 rfl rfl rfl dX12_end_7 (fun x2 μ3 hx2 hμ3 h => ?_)
  refine o_if_eq (tgt := 16) C hx2 dX12_end_10 (by decide) h (fun _ h => ?_) (fun _ h => ?_)
  · refine o_aload_n C 0 dX12_end_16 rfl rfl ?_
    refine o_cVI C [] mb_X12_rests (by decide) (fun _ hu => c_X12_rests hμ3 hu) rfl (Nat.le_of_ble_eq_true rfl) h mi_X12_rests me_X12_rests lkm_RX12_229 kt_53 rfl rfl rfl dX12_end_17 (fun x4 μ5 hx4 hμ5 h => ?_)
    refine o_if_ne (tgt := 26) C hx4 dX12_end_20 (by decide) h (fun _ h => ?_) (fun _ h => ?_)
    · refine o_iload_n C 1 dX12_end_26 rfl rfl ?_
      refine o_istore_n (lv2 := [(2, vI z1), (0, gR G 53), (1, vI z1)]) C dX12_end_27 rfl (by decide) rfl ?_
      exact WM.sub [1, 0] rfl (w_X12_end_28 C hQ FU z1 hz1 μ5 hμ5 h)
    · refine o_ldc (v := (-10000003)) C lkc_RX12_163 rfl dX12_end_23 ?_
      exact o_iret C hQ dX12_end_25 h ⟨by decide, by decide⟩ hμ5
  · refine o_ldc (v := (-10000001)) C lkc_RX12_159 rfl dX12_end_13 ?_
    exact o_iret C hQ dX12_end_15 h ⟨by decide, by decide⟩ hμ3
theorem c_X12_end {z1 : Int} (hz1 : r32 z1) {μ : GM} (hμ : gRg μ) {u : Int × GM} (h : f_X12_end z1 μ = some u) : MtI 5 yX12_end cX12_end 3 (some .int) (fun ad => [.ref (ad 53), vI z1]) μ u := MtI.of pf_X12_end (fun _ => Nat.le_of_ble_eq_true rfl) (fun G C hQ => w_X12_end_0 C hQ hz1 hμ h)
def f_X12_waterOf (z1 : Int) (μ : GM) : Option (Int × GM) :=
  bd (f_X12_isDry z1 μ) fun x1 μ2 =>
  if x1 = 0 then
    ck (0 ≤ z1 ∧ z1 < 6) (
    ck (0 ≤ z1 ∧ z1 < 6) (
    ck (0 ≤ z1 ∧ z1 < 6) (
    some ((w64 ((μ2.1 56 z1) * (w64 ((μ2.1 71 z1) - (w64 ((μ2.1 54 z1) * (μ2.2 53 24))))))), μ2))))
  else
    some (0, μ2)
set_option maxHeartbeats 4000000 in
set_option maxRecDepth 100000 in
theorem w_X12_waterOf_0 {G : GX} {u : Int × GM} (C : CX G 1 cX12_waterOf 2 RX12) (hQ : gQL G (some .long) u) {z1 : Int} (hz1 : r32 z1) {μ : GM} (hμ : gRg μ) (h : f_X12_waterOf z1 μ = some u) : WM G 2 μ 0 [(0, gR G 53), (1, vI z1)] [] := by
  unfold f_X12_waterOf at h
  refine o_aload_n C 0 dX12_waterOf_0 rfl rfl ?_
  refine o_iload_n C 1 dX12_waterOf_1 rfl rfl ?_
  refine o_cVI C [vI z1] mb_X12_isDry (by decide) (fun _ hu => c_X12_isDry hz1 hμ hu) rfl (Nat.le_of_ble_eq_true rfl) h mi_X12_isDry me_X12_isDry lkm_RX12_256 kt_53 rfl rfl rfl dX12_waterOf_2 (fun x1 μ2 hx1 hμ2 h => ?_)
  refine o_if_eq (tgt := 12) C hx1 dX12_waterOf_5 (by decide) h (fun _ h => ?_) (fun _ h => ?_)
  · refine o_aload_n C 0 dX12_waterOf_12 rfl rfl ?_
    refine o_getR (j := 4) C kt_53 rfl rfl (Nat.le_of_ble_eq_true rfl) lkf_RX12_16 dX12_waterOf_13 ?_
    refine o_iload_n C 1 dX12_waterOf_16 rfl rfl ?_
    refine o_iald C kt_56 rfl hz1 dX12_waterOf_17 h (fun h => ?_)
    refine o_i2l C (hμ2.i kt_56 (by decide) _) dX12_waterOf_18 ?_
    refine o_aload_n C 0 dX12_waterOf_19 rfl rfl ?_
    refine o_getR (j := 23) C kt_53 rfl rfl (Nat.le_of_ble_eq_true rfl) lkf_RX12_61 dX12_waterOf_20 ?_
    refine o_iload_n C 1 dX12_waterOf_23 rfl rfl ?_
    refine o_lald C kt_71 rfl hz1 dX12_waterOf_24 h (fun h => ?_)
    refine o_aload_n C 0 dX12_waterOf_25 rfl rfl ?_
    refine o_getR (j := 2) C kt_53 rfl rfl (Nat.le_of_ble_eq_true rfl) lkf_RX12_7 dX12_waterOf_26 ?_
    refine o_iload_n C 1 dX12_waterOf_29 rfl rfl ?_
    refine o_iald C kt_54 rfl hz1 dX12_waterOf_30 h (fun h => ?_)
    refine o_i2l C (hμ2.i kt_54 (by decide) _) dX12_waterOf_31 ?_
    refine o_aload_n C 0 dX12_waterOf_32 rfl rfl ?_
    refine o_getJ (j := 24) C kt_53 rfl rfl (Nat.le_of_ble_eq_true rfl) lkf_RX12_211 dX12_waterOf_33 ?_
    refine o_lmul C dX12_waterOf_36 ?_
    refine o_lsub C dX12_waterOf_37 ?_
    refine o_lmul C dX12_waterOf_38 ?_
    exact o_lret C hQ dX12_waterOf_39 h (r64_w _) hμ2
  · refine o_lconst (v := 0) C dX12_waterOf_8 rfl ?_
    refine o_goto (tgt := 39) C dX12_waterOf_9 (by decide) ?_
    exact o_lret C hQ dX12_waterOf_39 h ⟨by decide, by decide⟩ hμ2
theorem c_X12_waterOf {z1 : Int} (hz1 : r32 z1) {μ : GM} (hμ : gRg μ) {u : Int × GM} (h : f_X12_waterOf z1 μ = some u) : MtL 1 yX12_waterOf cX12_waterOf 2 (some .long) (fun ad => [.ref (ad 53), vI z1]) μ u := MtL.of pf_X12_waterOf (fun _ => Nat.le_of_ble_eq_true rfl) (fun G C hQ => w_X12_waterOf_0 C hQ hz1 hμ h)
def f_X12_time (z1 : Int) (z2 : Int) (μ : GM) : Option (Int × GM) :=
  lm (gF μ 53 0 0) fun μ1 =>
  bd (f_X12_noCell z1 μ1) fun x2 μ3 =>
  if x2 = 0 then
    bd (f_X12_rests μ3) fun x4 μ5 =>
    if x4 = 0 then
      some ((-10000003), μ5)
    else
      bd (f_X12_open z1 μ5) fun _x6 μ7 =>
      if (μ7.2 53 31) = 0 then
        some ((-10000009), μ7)
      else
        bd (f_X12_waterOf z1 μ7) fun x8 μ9 =>
        bd (f_X12_allFlow μ9) fun x10 μ11 =>
        bd (f_X12_told x8 x10 z2 μ11) fun x12 μ13 =>
        some (x12, μ13)
  else
    some ((-10000001), μ3)
set_option maxHeartbeats 4000000 in
set_option maxRecDepth 100000 in
theorem w_X12_time_0 {G : GX} {u : Int × GM} (C : CX G 5 cX12_time 3 RX12) (hQ : gQL G (some .long) u) {z1 : Int} (hz1 : r32 z1) {z2 : Int} (hz2 : r32 z2) {μ : GM} (hμ : gRg μ) (h : f_X12_time z1 z2 μ = some u) : WM G 3 μ 0 [(0, gR G 53), (1, vI z1), (2, vI z2)] [] := by
  unfold f_X12_time at h
  refine o_aload_n C 0 dX12_time_0 rfl rfl ?_
  refine o_iconst C dX12_time_1 ?_
  refine o_putI (j := 0) C kt_53 rfl rfl tyX12_ok nmX12 (Nat.le_of_ble_eq_true rfl) lkf_RX12_133 rfl rfl ⟨by decide, by decide⟩ hμ dX12_time_2 h (fun μ1 hμ1 h => ?_)
  refine o_aload_n C 0 dX12_time_5 rfl rfl ?_
  refine o_iload_n C 1 dX12_time_6 rfl rfl ?_
  refine o_cVI C [vI z1] mb_X12_noCell (by decide) (fun _ hu => c_X12_noCell hz1 hμ1 hu) rfl (Nat.le_of_ble_eq_true rfl) h mi_X12_noCell me_X12_noCell lkm_RX12_155 kt_53 rfl rfl rfl dX12_time_7 (fun x2 μ3 hx2 hμ3 h => ?_)
  refine o_if_eq (tgt := 17) C hx2 dX12_time_10 (by decide) h (fun _ h => ?_) (fun _ h => ?_)
  · refine o_aload_n C 0 dX12_time_17 rfl rfl ?_
    refine o_cVI C [] mb_X12_rests (by decide) (fun _ hu => c_X12_rests hμ3 hu) rfl (Nat.le_of_ble_eq_true rfl) h mi_X12_rests me_X12_rests lkm_RX12_229 kt_53 rfl rfl rfl dX12_time_18 (fun x4 μ5 hx4 hμ5 h => ?_)
    refine o_if_ne (tgt := 28) C hx4 dX12_time_21 (by decide) h (fun _ h => ?_) (fun _ h => ?_)
    · refine o_aload_n C 0 dX12_time_28 rfl rfl ?_
      refine o_iload_n C 1 dX12_time_29 rfl rfl ?_
      refine o_cVV C [vI z1] mb_X12_open (by decide) (fun _ hu => c_X12_open hz1 hμ5 hu) rfl (Nat.le_of_ble_eq_true rfl) h mi_X12_open me_X12_open lkm_RX12_268 kt_53 rfl rfl rfl dX12_time_30 (fun _x6 μ7 hμ7 h => ?_)
      refine o_aload_n C 0 dX12_time_33 rfl rfl ?_
      refine o_getI (j := 31) C kt_53 rfl rfl (Nat.le_of_ble_eq_true rfl) lkf_RX12_261 dX12_time_34 ?_
      refine o_if_ne (tgt := 46) C (hμ7.fi kt_53 rfl (by decide)) dX12_time_37 (by decide) h (fun _ h => ?_) (fun _ h => ?_)
      · refine o_aload_n C 0 dX12_time_46 rfl rfl ?_
        refine o_iload_n C 1 dX12_time_47 rfl rfl ?_
        refine o_cVL C [vI z1] mb_X12_waterOf (by decide) (fun _ hu => c_X12_waterOf hz1 hμ7 hu) rfl (Nat.le_of_ble_eq_true rfl) h mi_X12_waterOf me_X12_waterOf lkm_RX12_283 kt_53 rfl rfl rfl dX12_time_48 (fun x8 μ9 hx8 hμ9 h => ?_)
        refine o_aload_n C 0 dX12_time_51 rfl rfl ?_
        refine o_cVL C [] mb_X12_allFlow (by decide) (fun _ hu => c_X12_allFlow hμ9 hu) rfl (Nat.le_of_ble_eq_true rfl) h mi_X12_allFlow me_X12_allFlow lkm_RX12_286 kt_53 rfl rfl rfl dX12_time_52 (fun x10 μ11 hx10 hμ11 h => ?_)
        refine o_iload_n C 2 dX12_time_55 rfl rfl ?_
        refine o_cSL C [vJ x8, vJ x10, vI z2] mb_X12_told (by decide) (fun _ hu => c_X12_told hx8 hx10 hz2 hμ11 hu) rfl (Nat.le_of_ble_eq_true rfl) h ms_X12_told lkm_RX12_237 rfl rfl dX12_time_56 (fun x12 μ13 hx12 hμ13 h => ?_)
        exact o_lret C hQ dX12_time_59 h hx12 hμ13
      · refine o_ldc2 (v := (-10000009)) C lkc_RX12_281 rfl dX12_time_40 ?_
        refine o_goto (tgt := 59) C dX12_time_43 (by decide) ?_
        exact o_lret C hQ dX12_time_59 h ⟨by decide, by decide⟩ hμ7
    · refine o_ldc2 (v := (-10000003)) C lkc_RX12_241 rfl dX12_time_24 ?_
      exact o_lret C hQ dX12_time_27 h ⟨by decide, by decide⟩ hμ5
  · refine o_ldc2 (v := (-10000001)) C lkc_RX12_235 rfl dX12_time_13 ?_
    exact o_lret C hQ dX12_time_16 h ⟨by decide, by decide⟩ hμ3
theorem c_X12_time {z1 : Int} (hz1 : r32 z1) {z2 : Int} (hz2 : r32 z2) {μ : GM} (hμ : gRg μ) {u : Int × GM} (h : f_X12_time z1 z2 μ = some u) : MtL 5 yX12_time cX12_time 3 (some .long) (fun ad => [.ref (ad 53), vI z1, vI z2]) μ u := MtL.of pf_X12_time (fun _ => Nat.le_of_ble_eq_true rfl) (fun G C hQ => w_X12_time_0 C hQ hz1 hz2 hμ h)
def k_X12_wayTime_81 (kL33 : Int → Int → GM → Option (Int × GM)) (z4 : Int) (s0 : Int) (s1 : Int) (μ : GM) : Option (Int × GM) :=
  lt (w64 (s0 + s1)) fun x1 =>
  bd (f_X12_nextOf z4 μ) fun x2 μ3 =>
  kL33 x1 x2 μ3
set_option maxHeartbeats 4000000 in
set_option maxRecDepth 100000 in
theorem w_X12_wayTime_81 {G : GX} {u : Int × GM} (C : CX G 5 cX12_wayTime 5 RX12) (hQ : gQL G (some .long) u) {kL33 : Int → Int → GM → Option (Int × GM)} (hL33 : ∀ (z2 : Int) (hz2 : r64 z2) (z4 : Int) (hz4 : r32 z4) (μ : GM) (hμ : gRg μ), kL33 z2 z4 μ = some u → WM G 5 μ 33 [(0, gR G 53), (2, vJ z2), (4, vI z4)] []) {z4 : Int} (hz4 : r32 z4) {s0 : Int} (hs0 : r64 s0) {s1 : Int} (hs1 : r64 s1) {μ : GM} (hμ : gRg μ) (h : k_X12_wayTime_81 kL33 z4 s0 s1 μ = some u) : WM G 5 μ 81 [(0, gR G 53), (4, vI z4)] [vJ s1, vJ s0] := by
  unfold k_X12_wayTime_81 at h
  refine o_ladd C dX12_wayTime_81 ?_
  refine o_ltl h (r64_w _) (fun x1 hx1 h => ?_)
  refine o_lstore_n (lv2 := [(2, vJ x1), (0, gR G 53), (4, vI z4)]) C dX12_wayTime_82 rfl (by decide) rfl ?_
  refine o_aload_n C 1 dX12_wayTime_83 rfl rfl ?_
  refine o_iload C 2 dX12_wayTime_84 rfl ?_
  refine o_cVI C [vI z4] mb_X12_nextOf (by decide) (fun _ hu => c_X12_nextOf hz4 hμ hu) rfl (Nat.le_of_ble_eq_true rfl) h mi_X12_nextOf me_X12_nextOf lkm_RX12_277 kt_53 rfl rfl rfl dX12_wayTime_86 (fun x2 μ3 hx2 hμ3 h => ?_)
  refine o_istore (lv2 := [(4, vI x2), (2, vJ x1), (0, gR G 53)]) C dX12_wayTime_89 (by decide) rfl ?_
  refine o_goto (tgt := 33) C dX12_wayTime_91 (by decide) ?_
  exact WM.sub [2, 1, 0] rfl (hL33 x1 hx1 x2 hx2 μ3 hμ3 h)
def k_X12_wayTime_33 : Nat → Int → Int → GM → Option (Int × GM)
  | 0, _, _, _ => none
  | n + 1, z2, z4, μ =>
    bd (f_X12_in z4 0 5 μ) fun x1 μ2 =>
    if x1 = 0 then
      some (z2, μ2)
    else
      bd (f_X12_open z4 μ2) fun _x3 μ4 =>
      if (μ4.2 53 31) = 0 then
        k_X12_wayTime_81 (k_X12_wayTime_33 n) z4 z2 0 μ4
      else
        bd (f_X12_waterOf z4 μ4) fun x5 μ6 =>
        bd (f_X12_allFlow μ6) fun x7 μ8 =>
        bd (f_X12_down (w64 (1000 * x5)) x7 μ8) fun x9 μ10 =>
        k_X12_wayTime_81 (k_X12_wayTime_33 n) z4 z2 x9 μ10
set_option maxHeartbeats 4000000 in
set_option maxRecDepth 100000 in
theorem w_X12_wayTime_33 {G : GX} {u : Int × GM} (C : CX G 5 cX12_wayTime 5 RX12) (hQ : gQL G (some .long) u) : ∀ (n : Nat) (z2 : Int) (hz2 : r64 z2) (z4 : Int) (hz4 : r32 z4) (μ : GM) (hμ : gRg μ), k_X12_wayTime_33 n z2 z4 μ = some u → WM G 5 μ 33 [(0, gR G 53), (2, vJ z2), (4, vI z4)] [] := by
  intro n
  induction n with
  | zero =>
    intro z2 hz2 z4 hz4 μ hμ h
    cases h
  | succ n ih =>
    intro z2 hz2 z4 hz4 μ hμ h
    rw [k_X12_wayTime_33] at h
    refine o_iload C 2 dX12_wayTime_33 rfl ?_
    refine o_i2l C hz4 dX12_wayTime_35 ?_
    refine o_lconst (v := 0) C dX12_wayTime_36 rfl ?_
    refine o_ldc2 (v := 5) C lkc_RX12_275 rfl dX12_wayTime_37 ?_
    refine o_cSI C [vJ z4, vJ 0, vJ 5] mb_X12_in (by decide) (fun _ hu => c_X12_in (r32_r64 hz4) ⟨by decide, by decide⟩ ⟨by decide, by decide⟩ hμ hu) rfl (Nat.le_of_ble_eq_true rfl) h ms_X12_in lkm_RX12_140 rfl rfl dX12_wayTime_40 (fun x1 μ2 hx1 hμ2 h => ?_)
    refine o_if_eq (tgt := 94) C hx1 dX12_wayTime_43 (by decide) h (fun _ h => ?_) (fun _ h => ?_)
    · refine o_lload_n C 1 dX12_wayTime_94 rfl rfl ?_
      exact o_lret C hQ dX12_wayTime_95 h hz2 hμ2
    · refine o_aload_n C 0 dX12_wayTime_46 rfl rfl ?_
      refine o_iload C 2 dX12_wayTime_47 rfl ?_
      refine o_cVV C [vI z4] mb_X12_open (by decide) (fun _ hu => c_X12_open hz4 hμ2 hu) rfl (Nat.le_of_ble_eq_true rfl) h mi_X12_open me_X12_open lkm_RX12_268 kt_53 rfl rfl rfl dX12_wayTime_49 (fun _x3 μ4 hμ4 h => ?_)
      refine o_lload_n C 1 dX12_wayTime_52 rfl rfl ?_
      refine o_aload_n C 0 dX12_wayTime_53 rfl rfl ?_
      refine o_getI (j := 31) C kt_53 rfl rfl (Nat.le_of_ble_eq_true rfl) lkf_RX12_261 dX12_wayTime_54 ?_
      refine o_if_ne (tgt := 64) C (hμ4.fi kt_53 rfl (by decide)) dX12_wayTime_57 (by decide) h (fun _ h => ?_) (fun _ h => ?_)
      · refine o_ldc2 (v := 1000) C lkc_RX12_167 rfl dX12_wayTime_64 ?_
        refine o_aload_n C 0 dX12_wayTime_67 rfl rfl ?_
        refine o_iload C 2 dX12_wayTime_68 rfl ?_
        refine o_cVL C [vI z4] mb_X12_waterOf (by decide) (fun _ hu => c_X12_waterOf hz4 hμ4 hu) rfl (Nat.le_of_ble_eq_true rfl) h mi_X12_waterOf me_X12_waterOf lkm_RX12_283 kt_53 rfl rfl rfl dX12_wayTime_70 (fun x5 μ6 hx5 hμ6 h => ?_)
        refine o_lmul C dX12_wayTime_73 ?_
        refine o_aload_n C 0 dX12_wayTime_74 rfl rfl ?_
        refine o_cVL C [] mb_X12_allFlow (by decide) (fun _ hu => c_X12_allFlow hμ6 hu) rfl (Nat.le_of_ble_eq_true rfl) h mi_X12_allFlow me_X12_allFlow lkm_RX12_286 kt_53 rfl rfl rfl dX12_wayTime_75 (fun x7 μ8 hx7 hμ8 h => ?_)
        refine o_cSL C [vJ (w64 (1000 * x5)), vJ x7] mb_X12_down (by decide) (fun _ hu => c_X12_down (r64_w _) hx7 hμ8 hu) rfl (Nat.le_of_ble_eq_true rfl) h ms_X12_down lkm_RX12_225 rfl rfl dX12_wayTime_78 (fun x9 μ10 hx9 hμ10 h => ?_)
        exact WM.sub [0, 2] rfl (w_X12_wayTime_81 C hQ ih hz4 hz2 hx9 hμ10 h)
      · refine o_lconst (v := 0) C dX12_wayTime_60 rfl ?_
        refine o_goto (tgt := 81) C dX12_wayTime_61 (by decide) ?_
        exact WM.sub [0, 2] rfl (w_X12_wayTime_81 C hQ ih hz4 hz2 ⟨by decide, by decide⟩ hμ4 h)
def f_X12_wayTime (z1 : Int) (μ : GM) : Option (Int × GM) :=
  lm (gF μ 53 0 0) fun μ1 =>
  bd (f_X12_noCell z1 μ1) fun x2 μ3 =>
  if x2 = 0 then
    bd (f_X12_rests μ3) fun x4 μ5 =>
    if x4 = 0 then
      some ((-10000003), μ5)
    else
      k_X12_wayTime_33 FU 0 z1 μ5
  else
    some ((-10000001), μ3)
set_option maxHeartbeats 4000000 in
set_option maxRecDepth 100000 in
theorem w_X12_wayTime_0 {G : GX} {u : Int × GM} (C : CX G 5 cX12_wayTime 5 RX12) (hQ : gQL G (some .long) u) {z1 : Int} (hz1 : r32 z1) {μ : GM} (hμ : gRg μ) (h : f_X12_wayTime z1 μ = some u) : WM G 5 μ 0 [(0, gR G 53), (1, vI z1)] [] := by
  unfold f_X12_wayTime at h
  refine o_aload_n C 0 dX12_wayTime_0 rfl rfl ?_
  refine o_iconst C dX12_wayTime_1 ?_
  refine o_putI (j := 0) C kt_53 rfl rfl tyX12_ok nmX12 (Nat.le_of_ble_eq_true rfl) lkf_RX12_133 rfl rfl ⟨by decide, by decide⟩ hμ dX12_wayTime_2 h (fun μ1 hμ1 h => ?_)
  refine o_aload_n C 0 dX12_wayTime_5 rfl rfl ?_
  refine o_iload_n C 1 dX12_wayTime_6 rfl rfl ?_
  refine o_cVI C [vI z1] mb_X12_noCell (by decide) (fun _ hu => c_X12_noCell hz1 hμ1 hu) rfl (Nat.le_of_ble_eq_true rfl) h mi_X12_noCell me_X12_noCell lkm_RX12_155 kt_53 rfl rfl rfl dX12_wayTime_7 (fun x2 μ3 hx2 hμ3 h => ?_)
  refine o_if_eq (tgt := 17) C hx2 dX12_wayTime_10 (by decide) h (fun _ h => ?_) (fun _ h => ?_)
  · refine o_aload_n C 0 dX12_wayTime_17 rfl rfl ?_
    refine o_cVI C [] mb_X12_rests (by decide) (fun _ hu => c_X12_rests hμ3 hu) rfl (Nat.le_of_ble_eq_true rfl) h mi_X12_rests me_X12_rests lkm_RX12_229 kt_53 rfl rfl rfl dX12_wayTime_18 (fun x4 μ5 hx4 hμ5 h => ?_)
    refine o_if_ne (tgt := 28) C hx4 dX12_wayTime_21 (by decide) h (fun _ h => ?_) (fun _ h => ?_)
    · refine o_lconst (v := 0) C dX12_wayTime_28 rfl ?_
      refine o_lstore_n (lv2 := [(2, vJ 0), (0, gR G 53), (1, vI z1)]) C dX12_wayTime_29 rfl (by decide) rfl ?_
      refine o_iload_n C 2 dX12_wayTime_30 rfl rfl ?_
      refine o_istore (lv2 := [(4, vI z1), (2, vJ 0), (0, gR G 53), (1, vI z1)]) C dX12_wayTime_31 (by decide) rfl ?_
      exact WM.sub [2, 1, 0] rfl (w_X12_wayTime_33 C hQ FU 0 ⟨by decide, by decide⟩ z1 hz1 μ5 hμ5 h)
    · refine o_ldc2 (v := (-10000003)) C lkc_RX12_241 rfl dX12_wayTime_24 ?_
      exact o_lret C hQ dX12_wayTime_27 h ⟨by decide, by decide⟩ hμ5
  · refine o_ldc2 (v := (-10000001)) C lkc_RX12_235 rfl dX12_wayTime_13 ?_
    exact o_lret C hQ dX12_wayTime_16 h ⟨by decide, by decide⟩ hμ3
theorem c_X12_wayTime {z1 : Int} (hz1 : r32 z1) {μ : GM} (hμ : gRg μ) {u : Int × GM} (h : f_X12_wayTime z1 μ = some u) : MtL 5 yX12_wayTime cX12_wayTime 5 (some .long) (fun ad => [.ref (ad 53), vI z1]) μ u := MtL.of pf_X12_wayTime (fun _ => Nat.le_of_ble_eq_true rfl) (fun G C hQ => w_X12_wayTime_0 C hQ hz1 hμ h)
def k_X12_zone_126 (kL50 : Int → Int → GM → Option (Int × GM)) (kL59 : Int → Int → Int → GM → Option (Int × GM)) (z2 : Int) (z3 : Int) (z4 : Int) (z5 : Int) (z7 : Int) (s0 : Int) (μ : GM) : Option (Int × GM) :=
  if z5 = 0 then
    lt (gor z2 0) fun x1 =>
    lt (w32 (z4 + 1)) fun x2 =>
    kL59 x1 z3 x2 μ
  else
    if (gand (gshr z2 s0) 1) = 1 then
      lt (gor z2 (gshl 1 z7)) fun x5 =>
      lt (w32 (z4 + 1)) fun x6 =>
      kL59 x5 z3 x6 μ
    else
      lt (gor z2 0) fun x3 =>
      lt (w32 (z4 + 1)) fun x4 =>
      kL59 x3 z3 x4 μ
set_option maxHeartbeats 4000000 in
set_option maxRecDepth 100000 in
theorem w_X12_zone_126 {G : GX} {u : Int × GM} (C : CX G 5 cX12_zone 9 RX12) (hQ : gQI G (some .int) u) {kL50 : Int → Int → GM → Option (Int × GM)} (hL50 : ∀ (z2 : Int) (hz2 : r32 z2) (z3 : Int) (hz3 : r32 z3) (μ : GM) (hμ : gRg μ), kL50 z2 z3 μ = some u → WM G 9 μ 50 [(0, gR G 53), (2, vI z2), (3, vI z3)] []) {kL59 : Int → Int → Int → GM → Option (Int × GM)} (hL59 : ∀ (z2 : Int) (hz2 : r32 z2) (z3 : Int) (hz3 : r32 z3) (z4 : Int) (hz4 : r32 z4) (μ : GM) (hμ : gRg μ), kL59 z2 z3 z4 μ = some u → WM G 9 μ 59 [(0, gR G 53), (2, vI z2), (3, vI z3), (4, vI z4)] []) {z2 : Int} (hz2 : r32 z2) {z3 : Int} (hz3 : r32 z3) {z4 : Int} (hz4 : r32 z4) {z5 : Int} (hz5 : r64 z5) {z7 : Int} (hz7 : r32 z7) {s0 : Int} (hs0 : r32 s0) {μ : GM} (hμ : gRg μ) (h : k_X12_zone_126 kL50 kL59 z2 z3 z4 z5 z7 s0 μ = some u) : WM G 9 μ 126 [(0, gR G 53), (2, vI z2), (3, vI z3), (4, vI z4), (5, vJ z5), (7, vI z7)] [vI s0] := by
  unfold k_X12_zone_126 at h
  refine o_istore (lv2 := [(8, vI s0), (0, gR G 53), (2, vI z2), (3, vI z3), (4, vI z4), (5, vJ z5), (7, vI z7)]) C dX12_zone_126 (by decide) rfl ?_
  refine o_iload_n C 2 dX12_zone_128 rfl rfl ?_
  refine o_lload C 5 dX12_zone_129 rfl ?_
  refine o_lconst (v := 0) C dX12_zone_131 rfl ?_
  refine o_lcmp_eq (tgt := 153) C hz5 ⟨by decide, by decide⟩ dX12_zone_132 dX12_zone_133 (by decide) h (fun _ h => ?_) (fun _ h => ?_)
  · refine o_iconst C dX12_zone_153 ?_
    refine o_ior C dX12_zone_154 ?_
    refine o_lt h (r32_toInt _) (fun x1 hx1 h => ?_)
    refine o_istore_n (lv2 := [(2, vI x1), (8, vI s0), (0, gR G 53), (3, vI z3), (4, vI z4), (5, vJ z5), (7, vI z7)]) C dX12_zone_155 rfl (by decide) rfl ?_
    refine o_iinc (lv2 := fun x2 => [(4, vI x2), (2, vI x1), (8, vI s0), (0, gR G 53), (3, vI z3), (5, vJ z5), (7, vI z7)]) C 4 dX12_zone_156 rfl (by decide) (fun _ => rfl) h (fun x2 hx2 h => ?_)
    refine o_goto (tgt := 59) C dX12_zone_159 (by decide) ?_
    exact WM.sub [3, 1, 4, 0] rfl (hL59 x1 hx1 z3 hz3 x2 hx2 μ hμ h)
  · refine o_iload_n C 2 dX12_zone_136 rfl rfl ?_
    refine o_iload C 0 dX12_zone_137 rfl ?_
    refine o_ishr C dX12_zone_139 ?_
    refine o_iconst C dX12_zone_140 ?_
    refine o_iand C dX12_zone_141 ?_
    refine o_iconst C dX12_zone_142 ?_
    refine o_icmp_ne (tgt := 153) C (r32_toInt _) ⟨by decide, by decide⟩ dX12_zone_143 (by decide) h (fun _ h => ?_) (fun _ h => ?_)
    · refine o_iconst C dX12_zone_153 ?_
      refine o_ior C dX12_zone_154 ?_
      refine o_lt h (r32_toInt _) (fun x3 hx3 h => ?_)
      refine o_istore_n (lv2 := [(2, vI x3), (8, vI s0), (0, gR G 53), (3, vI z3), (4, vI z4), (5, vJ z5), (7, vI z7)]) C dX12_zone_155 rfl (by decide) rfl ?_
      refine o_iinc (lv2 := fun x4 => [(4, vI x4), (2, vI x3), (8, vI s0), (0, gR G 53), (3, vI z3), (5, vJ z5), (7, vI z7)]) C 4 dX12_zone_156 rfl (by decide) (fun _ => rfl) h (fun x4 hx4 h => ?_)
      refine o_goto (tgt := 59) C dX12_zone_159 (by decide) ?_
      exact WM.sub [3, 1, 4, 0] rfl (hL59 x3 hx3 z3 hz3 x4 hx4 μ hμ h)
    · refine o_iconst C dX12_zone_146 ?_
      refine o_iload C 6 dX12_zone_147 rfl ?_
      refine o_ishl C dX12_zone_149 ?_
      refine o_goto (tgt := 154) C dX12_zone_150 (by decide) ?_
      refine o_ior C dX12_zone_154 ?_
      refine o_lt h (r32_toInt _) (fun x5 hx5 h => ?_)
      refine o_istore_n (lv2 := [(2, vI x5), (8, vI s0), (0, gR G 53), (3, vI z3), (4, vI z4), (5, vJ z5), (7, vI z7)]) C dX12_zone_155 rfl (by decide) rfl ?_
      refine o_iinc (lv2 := fun x6 => [(4, vI x6), (2, vI x5), (8, vI s0), (0, gR G 53), (3, vI z3), (5, vJ z5), (7, vI z7)]) C 4 dX12_zone_156 rfl (by decide) (fun _ => rfl) h (fun x6 hx6 h => ?_)
      refine o_goto (tgt := 59) C dX12_zone_159 (by decide) ?_
      exact WM.sub [3, 1, 4, 0] rfl (hL59 x5 hx5 z3 hz3 x6 hx6 μ hμ h)
def k_X12_zone_100 (kL50 : Int → Int → GM → Option (Int × GM)) (kL59 : Int → Int → Int → GM → Option (Int × GM)) (z2 : Int) (z3 : Int) (z4 : Int) (z5 : Int) (s0 : Int) (μ : GM) : Option (Int × GM) :=
  if 0 < z5 then
    ck (0 ≤ z4 ∧ z4 < 12) (
    k_X12_zone_126 kL50 kL59 z2 z3 z4 z5 s0 (μ.1 58 z4) μ)
  else
    ck (0 ≤ z4 ∧ z4 < 12) (
    k_X12_zone_126 kL50 kL59 z2 z3 z4 z5 s0 (μ.1 57 z4) μ)
set_option maxHeartbeats 4000000 in
set_option maxRecDepth 100000 in
theorem w_X12_zone_100 {G : GX} {u : Int × GM} (C : CX G 5 cX12_zone 9 RX12) (hQ : gQI G (some .int) u) {kL50 : Int → Int → GM → Option (Int × GM)} (hL50 : ∀ (z2 : Int) (hz2 : r32 z2) (z3 : Int) (hz3 : r32 z3) (μ : GM) (hμ : gRg μ), kL50 z2 z3 μ = some u → WM G 9 μ 50 [(0, gR G 53), (2, vI z2), (3, vI z3)] []) {kL59 : Int → Int → Int → GM → Option (Int × GM)} (hL59 : ∀ (z2 : Int) (hz2 : r32 z2) (z3 : Int) (hz3 : r32 z3) (z4 : Int) (hz4 : r32 z4) (μ : GM) (hμ : gRg μ), kL59 z2 z3 z4 μ = some u → WM G 9 μ 59 [(0, gR G 53), (2, vI z2), (3, vI z3), (4, vI z4)] []) {z2 : Int} (hz2 : r32 z2) {z3 : Int} (hz3 : r32 z3) {z4 : Int} (hz4 : r32 z4) {z5 : Int} (hz5 : r64 z5) {s0 : Int} (hs0 : r32 s0) {μ : GM} (hμ : gRg μ) (h : k_X12_zone_100 kL50 kL59 z2 z3 z4 z5 s0 μ = some u) : WM G 9 μ 100 [(0, gR G 53), (2, vI z2), (3, vI z3), (4, vI z4), (5, vJ z5)] [vI s0] := by
  unfold k_X12_zone_100 at h
  refine o_istore (lv2 := [(7, vI s0), (0, gR G 53), (2, vI z2), (3, vI z3), (4, vI z4), (5, vJ z5)]) C dX12_zone_100 (by decide) rfl ?_
  refine o_lload C 5 dX12_zone_102 rfl ?_
  refine o_lconst (v := 0) C dX12_zone_104 rfl ?_
  refine o_lcmp_le (tgt := 119) C hz5 ⟨by decide, by decide⟩ dX12_zone_105 dX12_zone_106 (by decide) h (fun _ h => ?_) (fun _ h => ?_)
  · refine o_aload_n C 1 dX12_zone_119 rfl rfl ?_
    refine o_getR (j := 6) C kt_53 rfl rfl (Nat.le_of_ble_eq_true rfl) lkf_RX12_19 dX12_zone_120 ?_
    refine o_iload C 4 dX12_zone_123 rfl ?_
    refine o_iald C kt_57 rfl hz4 dX12_zone_125 h (fun h => ?_)
    exact WM.sub [1, 2, 3, 4, 5, 0] rfl (w_X12_zone_126 C hQ hL50 hL59 hz2 hz3 hz4 hz5 hs0 (hμ.i kt_57 (by decide) _) hμ h)
  · refine o_aload_n C 1 dX12_zone_109 rfl rfl ?_
    refine o_getR (j := 7) C kt_53 rfl rfl (Nat.le_of_ble_eq_true rfl) lkf_RX12_22 dX12_zone_110 ?_
    refine o_iload C 4 dX12_zone_113 rfl ?_
    refine o_iald C kt_58 rfl hz4 dX12_zone_115 h (fun h => ?_)
    refine o_goto (tgt := 126) C dX12_zone_116 (by decide) ?_
    exact WM.sub [1, 2, 3, 4, 5, 0] rfl (w_X12_zone_126 C hQ hL50 hL59 hz2 hz3 hz4 hz5 hs0 (hμ.i kt_58 (by decide) _) hμ h)
def k_X12_zone_59 (kL50 : Int → Int → GM → Option (Int × GM)) : Nat → Int → Int → Int → GM → Option (Int × GM)
  | 0, _, _, _, _ => none
  | n + 1, z2, z3, z4, μ =>
    if z4 < (μ.2 53 5) then
      bd (f_X12_flowOf z4 μ) fun x2 μ3 =>
      if 0 < x2 then
        ck (0 ≤ z4 ∧ z4 < 12) (
        k_X12_zone_100 kL50 (k_X12_zone_59 kL50 n) z2 z3 z4 x2 (μ3.1 57 z4) μ3)
      else
        ck (0 ≤ z4 ∧ z4 < 12) (
        k_X12_zone_100 kL50 (k_X12_zone_59 kL50 n) z2 z3 z4 x2 (μ3.1 58 z4) μ3)
    else
      lt (w32 (z3 + 1)) fun x1 =>
      kL50 z2 x1 μ
set_option maxHeartbeats 4000000 in
set_option maxRecDepth 100000 in
theorem w_X12_zone_59 {G : GX} {u : Int × GM} (C : CX G 5 cX12_zone 9 RX12) (hQ : gQI G (some .int) u) {kL50 : Int → Int → GM → Option (Int × GM)} (hL50 : ∀ (z2 : Int) (hz2 : r32 z2) (z3 : Int) (hz3 : r32 z3) (μ : GM) (hμ : gRg μ), kL50 z2 z3 μ = some u → WM G 9 μ 50 [(0, gR G 53), (2, vI z2), (3, vI z3)] []) : ∀ (n : Nat) (z2 : Int) (hz2 : r32 z2) (z3 : Int) (hz3 : r32 z3) (z4 : Int) (hz4 : r32 z4) (μ : GM) (hμ : gRg μ), k_X12_zone_59 kL50 n z2 z3 z4 μ = some u → WM G 9 μ 59 [(0, gR G 53), (2, vI z2), (3, vI z3), (4, vI z4)] [] := by
  intro n
  induction n with
  | zero =>
    intro z2 hz2 z3 hz3 z4 hz4 μ hμ h
    cases h
  | succ n ih =>
    intro z2 hz2 z3 hz3 z4 hz4 μ hμ h
    rw [k_X12_zone_59] at h
    refine o_iload C 3 dX12_zone_59 rfl ?_
    refine o_aload_n C 0 dX12_zone_61 rfl rfl ?_
    refine o_getI (j := 5) C kt_53 rfl rfl (Nat.le_of_ble_eq_true rfl) lkf_RX12_164 dX12_zone_62 ?_
    refine o_icmp_ge (tgt := 162) C hz4 (hμ.fi kt_53 rfl (by decide)) dX12_zone_65 (by decide) h (fun _ h => ?_) (fun _ h => ?_)
    · refine o_iinc (lv2 := fun x1 => [(3, vI x1), (0, gR G 53), (2, vI z2), (4, vI z4)]) C 2 dX12_zone_162 rfl (by decide) (fun _ => rfl) h (fun x1 hx1 h => ?_)
      refine o_goto (tgt := 50) C dX12_zone_165 (by decide) ?_
      exact WM.sub [1, 2, 0] rfl (hL50 z2 hz2 x1 hx1 μ hμ h)
    · refine o_aload_n C 0 dX12_zone_68 rfl rfl ?_
      refine o_iload C 3 dX12_zone_69 rfl ?_
      refine o_cVL C [vI z4] mb_X12_flowOf (by decide) (fun _ hu => c_X12_flowOf hz4 hμ hu) rfl (Nat.le_of_ble_eq_true rfl) h mi_X12_flowOf me_X12_flowOf lkm_RX12_247 kt_53 rfl rfl rfl dX12_zone_71 (fun x2 μ3 hx2 hμ3 h => ?_)
      refine o_lstore (lv2 := [(5, vJ x2), (0, gR G 53), (2, vI z2), (3, vI z3), (4, vI z4)]) C dX12_zone_74 (by decide) rfl ?_
      refine o_lload C 0 dX12_zone_76 rfl ?_
      refine o_lconst (v := 0) C dX12_zone_78 rfl ?_
      refine o_lcmp_le (tgt := 93) C hx2 ⟨by decide, by decide⟩ dX12_zone_79 dX12_zone_80 (by decide) h (fun _ h => ?_) (fun _ h => ?_)
      · refine o_aload_n C 1 dX12_zone_93 rfl rfl ?_
        refine o_getR (j := 7) C kt_53 rfl rfl (Nat.le_of_ble_eq_true rfl) lkf_RX12_22 dX12_zone_94 ?_
        refine o_iload C 4 dX12_zone_97 rfl ?_
        refine o_iald C kt_58 rfl hz4 dX12_zone_99 h (fun h => ?_)
        exact WM.sub [1, 2, 3, 4, 0] rfl (w_X12_zone_100 C hQ hL50 ih hz2 hz3 hz4 hx2 (hμ3.i kt_58 (by decide) _) hμ3 h)
      · refine o_aload_n C 1 dX12_zone_83 rfl rfl ?_
        refine o_getR (j := 6) C kt_53 rfl rfl (Nat.le_of_ble_eq_true rfl) lkf_RX12_19 dX12_zone_84 ?_
        refine o_iload C 4 dX12_zone_87 rfl ?_
        refine o_iald C kt_57 rfl hz4 dX12_zone_89 h (fun h => ?_)
        refine o_goto (tgt := 100) C dX12_zone_90 (by decide) ?_
        exact WM.sub [1, 2, 3, 4, 0] rfl (w_X12_zone_100 C hQ hL50 ih hz2 hz3 hz4 hx2 (hμ3.i kt_57 (by decide) _) hμ3 h)
def k_X12_zone_50 : Nat → Int → Int → GM → Option (Int × GM)
  | 0, _, _, _ => none
  | n + 1, z2, z3, μ =>
    if z3 < 6 then
      k_X12_zone_59 (k_X12_zone_50 n) FU z2 z3 0 μ
    else
      some (z2, μ)
set_option maxHeartbeats 4000000 in
set_option maxRecDepth 100000 in
theorem w_X12_zone_50 {G : GX} {u : Int × GM} (C : CX G 5 cX12_zone 9 RX12) (hQ : gQI G (some .int) u) : ∀ (n : Nat) (z2 : Int) (hz2 : r32 z2) (z3 : Int) (hz3 : r32 z3) (μ : GM) (hμ : gRg μ), k_X12_zone_50 n z2 z3 μ = some u → WM G 9 μ 50 [(0, gR G 53), (2, vI z2), (3, vI z3)] [] := by
  intro n
  induction n with
  | zero =>
    intro z2 hz2 z3 hz3 μ hμ h
    cases h
  | succ n ih =>
    intro z2 hz2 z3 hz3 μ hμ h
    rw [k_X12_zone_50] at h
    refine o_iload_n C 2 dX12_zone_50 rfl rfl ?_
    refine o_bipush (v := 6) C dX12_zone_51 (by decide) ?_
    refine o_icmp_ge (tgt := 168) C hz3 ⟨by decide, by decide⟩ dX12_zone_53 (by decide) h (fun _ h => ?_) (fun _ h => ?_)
    · refine o_iload_n C 1 dX12_zone_168 rfl rfl ?_
      exact o_iret C hQ dX12_zone_169 h hz2 hμ
    · refine o_iconst C dX12_zone_56 ?_
      refine o_istore (lv2 := [(4, vI 0), (0, gR G 53), (2, vI z2), (3, vI z3)]) C dX12_zone_57 (by decide) rfl ?_
      exact WM.sub [1, 2, 3, 0] rfl (w_X12_zone_59 C hQ ih FU z2 hz2 z3 hz3 0 ⟨by decide, by decide⟩ μ hμ h)
def f_X12_zone (z1 : Int) (μ : GM) : Option (Int × GM) :=
  lm (gF μ 53 0 0) fun μ1 =>
  bd (f_X12_noWell z1 μ1) fun x2 μ3 =>
  if x2 = 0 then
    bd (f_X12_rests μ3) fun x4 μ5 =>
    if x4 = 0 then
      some ((-10000003), μ5)
    else
      ck (0 ≤ z1 ∧ z1 < 3) (
      if 0 < (μ5.1 70 z1) then
        ck (0 ≤ z1 ∧ z1 < 3) (
        lt (gshl 1 (μ5.1 67 z1)) fun x6 =>
        k_X12_zone_50 FU x6 0 μ5)
      else
        k_X12_zone_50 FU 0 0 μ5)
  else
    some ((-10000001), μ3)
set_option maxHeartbeats 4000000 in
set_option maxRecDepth 100000 in
theorem w_X12_zone_0 {G : GX} {u : Int × GM} (C : CX G 5 cX12_zone 9 RX12) (hQ : gQI G (some .int) u) {z1 : Int} (hz1 : r32 z1) {μ : GM} (hμ : gRg μ) (h : f_X12_zone z1 μ = some u) : WM G 9 μ 0 [(0, gR G 53), (1, vI z1)] [] := by
  unfold f_X12_zone at h
  refine o_aload_n C 0 dX12_zone_0 rfl rfl ?_
  refine o_iconst C dX12_zone_1 ?_
  refine o_putI (j := 0) C kt_53 rfl rfl tyX12_ok nmX12 (Nat.le_of_ble_eq_true rfl) lkf_RX12_133 rfl rfl ⟨by decide, by decide⟩ hμ dX12_zone_2 h (fun μ1 hμ1 h => ?_)
  refine o_aload_n C 0 dX12_zone_5 rfl rfl ?_
  refine o_iload_n C 1 dX12_zone_6 rfl rfl ?_
  refine o_cVI C [vI z1] mb_X12_noWell (by decide) (fun _ hu => c_X12_noWell hz1 hμ1 hu) rfl (Nat.le_of_ble_eq_true rfl) h mi_X12_noWell me_X12_noWell lkm_RX12_175 kt_53 rfl rfl rfl dX12_zone_7 (fun x2 μ3 hx2 hμ3 h => ?_)
  refine o_if_eq (tgt := 16) C hx2 dX12_zone_10 (by decide) h (fun _ h => ?_) (fun _ h => ?_)
  · refine o_aload_n C 0 dX12_zone_16 rfl rfl ?_
    refine o_cVI C [] mb_X12_rests (by decide) (fun _ hu => c_X12_rests hμ3 hu) rfl (Nat.le_of_ble_eq_true rfl) h mi_X12_rests me_X12_rests lkm_RX12_229 kt_53 rfl rfl rfl dX12_zone_17 (fun x4 μ5 hx4 hμ5 h => ?_)
    refine o_if_ne (tgt := 26) C hx4 dX12_zone_20 (by decide) h (fun _ h => ?_) (fun _ h => ?_)
    · refine o_aload_n C 0 dX12_zone_26 rfl rfl ?_
      refine o_getR (j := 22) C kt_53 rfl rfl (Nat.le_of_ble_eq_true rfl) lkf_RX12_58 dX12_zone_27 ?_
      refine o_iload_n C 1 dX12_zone_30 rfl rfl ?_
      refine o_iald C kt_70 rfl hz1 dX12_zone_31 h (fun h => ?_)
      refine o_if_le (tgt := 46) C (hμ5.i kt_70 (by decide) _) dX12_zone_32 (by decide) h (fun _ h => ?_) (fun _ h => ?_)
      · refine o_iconst C dX12_zone_46 ?_
        refine o_istore_n (lv2 := [(2, vI 0), (0, gR G 53), (1, vI z1)]) C dX12_zone_47 rfl (by decide) rfl ?_
        refine o_iconst C dX12_zone_48 ?_
        refine o_istore_n (lv2 := [(3, vI 0), (2, vI 0), (0, gR G 53), (1, vI z1)]) C dX12_zone_49 rfl (by decide) rfl ?_
        exact WM.sub [2, 1, 0] rfl (w_X12_zone_50 C hQ FU 0 ⟨by decide, by decide⟩ 0 ⟨by decide, by decide⟩ μ5 hμ5 h)
      · refine o_iconst C dX12_zone_35 ?_
        refine o_aload_n C 0 dX12_zone_36 rfl rfl ?_
        refine o_getR (j := 19) C kt_53 rfl rfl (Nat.le_of_ble_eq_true rfl) lkf_RX12_49 dX12_zone_37 ?_
        refine o_iload_n C 1 dX12_zone_40 rfl rfl ?_
        refine o_iald C kt_67 rfl hz1 dX12_zone_41 h (fun h => ?_)
        refine o_ishl C dX12_zone_42 ?_
        refine o_goto (tgt := 47) C dX12_zone_43 (by decide) ?_
        refine o_lt h (r32_toInt _) (fun x6 hx6 h => ?_)
        refine o_istore_n (lv2 := [(2, vI x6), (0, gR G 53), (1, vI z1)]) C dX12_zone_47 rfl (by decide) rfl ?_
        refine o_iconst C dX12_zone_48 ?_
        refine o_istore_n (lv2 := [(3, vI 0), (2, vI x6), (0, gR G 53), (1, vI z1)]) C dX12_zone_49 rfl (by decide) rfl ?_
        exact WM.sub [2, 1, 0] rfl (w_X12_zone_50 C hQ FU x6 hx6 0 ⟨by decide, by decide⟩ μ5 hμ5 h)
    · refine o_ldc (v := (-10000003)) C lkc_RX12_163 rfl dX12_zone_23 ?_
      exact o_iret C hQ dX12_zone_25 h ⟨by decide, by decide⟩ hμ5
  · refine o_ldc (v := (-10000001)) C lkc_RX12_159 rfl dX12_zone_13 ?_
    exact o_iret C hQ dX12_zone_15 h ⟨by decide, by decide⟩ hμ3
theorem c_X12_zone {z1 : Int} (hz1 : r32 z1) {μ : GM} (hμ : gRg μ) {u : Int × GM} (h : f_X12_zone z1 μ = some u) : MtI 5 yX12_zone cX12_zone 9 (some .int) (fun ad => [.ref (ad 53), vI z1]) μ u := MtI.of pf_X12_zone (fun _ => Nat.le_of_ble_eq_true rfl) (fun G C hQ => w_X12_zone_0 C hQ hz1 hμ h)
