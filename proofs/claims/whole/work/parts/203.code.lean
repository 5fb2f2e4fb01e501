def k_X8_gather_215 : Nat → Int → Int → GM → Option (Int × GM)
  | 0, _, _, _ => none
  | n + 1, z1, z2, μ =>
    if z2 < (μ.2 18 0) then
      ck (0 ≤ z2 ∧ z2 < 3) (
      if (μ.1 19 z2) = z1 then
        ck (0 ≤ z2 ∧ z2 < 3) (
        bd (f_X8_addOutlet (w32 (300 + z2)) (w64 ((μ.1 22 z2) * (μ.2 94 7))) μ) fun _x2 μ3 =>
        lt (w32 (z2 + 1)) fun x4 =>
        k_X8_gather_215 n z1 x4 μ3)
      else
        lt (w32 (z2 + 1)) fun x1 =>
        k_X8_gather_215 n z1 x1 μ)
    else
      some (0, μ)
set_option maxHeartbeats 4000000 in
set_option maxRecDepth 100000 in
theorem w_X8_gather_215 {G : GX} {u : Int × GM} (C : CX G 1 cX8_gather 5 RX8) (hQ : gQV G none u) : ∀ (n : Nat) (z1 : Int) (hz1 : r32 z1) (z2 : Int) (hz2 : r32 z2) (μ : GM) (hμ : gRg μ), k_X8_gather_215 n z1 z2 μ = some u → WM G 5 μ 215 [(0, gR G 23), (1, vI z1), (2, vI z2)] [] := by
  intro n
  induction n with
  | zero =>
    intro z1 hz1 z2 hz2 μ hμ h
    cases h
  | succ n ih =>
    intro z1 hz1 z2 hz2 μ hμ h
    rw [k_X8_gather_215] at h
    refine o_iload_n C 2 dX8_gather_215 rfl rfl ?_
    refine o_aload_n C 0 dX8_gather_216 rfl rfl ?_
    refine o_getR (j := 0) C kt_23 rfl rfl (Nat.le_of_ble_eq_true rfl) lkf_RX8_26 dX8_gather_217 ?_
    refine o_getR (j := 7) C kt_1 rfl rfl (Nat.le_of_ble_eq_true rfl) lkf_RX8_85 dX8_gather_220 ?_
    refine o_getI (j := 0) C kt_18 rfl rfl (Nat.le_of_ble_eq_true rfl) lkf_RX8_89 dX8_gather_223 ?_
    refine o_icmp_ge (tgt := 281) C hz2 (hμ.fi kt_18 rfl (by decide)) dX8_gather_226 (by decide) h (fun _ h => ?_) (fun _ h => ?_)
    · exact o_vret C hQ dX8_gather_281 h hμ
    · refine o_aload_n C 0 dX8_gather_229 rfl rfl ?_
      refine o_getR (j := 0) C kt_23 rfl rfl (Nat.le_of_ble_eq_true rfl) lkf_RX8_26 dX8_gather_230 ?_
      refine o_getR (j := 7) C kt_1 rfl rfl (Nat.le_of_ble_eq_true rfl) lkf_RX8_85 dX8_gather_233 ?_
      refine o_getR (j := 1) C kt_18 rfl rfl (Nat.le_of_ble_eq_true rfl) lkf_RX8_92 dX8_gather_236 ?_
      refine o_iload_n C 2 dX8_gather_239 rfl rfl ?_
      refine o_iald C kt_19 rfl hz2 dX8_gather_240 h (fun h => ?_)
      refine o_iload_n C 1 dX8_gather_241 rfl rfl ?_
      refine o_icmp_ne (tgt := 275) C (hμ.i kt_19 (by decide) _) hz1 dX8_gather_242 (by decide) h (fun _ h => ?_) (fun _ h => ?_)
      · refine o_iinc (lv2 := fun x1 => [(2, vI x1), (0, gR G 23), (1, vI z1)]) C 2 dX8_gather_275 rfl (by decide) (fun _ => rfl) h (fun x1 hx1 h => ?_)
        refine o_goto (tgt := 215) C dX8_gather_278 (by decide) ?_
        exact WM.sub [1, 2, 0] rfl (ih z1 hz1 x1 hx1 μ hμ h)
      · refine o_aload_n C 0 dX8_gather_245 rfl rfl ?_
        refine o_sipush (v := 300) C dX8_gather_246 (by decide) ?_
        refine o_iload_n C 2 dX8_gather_249 rfl rfl ?_
        refine o_iadd C dX8_gather_250 ?_
        refine o_aload_n C 0 dX8_gather_251 rfl rfl ?_
        refine o_getR (j := 0) C kt_23 rfl rfl (Nat.le_of_ble_eq_true rfl) lkf_RX8_26 dX8_gather_252 ?_
        refine o_getR (j := 7) C kt_1 rfl rfl (Nat.le_of_ble_eq_true rfl) lkf_RX8_85 dX8_gather_255 ?_
        refine o_getR (j := 4) C kt_18 rfl rfl (Nat.le_of_ble_eq_true rfl) lkf_RX8_93 dX8_gather_258 ?_
        refine o_iload_n C 2 dX8_gather_261 rfl rfl ?_
        refine o_iald C kt_22 rfl hz2 dX8_gather_262 h (fun h => ?_)
        refine o_i2l C (hμ.i kt_22 (by decide) _) dX8_gather_263 ?_
        refine o_aload_n C 0 dX8_gather_264 rfl rfl ?_
        refine o_getR (j := 1) C kt_23 rfl rfl (Nat.le_of_ble_eq_true rfl) lkf_RX8_30 dX8_gather_265 ?_
        refine o_getJ (j := 7) C kt_94 rfl rfl (Nat.le_of_ble_eq_true rfl) lkf_RX8_96 dX8_gather_268 ?_
        refine o_lmul C dX8_gather_271 ?_
        refine o_cVV C [vI (w32 (300 + z2)), vJ (w64 ((μ.1 22 z2) * (μ.2 94 7)))] mb_X8_addOutlet (by decide) (fun _ hu => c_X8_addOutlet (r32_w _) (r64_w _) hμ hu) rfl (Nat.le_of_ble_eq_true rfl) h mi_X8_addOutlet me_X8_addOutlet lkm_RX8_57 kt_23 rfl rfl rfl dX8_gather_272 (fun _x2 μ3 hμ3 h => ?_)
        refine o_iinc (lv2 := fun x4 => [(2, vI x4), (0, gR G 23), (1, vI z1)]) C 2 dX8_gather_275 rfl (by decide) (fun _ => rfl) h (fun x4 hx4 h => ?_)
        refine o_goto (tgt := 215) C dX8_gather_278 (by decide) ?_
        exact WM.sub [1, 2, 0] rfl (ih z1 hz1 x4 hx4 μ3 hμ3 h)
def k_X8_gather_160 : Nat → Int → Int → GM → Option (Int × GM)
  | 0, _, _, _ => none
  | n + 1, z1, z2, μ =>
    if z2 < (μ.2 14 0) then
      ck (0 ≤ z2 ∧ z2 < 2) (
      if (μ.1 15 z2) = z1 then
        bd (f_X6_drainTop 94 z2 μ) fun x2 μ3 =>
        bd (f_X8_addOutlet (w32 (200 + z2)) x2 μ3) fun _x4 μ5 =>
        lt (w32 (z2 + 1)) fun x6 =>
        k_X8_gather_160 n z1 x6 μ5
      else
        lt (w32 (z2 + 1)) fun x1 =>
        k_X8_gather_160 n z1 x1 μ)
    else
      k_X8_gather_215 FU z1 0 μ
set_option maxHeartbeats 4000000 in
set_option maxRecDepth 100000 in
theorem w_X8_gather_160 {G : GX} {u : Int × GM} (C : CX G 1 cX8_gather 5 RX8) (hQ : gQV G none u) : ∀ (n : Nat) (z1 : Int) (hz1 : r32 z1) (z2 : Int) (hz2 : r32 z2) (μ : GM) (hμ : gRg μ), k_X8_gather_160 n z1 z2 μ = some u → WM G 5 μ 160 [(0, gR G 23), (1, vI z1), (2, vI z2)] [] := by
  intro n
  induction n with
  | zero =>
    intro z1 hz1 z2 hz2 μ hμ h
    cases h
  | succ n ih =>
    intro z1 hz1 z2 hz2 μ hμ h
    rw [k_X8_gather_160] at h
    refine o_iload_n C 2 dX8_gather_160 rfl rfl ?_
    refine o_aload_n C 0 dX8_gather_161 rfl rfl ?_
    refine o_getR (j := 0) C kt_23 rfl rfl (Nat.le_of_ble_eq_true rfl) lkf_RX8_26 dX8_gather_162 ?_
    refine o_getR (j := 6) C kt_1 rfl rfl (Nat.le_of_ble_eq_true rfl) lkf_RX8_74 dX8_gather_165 ?_
    refine o_getI (j := 0) C kt_14 rfl rfl (Nat.le_of_ble_eq_true rfl) lkf_RX8_78 dX8_gather_168 ?_
    refine o_icmp_ge (tgt := 213) C hz2 (hμ.fi kt_14 rfl (by decide)) dX8_gather_171 (by decide) h (fun _ h => ?_) (fun _ h => ?_)
    · refine o_iconst C dX8_gather_213 ?_
      refine o_istore_n (lv2 := [(2, vI 0), (0, gR G 23), (1, vI z1)]) C dX8_gather_214 rfl (by decide) rfl ?_
      exact WM.sub [1, 2, 0] rfl (w_X8_gather_215 C hQ FU z1 hz1 0 ⟨by decide, by decide⟩ μ hμ h)
    · refine o_aload_n C 0 dX8_gather_174 rfl rfl ?_
      refine o_getR (j := 0) C kt_23 rfl rfl (Nat.le_of_ble_eq_true rfl) lkf_RX8_26 dX8_gather_175 ?_
      refine o_getR (j := 6) C kt_1 rfl rfl (Nat.le_of_ble_eq_true rfl) lkf_RX8_74 dX8_gather_178 ?_
      refine o_getR (j := 1) C kt_14 rfl rfl (Nat.le_of_ble_eq_true rfl) lkf_RX8_81 dX8_gather_181 ?_
      refine o_iload_n C 2 dX8_gather_184 rfl rfl ?_
      refine o_iald C kt_15 rfl hz2 dX8_gather_185 h (fun h => ?_)
      refine o_iload_n C 1 dX8_gather_186 rfl rfl ?_
      refine o_icmp_ne (tgt := 207) C (hμ.i kt_15 (by decide) _) hz1 dX8_gather_187 (by decide) h (fun _ h => ?_) (fun _ h => ?_)
      · refine o_iinc (lv2 := fun x1 => [(2, vI x1), (0, gR G 23), (1, vI z1)]) C 2 dX8_gather_207 rfl (by decide) (fun _ => rfl) h (fun x1 hx1 h => ?_)
        refine o_goto (tgt := 160) C dX8_gather_210 (by decide) ?_
        exact WM.sub [1, 2, 0] rfl (ih z1 hz1 x1 hx1 μ hμ h)
      · refine o_aload_n C 0 dX8_gather_190 rfl rfl ?_
        refine o_sipush (v := 200) C dX8_gather_191 (by decide) ?_
        refine o_iload_n C 2 dX8_gather_194 rfl rfl ?_
        refine o_iadd C dX8_gather_195 ?_
        refine o_aload_n C 0 dX8_gather_196 rfl rfl ?_
        refine o_getR (j := 1) C kt_23 rfl rfl (Nat.le_of_ble_eq_true rfl) lkf_RX8_30 dX8_gather_197 ?_
        refine o_iload_n C 2 dX8_gather_200 rfl rfl ?_
        refine o_cVL C [vI z2] mb_X6_drainTop (by decide) (fun _ hu => c_X6_drainTop gRt_A hz2 hμ hu) rfl (Nat.le_of_ble_eq_true rfl) h mi_X6_drainTop me_X6_drainTop lkm_RX8_82 kt_94 rfl rfl rfl dX8_gather_201 (fun x2 μ3 hx2 hμ3 h => ?_)
        refine o_cVV C [vI (w32 (200 + z2)), vJ x2] mb_X8_addOutlet (by decide) (fun _ hu => c_X8_addOutlet (r32_w _) hx2 hμ3 hu) rfl (Nat.le_of_ble_eq_true rfl) h mi_X8_addOutlet me_X8_addOutlet lkm_RX8_57 kt_23 rfl rfl rfl dX8_gather_204 (fun _x4 μ5 hμ5 h => ?_)
        refine o_iinc (lv2 := fun x6 => [(2, vI x6), (0, gR G 23), (1, vI z1)]) C 2 dX8_gather_207 rfl (by decide) (fun _ => rfl) h (fun x6 hx6 h => ?_)
        refine o_goto (tgt := 160) C dX8_gather_210 (by decide) ?_
        exact WM.sub [1, 2, 0] rfl (ih z1 hz1 x6 hx6 μ5 hμ5 h)
def k_X8_gather_105 : Nat → Int → Int → GM → Option (Int × GM)
  | 0, _, _, _ => none
  | n + 1, z1, z2, μ =>
    if z2 < (μ.2 9 0) then
      ck (0 ≤ z2 ∧ z2 < 3) (
      if (μ.1 10 z2) = z1 then
        bd (f_X6_riverTop 94 z2 μ) fun x2 μ3 =>
        bd (f_X8_addOutlet (w32 (100 + z2)) (w64 (-x2)) μ3) fun _x4 μ5 =>
        lt (w32 (z2 + 1)) fun x6 =>
        k_X8_gather_105 n z1 x6 μ5
      else
        lt (w32 (z2 + 1)) fun x1 =>
        k_X8_gather_105 n z1 x1 μ)
    else
      k_X8_gather_160 FU z1 0 μ
set_option maxHeartbeats 4000000 in
set_option maxRecDepth 100000 in
theorem w_X8_gather_105 {G : GX} {u : Int × GM} (C : CX G 1 cX8_gather 5 RX8) (hQ : gQV G none u) : ∀ (n : Nat) (z1 : Int) (hz1 : r32 z1) (z2 : Int) (hz2 : r32 z2) (μ : GM) (hμ : gRg μ), k_X8_gather_105 n z1 z2 μ = some u → WM G 5 μ 105 [(0, gR G 23), (1, vI z1), (2, vI z2)] [] := by
  intro n
  induction n with
  | zero =>
    intro z1 hz1 z2 hz2 μ hμ h
    cases h
  | succ n ih =>
    intro z1 hz1 z2 hz2 μ hμ h
    rw [k_X8_gather_105] at h
    refine o_iload_n C 2 dX8_gather_105 rfl rfl ?_
    refine o_aload_n C 0 dX8_gather_106 rfl rfl ?_
    refine o_getR (j := 0) C kt_23 rfl rfl (Nat.le_of_ble_eq_true rfl) lkf_RX8_26 dX8_gather_107 ?_
    refine o_getR (j := 5) C kt_1 rfl rfl (Nat.le_of_ble_eq_true rfl) lkf_RX8_61 dX8_gather_110 ?_
    refine o_getI (j := 0) C kt_9 rfl rfl (Nat.le_of_ble_eq_true rfl) lkf_RX8_65 dX8_gather_113 ?_
    refine o_icmp_ge (tgt := 158) C hz2 (hμ.fi kt_9 rfl (by decide)) dX8_gather_116 (by decide) h (fun _ h => ?_) (fun _ h => ?_)
    · refine o_iconst C dX8_gather_158 ?_
      refine o_istore_n (lv2 := [(2, vI 0), (0, gR G 23), (1, vI z1)]) C dX8_gather_159 rfl (by decide) rfl ?_
      exact WM.sub [1, 2, 0] rfl (w_X8_gather_160 C hQ FU z1 hz1 0 ⟨by decide, by decide⟩ μ hμ h)
    · refine o_aload_n C 0 dX8_gather_119 rfl rfl ?_
      refine o_getR (j := 0) C kt_23 rfl rfl (Nat.le_of_ble_eq_true rfl) lkf_RX8_26 dX8_gather_120 ?_
      refine o_getR (j := 5) C kt_1 rfl rfl (Nat.le_of_ble_eq_true rfl) lkf_RX8_61 dX8_gather_123 ?_
      refine o_getR (j := 1) C kt_9 rfl rfl (Nat.le_of_ble_eq_true rfl) lkf_RX8_68 dX8_gather_126 ?_
      refine o_iload_n C 2 dX8_gather_129 rfl rfl ?_
      refine o_iald C kt_10 rfl hz2 dX8_gather_130 h (fun h => ?_)
      refine o_iload_n C 1 dX8_gather_131 rfl rfl ?_
      refine o_icmp_ne (tgt := 152) C (hμ.i kt_10 (by decide) _) hz1 dX8_gather_132 (by decide) h (fun _ h => ?_) (fun _ h => ?_)
      · refine o_iinc (lv2 := fun x1 => [(2, vI x1), (0, gR G 23), (1, vI z1)]) C 2 dX8_gather_152 rfl (by decide) (fun _ => rfl) h (fun x1 hx1 h => ?_)
        refine o_goto (tgt := 105) C dX8_gather_155 (by decide) ?_
        exact WM.sub [1, 2, 0] rfl (ih z1 hz1 x1 hx1 μ hμ h)
      · refine o_aload_n C 0 dX8_gather_135 rfl rfl ?_
        refine o_bipush (v := 100) C dX8_gather_136 (by decide) ?_
        refine o_iload_n C 2 dX8_gather_138 rfl rfl ?_
        refine o_iadd C dX8_gather_139 ?_
        refine o_aload_n C 0 dX8_gather_140 rfl rfl ?_
        refine o_getR (j := 1) C kt_23 rfl rfl (Nat.le_of_ble_eq_true rfl) lkf_RX8_30 dX8_gather_141 ?_
        refine o_iload_n C 2 dX8_gather_144 rfl rfl ?_
        refine o_cVL C [vI z2] mb_X6_riverTop (by decide) (fun _ hu => c_X6_riverTop gRt_A hz2 hμ hu) rfl (Nat.le_of_ble_eq_true rfl) h mi_X6_riverTop me_X6_riverTop lkm_RX8_71 kt_94 rfl rfl rfl dX8_gather_145 (fun x2 μ3 hx2 hμ3 h => ?_)
        refine o_lneg C dX8_gather_148 ?_
        refine o_cVV C [vI (w32 (100 + z2)), vJ (w64 (-x2))] mb_X8_addOutlet (by decide) (fun _ hu => c_X8_addOutlet (r32_w _) (r64_w _) hμ3 hu) rfl (Nat.le_of_ble_eq_true rfl) h mi_X8_addOutlet me_X8_addOutlet lkm_RX8_57 kt_23 rfl rfl rfl dX8_gather_149 (fun _x4 μ5 hμ5 h => ?_)
        refine o_iinc (lv2 := fun x6 => [(2, vI x6), (0, gR G 23), (1, vI z1)]) C 2 dX8_gather_152 rfl (by decide) (fun _ => rfl) h (fun x6 hx6 h => ?_)
        refine o_goto (tgt := 105) C dX8_gather_155 (by decide) ?_
        exact WM.sub [1, 2, 0] rfl (ih z1 hz1 x6 hx6 μ5 hμ5 h)
def k_X8_gather_63 (kL7 : Int → Int → GM → Option (Int × GM)) (z1 : Int) (z2 : Int) (z3 : Int) (μ : GM) : Option (Int × GM) :=
  ck (0 ≤ z2 ∧ z2 < 12) (
  if (μ.1 7 z2) = z1 then
    ck (0 ≤ z2 ∧ z2 < 12) (
    bd (f_X8_addOutlet (μ.1 6 z2) (w64 (-z3)) μ) fun _x2 μ3 =>
    lt (w32 (z2 + 1)) fun x4 =>
    kL7 z1 x4 μ3)
  else
    lt (w32 (z2 + 1)) fun x1 =>
    kL7 z1 x1 μ)
set_option maxHeartbeats 4000000 in
set_option maxRecDepth 100000 in
theorem w_X8_gather_63 {G : GX} {u : Int × GM} (C : CX G 1 cX8_gather 5 RX8) (hQ : gQV G none u) {kL7 : Int → Int → GM → Option (Int × GM)} (hL7 : ∀ (z1 : Int) (hz1 : r32 z1) (z2 : Int) (hz2 : r32 z2) (μ : GM) (hμ : gRg μ), kL7 z1 z2 μ = some u → WM G 5 μ 7 [(0, gR G 23), (1, vI z1), (2, vI z2)] []) {z1 : Int} (hz1 : r32 z1) {z2 : Int} (hz2 : r32 z2) {z3 : Int} (hz3 : r64 z3) {μ : GM} (hμ : gRg μ) (h : k_X8_gather_63 kL7 z1 z2 z3 μ = some u) : WM G 5 μ 63 [(0, gR G 23), (1, vI z1), (2, vI z2), (3, vJ z3)] [] := by
  unfold k_X8_gather_63 at h
  refine o_aload_n C 0 dX8_gather_63 rfl rfl ?_
  refine o_getR (j := 0) C kt_23 rfl rfl (Nat.le_of_ble_eq_true rfl) lkf_RX8_26 dX8_gather_64 ?_
  refine o_getR (j := 4) C kt_1 rfl rfl (Nat.le_of_ble_eq_true rfl) lkf_RX8_34 dX8_gather_67 ?_
  refine o_getR (j := 2) C kt_5 rfl rfl (Nat.le_of_ble_eq_true rfl) lkf_RX8_54 dX8_gather_70 ?_
  refine o_iload_n C 2 dX8_gather_73 rfl rfl ?_
  refine o_iald C kt_7 rfl hz2 dX8_gather_74 h (fun h => ?_)
  refine o_iload_n C 1 dX8_gather_75 rfl rfl ?_
  refine o_icmp_ne (tgt := 97) C (hμ.i kt_7 (by decide) _) hz1 dX8_gather_76 (by decide) h (fun _ h => ?_) (fun _ h => ?_)
  · refine o_iinc (lv2 := fun x1 => [(2, vI x1), (0, gR G 23), (1, vI z1), (3, vJ z3)]) C 2 dX8_gather_97 rfl (by decide) (fun _ => rfl) h (fun x1 hx1 h => ?_)
    refine o_goto (tgt := 7) C dX8_gather_100 (by decide) ?_
    exact WM.sub [1, 2, 0] rfl (hL7 z1 hz1 x1 hx1 μ hμ h)
  · refine o_aload_n C 0 dX8_gather_79 rfl rfl ?_
    refine o_aload_n C 0 dX8_gather_80 rfl rfl ?_
    refine o_getR (j := 0) C kt_23 rfl rfl (Nat.le_of_ble_eq_true rfl) lkf_RX8_26 dX8_gather_81 ?_
    refine o_getR (j := 4) C kt_1 rfl rfl (Nat.le_of_ble_eq_true rfl) lkf_RX8_34 dX8_gather_84 ?_
    refine o_getR (j := 1) C kt_5 rfl rfl (Nat.le_of_ble_eq_true rfl) lkf_RX8_51 dX8_gather_87 ?_
    refine o_iload_n C 2 dX8_gather_90 rfl rfl ?_
    refine o_iald C kt_6 rfl hz2 dX8_gather_91 h (fun h => ?_)
    refine o_lload_n C 3 dX8_gather_92 rfl rfl ?_
    refine o_lneg C dX8_gather_93 ?_
    refine o_cVV C [vI (μ.1 6 z2), vJ (w64 (-z3))] mb_X8_addOutlet (by decide) (fun _ hu => c_X8_addOutlet (hμ.i kt_6 (by decide) _) (r64_w _) hμ hu) rfl (Nat.le_of_ble_eq_true rfl) h mi_X8_addOutlet me_X8_addOutlet lkm_RX8_57 kt_23 rfl rfl rfl dX8_gather_94 (fun _x2 μ3 hμ3 h => ?_)
    refine o_iinc (lv2 := fun x4 => [(2, vI x4), (0, gR G 23), (1, vI z1), (3, vJ z3)]) C 2 dX8_gather_97 rfl (by decide) (fun _ => rfl) h (fun x4 hx4 h => ?_)
    refine o_goto (tgt := 7) C dX8_gather_100 (by decide) ?_
    exact WM.sub [1, 2, 0] rfl (hL7 z1 hz1 x4 hx4 μ3 hμ3 h)
def k_X8_gather_7 : Nat → Int → Int → GM → Option (Int × GM)
  | 0, _, _, _ => none
  | n + 1, z1, z2, μ =>
    if z2 < (μ.2 5 0) then
      bd (f_X6_linkTop 94 z2 μ) fun x1 μ2 =>
      ck (0 ≤ z2 ∧ z2 < 12) (
      if (μ2.1 6 z2) = z1 then
        ck (0 ≤ z2 ∧ z2 < 12) (
        bd (f_X8_addOutlet (μ2.1 7 z2) x1 μ2) fun _x3 μ4 =>
        k_X8_gather_63 (k_X8_gather_7 n) z1 z2 x1 μ4)
      else
        k_X8_gather_63 (k_X8_gather_7 n) z1 z2 x1 μ2)
    else
      k_X8_gather_105 FU z1 0 μ
set_option maxHeartbeats 4000000 in
set_option maxRecDepth 100000 in
theorem w_X8_gather_7 {G : GX} {u : Int × GM} (C : CX G 1 cX8_gather 5 RX8) (hQ : gQV G none u) : ∀ (n : Nat) (z1 : Int) (hz1 : r32 z1) (z2 : Int) (hz2 : r32 z2) (μ : GM) (hμ : gRg μ), k_X8_gather_7 n z1 z2 μ = some u → WM G 5 μ 7 [(0, gR G 23), (1, vI z1), (2, vI z2)] [] := by
  intro n
  induction n with
  | zero =>
    intro z1 hz1 z2 hz2 μ hμ h
    cases h
  | succ n ih =>
    intro z1 hz1 z2 hz2 μ hμ h
    rw [k_X8_gather_7] at h
    refine o_iload_n C 2 dX8_gather_7 rfl rfl ?_
    refine o_aload_n C 0 dX8_gather_8 rfl rfl ?_
    refine o_getR (j := 0) C kt_23 rfl rfl (Nat.le_of_ble_eq_true rfl) lkf_RX8_26 dX8_gather_9 ?_
    refine o_getR (j := 4) C kt_1 rfl rfl (Nat.le_of_ble_eq_true rfl) lkf_RX8_34 dX8_gather_12 ?_
    refine o_getI (j := 0) C kt_5 rfl rfl (Nat.le_of_ble_eq_true rfl) lkf_RX8_40 dX8_gather_15 ?_
    refine o_icmp_ge (tgt := 103) C hz2 (hμ.fi kt_5 rfl (by decide)) dX8_gather_18 (by decide) h (fun _ h => ?_) (fun _ h => ?_)
    · refine o_iconst C dX8_gather_103 ?_
      refine o_istore_n (lv2 := [(2, vI 0), (0, gR G 23), (1, vI z1)]) C dX8_gather_104 rfl (by decide) rfl ?_
      exact WM.sub [1, 2, 0] rfl (w_X8_gather_105 C hQ FU z1 hz1 0 ⟨by decide, by decide⟩ μ hμ h)
    · refine o_aload_n C 0 dX8_gather_21 rfl rfl ?_
      refine o_getR (j := 1) C kt_23 rfl rfl (Nat.le_of_ble_eq_true rfl) lkf_RX8_30 dX8_gather_22 ?_
      refine o_iload_n C 2 dX8_gather_25 rfl rfl ?_
      refine o_cVL C [vI z2] mb_X6_linkTop (by decide) (fun _ hu => c_X6_linkTop gRt_A hz2 hμ hu) rfl (Nat.le_of_ble_eq_true rfl) h mi_X6_linkTop me_X6_linkTop lkm_RX8_45 kt_94 rfl rfl rfl dX8_gather_26 (fun x1 μ2 hx1 hμ2 h => ?_)
      refine o_lstore_n (lv2 := [(3, vJ x1), (0, gR G 23), (1, vI z1), (2, vI z2)]) C dX8_gather_29 rfl (by decide) rfl ?_
      refine o_aload_n C 1 dX8_gather_30 rfl rfl ?_
      refine o_getR (j := 0) C kt_23 rfl rfl (Nat.le_of_ble_eq_true rfl) lkf_RX8_26 dX8_gather_31 ?_
      refine o_getR (j := 4) C kt_1 rfl rfl (Nat.le_of_ble_eq_true rfl) lkf_RX8_34 dX8_gather_34 ?_
      refine o_getR (j := 1) C kt_5 rfl rfl (Nat.le_of_ble_eq_true rfl) lkf_RX8_51 dX8_gather_37 ?_
      refine o_iload_n C 3 dX8_gather_40 rfl rfl ?_
      refine o_iald C kt_6 rfl hz2 dX8_gather_41 h (fun h => ?_)
      refine o_iload_n C 2 dX8_gather_42 rfl rfl ?_
      refine o_icmp_ne (tgt := 63) C (hμ2.i kt_6 (by decide) _) hz1 dX8_gather_43 (by decide) h (fun _ h => ?_) (fun _ h => ?_)
      · exact WM.sub [1, 2, 3, 0] rfl (w_X8_gather_63 C hQ ih hz1 hz2 hx1 hμ2 h)
      · refine o_aload_n C 1 dX8_gather_46 rfl rfl ?_
        refine o_aload_n C 1 dX8_gather_47 rfl rfl ?_
        refine o_getR (j := 0) C kt_23 rfl rfl (Nat.le_of_ble_eq_true rfl) lkf_RX8_26 dX8_gather_48 ?_
        refine o_getR (j := 4) C kt_1 rfl rfl (Nat.le_of_ble_eq_true rfl) lkf_RX8_34 dX8_gather_51 ?_
        refine o_getR (j := 2) C kt_5 rfl rfl (Nat.le_of_ble_eq_true rfl) lkf_RX8_54 dX8_gather_54 ?_
        refine o_iload_n C 3 dX8_gather_57 rfl rfl ?_
        refine o_iald C kt_7 rfl hz2 dX8_gather_58 h (fun h => ?_)
        refine o_lload_n C 0 dX8_gather_59 rfl rfl ?_
        refine o_cVV C [vI (μ2.1 7 z2), vJ x1] mb_X8_addOutlet (by decide) (fun _ hu => c_X8_addOutlet (hμ2.i kt_7 (by decide) _) hx1 hμ2 hu) rfl (Nat.le_of_ble_eq_true rfl) h mi_X8_addOutlet me_X8_addOutlet lkm_RX8_57 kt_23 rfl rfl rfl dX8_gather_60 (fun _x3 μ4 hμ4 h => ?_)
        exact WM.sub [1, 2, 3, 0] rfl (w_X8_gather_63 C hQ ih hz1 hz2 hx1 hμ4 h)
def f_X8_gather (z1 : Int) (μ : GM) : Option (Int × GM) :=
  lm (gF μ 23 2 0) fun μ1 =>
  k_X8_gather_7 FU z1 0 μ1
set_option maxHeartbeats 4000000 in
set_option maxRecDepth 100000 in
theorem w_X8_gather_0 {G : GX} {u : Int × GM} (C : CX G 1 cX8_gather 5 RX8) (hQ : gQV G none u) {z1 : Int} (hz1 : r32 z1) {μ : GM} (hμ : gRg μ) (h : f_X8_gather z1 μ = some u) : WM G 5 μ 0 [(0, gR G 23), (1, vI z1)] [] := by
  unfold f_X8_gather at h
  refine o_aload_n C 0 dX8_gather_0 rfl rfl ?_
  refine o_iconst C dX8_gather_1 ?_
  refine o_putI (j := 2) C kt_23 rfl rfl tyX8_ok nmX8 (Nat.le_of_ble_eq_true rfl) lkf_RX8_9 rfl rfl ⟨by decide, by decide⟩ hμ dX8_gather_2 h (fun μ1 hμ1 h => ?_)
  refine o_iconst C dX8_gather_5 ?_
  refine o_istore_n (lv2 := [(2, vI 0), (0, gR G 23), (1, vI z1)]) C dX8_gather_6 rfl (by decide) rfl ?_
  exact WM.sub [1, 2, 0] rfl (w_X8_gather_7 C hQ FU z1 hz1 0 ⟨by decide, by decide⟩ μ1 hμ1 h)
theorem c_X8_gather {z1 : Int} (hz1 : r32 z1) {μ : GM} (hμ : gRg μ) {u : Int × GM} (h : f_X8_gather z1 μ = some u) : MtV 1 yX8_gather cX8_gather 5 none (fun ad => [.ref (ad 23), vI z1]) μ u := MtV.of pf_X8_gather (fun _ => Nat.le_of_ble_eq_true rfl) (fun G C hQ => w_X8_gather_0 C hQ hz1 hμ h)
def k_X8_mainOutlet_5 : Nat → Int → Int → GM → Option (Int × GM)
  | 0, _, _, _ => none
  | n + 1, z1, z2, μ =>
    if z2 < (μ.2 23 2) then
      if z1 = (-10000009) then
        lt (w32 (z2 + 1)) fun x1 =>
        k_X8_mainOutlet_5 n z2 x1 μ
      else
        ck (0 ≤ z2 ∧ z2 < 20) (
        ck (0 ≤ z1 ∧ z1 < 20) (
        if (μ.1 25 z1) < (μ.1 25 z2) then
          lt (w32 (z2 + 1)) fun x3 =>
          k_X8_mainOutlet_5 n z2 x3 μ
        else
          lt (w32 (z2 + 1)) fun x2 =>
          k_X8_mainOutlet_5 n z1 x2 μ))
    else
      some (z1, μ)
set_option maxHeartbeats 4000000 in
set_option maxRecDepth 100000 in
theorem w_X8_mainOutlet_5 {G : GX} {u : Int × GM} (C : CX G 0 cX8_mainOutlet 3 RX8) (hQ : gQI G (some .int) u) : ∀ (n : Nat) (z1 : Int) (hz1 : r32 z1) (z2 : Int) (hz2 : r32 z2) (μ : GM) (hμ : gRg μ), k_X8_mainOutlet_5 n z1 z2 μ = some u → WM G 3 μ 5 [(0, gR G 23), (1, vI z1), (2, vI z2)] [] := by
  intro n
  induction n with
  | zero =>
    intro z1 hz1 z2 hz2 μ hμ h
    cases h
  | succ n ih =>
    intro z1 hz1 z2 hz2 μ hμ h
    rw [k_X8_mainOutlet_5] at h
    refine o_iload_n C 2 dX8_mainOutlet_5 rfl rfl ?_
    refine o_aload_n C 0 dX8_mainOutlet_6 rfl rfl ?_
    refine o_getI (j := 2) C kt_23 rfl rfl (Nat.le_of_ble_eq_true rfl) lkf_RX8_9 dX8_mainOutlet_7 ?_
    refine o_icmp_ge (tgt := 43) C hz2 (hμ.fi kt_23 rfl (by decide)) dX8_mainOutlet_10 (by decide) h (fun _ h => ?_) (fun _ h => ?_)
    · refine o_iload_n C 1 dX8_mainOutlet_43 rfl rfl ?_
      exact o_iret C hQ dX8_mainOutlet_44 h hz1 hμ
    · refine o_iload_n C 1 dX8_mainOutlet_13 rfl rfl ?_
      refine o_ldc (v := (-10000009)) C lkc_RX8_100 rfl dX8_mainOutlet_14 ?_
      refine o_icmp_eq (tgt := 35) C hz1 ⟨by decide, by decide⟩ dX8_mainOutlet_16 (by decide) h (fun _ h => ?_) (fun _ h => ?_)
      · refine o_iload_n C 2 dX8_mainOutlet_35 rfl rfl ?_
        refine o_istore_n (lv2 := [(1, vI z2), (0, gR G 23), (2, vI z2)]) C dX8_mainOutlet_36 rfl (by decide) rfl ?_
        refine o_iinc (lv2 := fun x1 => [(2, vI x1), (1, vI z2), (0, gR G 23)]) C 2 dX8_mainOutlet_37 rfl (by decide) (fun _ => rfl) h (fun x1 hx1 h => ?_)
        refine o_goto (tgt := 5) C dX8_mainOutlet_40 (by decide) ?_
        exact WM.sub [2, 1, 0] rfl (ih z2 hz2 x1 hx1 μ hμ h)
      · refine o_aload_n C 0 dX8_mainOutlet_19 rfl rfl ?_
        refine o_getR (j := 4) C kt_23 rfl rfl (Nat.le_of_ble_eq_true rfl) lkf_RX8_19 dX8_mainOutlet_20 ?_
        refine o_iload_n C 2 dX8_mainOutlet_23 rfl rfl ?_
        refine o_lald C kt_25 rfl hz2 dX8_mainOutlet_24 h (fun h => ?_)
        refine o_aload_n C 0 dX8_mainOutlet_25 rfl rfl ?_
        refine o_getR (j := 4) C kt_23 rfl rfl (Nat.le_of_ble_eq_true rfl) lkf_RX8_19 dX8_mainOutlet_26 ?_
        refine o_iload_n C 1 dX8_mainOutlet_29 rfl rfl ?_
        refine o_lald C kt_25 rfl hz1 dX8_mainOutlet_30 h (fun h => ?_)
        refine o_lcmp_le (tgt := 37) C (hμ.l kt_25 _) (hμ.l kt_25 _) dX8_mainOutlet_31 dX8_mainOutlet_32 (by decide) h (fun _ h => ?_) (fun _ h => ?_)
        · refine o_iinc (lv2 := fun x2 => [(2, vI x2), (0, gR G 23), (1, vI z1)]) C 2 dX8_mainOutlet_37 rfl (by decide) (fun _ => rfl) h (fun x2 hx2 h => ?_)
          refine o_goto (tgt := 5) C dX8_mainOutlet_40 (by decide) ?_
          exact WM.sub [1, 2, 0] rfl (ih z1 hz1 x2 hx2 μ hμ h)
        · refine o_iload_n C 2 dX8_mainOutlet_35 rfl rfl ?_
          refine o_istore_n (lv2 := [(1, vI z2), (0, gR G 23), (2, vI z2)]) C dX8_mainOutlet_36 rfl (by decide) rfl ?_
          refine o_iinc (lv2 := fun x3 => [(2, vI x3), (1, vI z2), (0, gR G 23)]) C 2 dX8_mainOutlet_37 rfl (by decide) (fun _ => rfl) h (fun x3 hx3 h => ?_)
          refine o_goto (tgt := 5) C dX8_mainOutlet_40 (by decide) ?_
          exact WM.sub [2, 1, 0] rfl (ih z2 hz2 x3 hx3 μ hμ h)
def f_X8_mainOutlet (μ : GM) : Option (Int × GM) :=
  k_X8_mainOutlet_5 FU (-10000009) 0 μ
set_option maxHeartbeats 4000000 in
set_option maxRecDepth 100000 in
theorem w_X8_mainOutlet_0 {G : GX} {u : Int × GM} (C : CX G 0 cX8_mainOutlet 3 RX8) (hQ : gQI G (some .int) u) {μ : GM} (hμ : gRg μ) (h : f_X8_mainOutlet μ = some u) : WM G 3 μ 0 [(0, gR G 23)] [] := by
  unfold f_X8_mainOutlet at h
  refine o_ldc (v := (-10000009)) C lkc_RX8_100 rfl dX8_mainOutlet_0 ?_
  refine o_istore_n (lv2 := [(1, vI (-10000009)), (0, gR G 23)]) C dX8_mainOutlet_2 rfl (by decide) rfl ?_
  refine o_iconst C dX8_mainOutlet_3 ?_
  refine o_istore_n (lv2 := [(2, vI 0), (1, vI (-10000009)), (0, gR G 23)]) C dX8_mainOutlet_4 rfl (by decide) rfl ?_
  exact WM.sub [2, 1, 0] rfl (w_X8_mainOutlet_5 C hQ FU (-10000009) ⟨by decide, by decide⟩ 0 ⟨by decide, by decide⟩ μ hμ h)
theorem c_X8_mainOutlet {μ : GM} (hμ : gRg μ) {u : Int × GM} (h : f_X8_mainOutlet μ = some u) : MtI 0 yX8_mainOutlet cX8_mainOutlet 3 (some .int) (fun ad => [.ref (ad 23)]) μ u := MtI.of pf_X8_mainOutlet (fun _ => Nat.le_of_ble_eq_true rfl) (fun G C hQ => w_X8_mainOutlet_0 C hQ hμ h)
def f_X8_onward (z1 : Int) (μ : GM) : Option (Int × GM) :=
  bd (f_X8_gather z1 μ) fun _x1 μ2 =>
  bd (f_X8_mainOutlet μ2) fun x3 μ4 =>
  if x3 = (-10000009) then
    some ((-10000009), μ4)
  else
    ck (0 ≤ x3 ∧ x3 < 20) (
    some ((μ4.1 24 x3), μ4))
set_option maxHeartbeats 4000000 in
set_option maxRecDepth 100000 in
theorem w_X8_onward_0 {G : GX} {u : Int × GM} (C : CX G 2 cX8_onward 3 RX8) (hQ : gQI G (some .int) u) {z1 : Int} (hz1 : r32 z1) {μ : GM} (hμ : gRg μ) (h : f_X8_onward z1 μ = some u) : WM G 3 μ 0 [(0, gR G 23), (1, vI z1)] [] := by
  unfold f_X8_onward at h
  refine o_aload_n C 0 dX8_onward_0 rfl rfl ?_
  refine o_iload_n C 1 dX8_onward_1 rfl rfl ?_
  refine o_cVV C [vI z1] mb_X8_gather (by decide) (fun _ hu => c_X8_gather hz1 hμ hu) rfl (Nat.le_of_ble_eq_true rfl) h mi_X8_gather me_X8_gather lkm_RX8_101 kt_23 rfl rfl rfl dX8_onward_2 (fun _x1 μ2 hμ2 h => ?_)
  refine o_aload_n C 0 dX8_onward_5 rfl rfl ?_
  refine o_cVI C [] mb_X8_mainOutlet (by decide) (fun _ hu => c_X8_mainOutlet hμ2 hu) rfl (Nat.le_of_ble_eq_true rfl) h mi_X8_mainOutlet me_X8_mainOutlet lkm_RX8_105 kt_23 rfl rfl rfl dX8_onward_6 (fun x3 μ4 hx3 hμ4 h => ?_)
  refine o_istore_n (lv2 := [(2, vI x3), (0, gR G 23), (1, vI z1)]) C dX8_onward_9 rfl (by decide) rfl ?_
  refine o_iload_n C 0 dX8_onward_10 rfl rfl ?_
  refine o_ldc (v := (-10000009)) C lkc_RX8_100 rfl dX8_onward_11 ?_
  refine o_icmp_ne (tgt := 21) C hx3 ⟨by decide, by decide⟩ dX8_onward_13 (by decide) h (fun _ h => ?_) (fun _ h => ?_)
  · refine o_aload_n C 1 dX8_onward_21 rfl rfl ?_
    refine o_getR (j := 3) C kt_23 rfl rfl (Nat.le_of_ble_eq_true rfl) lkf_RX8_15 dX8_onward_22 ?_
    refine o_iload_n C 0 dX8_onward_25 rfl rfl ?_
    refine o_iald C kt_24 rfl hx3 dX8_onward_26 h (fun h => ?_)
    exact o_iret C hQ dX8_onward_27 h (hμ4.i kt_24 (by decide) _) hμ4
  · refine o_ldc (v := (-10000009)) C lkc_RX8_100 rfl dX8_onward_16 ?_
    refine o_goto (tgt := 27) C dX8_onward_18 (by decide) ?_
    exact o_iret C hQ dX8_onward_27 h ⟨by decide, by decide⟩ hμ4
theorem c_X8_onward {z1 : Int} (hz1 : r32 z1) {μ : GM} (hμ : gRg μ) {u : Int × GM} (h : f_X8_onward z1 μ = some u) : MtI 2 yX8_onward cX8_onward 3 (some .int) (fun ad => [.ref (ad 23), vI z1]) μ u := MtI.of pf_X8_onward (fun _ => Nat.le_of_ble_eq_true rfl) (fun G C hQ => w_X8_onward_0 C hQ hz1 hμ h)
def k_X8_cellOfWay_47 (z3 : Int) (μ : GM) : Option (Int × GM) :=
  bd (f_X2_hasCell z3 μ) fun x1 μ2 =>
  if x1 = 0 then
    some ((-10000009), μ2)
  else
    some (z3, μ2)
set_option maxHeartbeats 4000000 in
set_option maxRecDepth 100000 in
theorem w_X8_cellOfWay_47 {G : GX} {u : Int × GM} (C : CX G 3 cX8_cellOfWay 5 RX8) (hQ : gQI G (some .int) u) {z3 : Int} (hz3 : r32 z3) {μ : GM} (hμ : gRg μ) (h : k_X8_cellOfWay_47 z3 μ = some u) : WM G 5 μ 47 [(0, gR G 23), (3, vI z3)] [] := by
  unfold k_X8_cellOfWay_47 at h
  refine o_aload_n C 0 dX8_cellOfWay_47 rfl rfl ?_
  refine o_getR (j := 0) C kt_23 rfl rfl (Nat.le_of_ble_eq_true rfl) lkf_RX8_26 dX8_cellOfWay_48 ?_
  refine o_iload_n C 1 dX8_cellOfWay_51 rfl rfl ?_
  refine o_cVI C [vI z3] mb_X2_hasCell (by decide) (fun _ hu => c_X2_hasCell hz3 hμ hu) rfl (Nat.le_of_ble_eq_true rfl) h mi_X2_hasCell me_X2_hasCell lkm_RX8_109 kt_1 rfl rfl rfl dX8_cellOfWay_52 (fun x1 μ2 hx1 hμ2 h => ?_)
  refine o_if_eq (tgt := 62) C hx1 dX8_cellOfWay_55 (by decide) h (fun _ h => ?_) (fun _ h => ?_)
  · refine o_ldc (v := (-10000009)) C lkc_RX8_100 rfl dX8_cellOfWay_62 ?_
    exact o_iret C hQ dX8_cellOfWay_64 h ⟨by decide, by decide⟩ hμ2
  · refine o_iload_n C 1 dX8_cellOfWay_58 rfl rfl ?_
    refine o_goto (tgt := 64) C dX8_cellOfWay_59 (by decide) ?_
    exact o_iret C hQ dX8_cellOfWay_64 h hz3 hμ2
def k_X8_cellOfWay_18 : Nat → Int → Int → Int → GM → Option (Int × GM)
  | 0, _, _, _, _ => none
  | n + 1, z2, z3, z4, μ =>
    if z4 < z2 then
      bd (f_X2_hasCell z3 μ) fun x1 μ2 =>
      if x1 = 0 then
        k_X8_cellOfWay_47 z3 μ2
      else
        bd (f_X8_onward z3 μ2) fun x3 μ4 =>
        lt (w32 (z4 + 1)) fun x5 =>
        k_X8_cellOfWay_18 n z2 x3 x5 μ4
    else
      k_X8_cellOfWay_47 z3 μ
set_option maxHeartbeats 4000000 in
set_option maxRecDepth 100000 in
theorem w_X8_cellOfWay_18 {G : GX} {u : Int × GM} (C : CX G 3 cX8_cellOfWay 5 RX8) (hQ : gQI G (some .int) u) : ∀ (n : Nat) (z2 : Int) (hz2 : r32 z2) (z3 : Int) (hz3 : r32 z3) (z4 : Int) (hz4 : r32 z4) (μ : GM) (hμ : gRg μ), k_X8_cellOfWay_18 n z2 z3 z4 μ = some u → WM G 5 μ 18 [(0, gR G 23), (2, vI z2), (3, vI z3), (4, vI z4)] [] := by
  intro n
  induction n with
  | zero =>
    intro z2 hz2 z3 hz3 z4 hz4 μ hμ h
    cases h
  | succ n ih =>
    intro z2 hz2 z3 hz3 z4 hz4 μ hμ h
    rw [k_X8_cellOfWay_18] at h
    refine o_iload C 3 dX8_cellOfWay_18 rfl ?_
    refine o_iload_n C 1 dX8_cellOfWay_20 rfl rfl ?_
    refine o_icmp_ge (tgt := 47) C hz4 hz2 dX8_cellOfWay_21 (by decide) h (fun _ h => ?_) (fun _ h => ?_)
    · exact WM.sub [0, 2] rfl (w_X8_cellOfWay_47 C hQ hz3 hμ h)
    · refine o_aload_n C 0 dX8_cellOfWay_24 rfl rfl ?_
      refine o_getR (j := 0) C kt_23 rfl rfl (Nat.le_of_ble_eq_true rfl) lkf_RX8_26 dX8_cellOfWay_25 ?_
      refine o_iload_n C 2 dX8_cellOfWay_28 rfl rfl ?_
      refine o_cVI C [vI z3] mb_X2_hasCell (by decide) (fun _ hu => c_X2_hasCell hz3 hμ hu) rfl (Nat.le_of_ble_eq_true rfl) h mi_X2_hasCell me_X2_hasCell lkm_RX8_109 kt_1 rfl rfl rfl dX8_cellOfWay_29 (fun x1 μ2 hx1 hμ2 h => ?_)
      refine o_if_eq (tgt := 47) C hx1 dX8_cellOfWay_32 (by decide) h (fun _ h => ?_) (fun _ h => ?_)
      · exact WM.sub [0, 2] rfl (w_X8_cellOfWay_47 C hQ hz3 hμ2 h)
      · refine o_aload_n C 0 dX8_cellOfWay_35 rfl rfl ?_
        refine o_iload_n C 2 dX8_cellOfWay_36 rfl rfl ?_
        refine o_cVI C [vI z3] mb_X8_onward (by decide) (fun _ hu => c_X8_onward hz3 hμ2 hu) rfl (Nat.le_of_ble_eq_true rfl) h mi_X8_onward me_X8_onward lkm_RX8_113 kt_23 rfl rfl rfl dX8_cellOfWay_37 (fun x3 μ4 hx3 hμ4 h => ?_)
        refine o_istore_n (lv2 := [(3, vI x3), (0, gR G 23), (2, vI z2), (4, vI z4)]) C dX8_cellOfWay_40 rfl (by decide) rfl ?_
        refine o_iinc (lv2 := fun x5 => [(4, vI x5), (3, vI x3), (0, gR G 23), (2, vI z2)]) C 3 dX8_cellOfWay_41 rfl (by decide) (fun _ => rfl) h (fun x5 hx5 h => ?_)
        refine o_goto (tgt := 18) C dX8_cellOfWay_44 (by decide) ?_
        exact WM.sub [2, 3, 1, 0] rfl (ih z2 hz2 x3 hx3 x5 hx5 μ4 hμ4 h)
def f_X8_cellOfWay (z1 : Int) (z2 : Int) (μ : GM) : Option (Int × GM) :=
  if z2 < 0 then
    some ((-10000009), μ)
  else
    if z2 < 6 then
      k_X8_cellOfWay_18 FU z2 z1 0 μ
    else
      some ((-10000009), μ)
set_option maxHeartbeats 4000000 in
set_option maxRecDepth 100000 in
theorem w_X8_cellOfWay_0 {G : GX} {u : Int × GM} (C : CX G 3 cX8_cellOfWay 5 RX8) (hQ : gQI G (some .int) u) {z1 : Int} (hz1 : r32 z1) {z2 : Int} (hz2 : r32 z2) {μ : GM} (hμ : gRg μ) (h : f_X8_cellOfWay z1 z2 μ = some u) : WM G 5 μ 0 [(0, gR G 23), (1, vI z1), (2, vI z2)] [] := by
  unfold f_X8_cellOfWay at h
  refine o_iload_n C 2 dX8_cellOfWay_0 rfl rfl ?_
  refine o_if_lt (tgt := 10) C hz2 dX8_cellOfWay_1 (by decide) h (fun _ h => ?_) (fun _ h => ?_)
  · refine o_ldc (v := (-10000009)) C lkc_RX8_100 rfl dX8_cellOfWay_10 ?_
    exact o_iret C hQ dX8_cellOfWay_12 h ⟨by decide, by decide⟩ hμ
  · refine o_iload_n C 2 dX8_cellOfWay_4 rfl rfl ?_
    refine o_bipush (v := 6) C dX8_cellOfWay_5 (by decide) ?_
    refine o_icmp_lt (tgt := 13) C hz2 ⟨by decide, by decide⟩ dX8_cellOfWay_7 (by decide) h (fun _ h => ?_) (fun _ h => ?_)
    · refine o_iload_n C 1 dX8_cellOfWay_13 rfl rfl ?_
      refine o_istore_n (lv2 := [(3, vI z1), (0, gR G 23), (1, vI z1), (2, vI z2)]) C dX8_cellOfWay_14 rfl (by decide) rfl ?_
      refine o_iconst C dX8_cellOfWay_15 ?_
      refine o_istore (lv2 := [(4, vI 0), (3, vI z1), (0, gR G 23), (1, vI z1), (2, vI z2)]) C dX8_cellOfWay_16 (by decide) rfl ?_
      exact WM.sub [2, 4, 1, 0] rfl (w_X8_cellOfWay_18 C hQ FU z2 hz2 z1 hz1 0 ⟨by decide, by decide⟩ μ hμ h)
    · refine o_ldc (v := (-10000009)) C lkc_RX8_100 rfl dX8_cellOfWay_10 ?_
      exact o_iret C hQ dX8_cellOfWay_12 h ⟨by decide, by decide⟩ hμ
theorem c_X8_cellOfWay {z1 : Int} (hz1 : r32 z1) {z2 : Int} (hz2 : r32 z2) {μ : GM} (hμ : gRg μ) {u : Int × GM} (h : f_X8_cellOfWay z1 z2 μ = some u) : MtI 3 yX8_cellOfWay cX8_cellOfWay 5 (some .int) (fun ad => [.ref (ad 23), vI z1, vI z2]) μ u := MtI.of pf_X8_cellOfWay (fun _ => Nat.le_of_ble_eq_true rfl) (fun G C hQ => w_X8_cellOfWay_0 C hQ hz1 hz2 hμ h)
def k_X8_endOfWay_4 : Nat → Int → Int → GM → Option (Int × GM)
  | 0, _, _, _ => none
  | n + 1, z2, z3, μ =>
    if z3 < 6 then
      bd (f_X2_hasCell z2 μ) fun x1 μ2 =>
      if x1 = 0 then
        some (z2, μ2)
      else
        bd (f_X8_onward z2 μ2) fun x3 μ4 =>
        lt (w32 (z3 + 1)) fun x5 =>
        k_X8_endOfWay_4 n x3 x5 μ4
    else
      some (z2, μ)
set_option maxHeartbeats 4000000 in
set_option maxRecDepth 100000 in
theorem w_X8_endOfWay_4 {G : GX} {u : Int × GM} (C : CX G 3 cX8_endOfWay 4 RX8) (hQ : gQI G (some .int) u) : ∀ (n : Nat) (z2 : Int) (hz2 : r32 z2) (z3 : Int) (hz3 : r32 z3) (μ : GM) (hμ : gRg μ), k_X8_endOfWay_4 n z2 z3 μ = some u → WM G 4 μ 4 [(0, gR G 23), (2, vI z2), (3, vI z3)] [] := by
  intro n
  induction n with
  | zero =>
    intro z2 hz2 z3 hz3 μ hμ h
    cases h
  | succ n ih =>
    intro z2 hz2 z3 hz3 μ hμ h
    rw [k_X8_endOfWay_4] at h
    refine o_iload_n C 2 dX8_endOfWay_4 rfl rfl ?_
    refine o_bipush (v := 6) C dX8_endOfWay_5 (by decide) ?_
    refine o_icmp_ge (tgt := 33) C hz3 ⟨by decide, by decide⟩ dX8_endOfWay_7 (by decide) h (fun _ h => ?_) (fun _ h => ?_)
    · refine o_iload_n C 1 dX8_endOfWay_33 rfl rfl ?_
      exact o_iret C hQ dX8_endOfWay_34 h hz2 hμ
    · refine o_aload_n C 0 dX8_endOfWay_10 rfl rfl ?_
      refine o_getR (j := 0) C kt_23 rfl rfl (Nat.le_of_ble_eq_true rfl) lkf_RX8_26 dX8_endOfWay_11 ?_
      refine o_iload_n C 1 dX8_endOfWay_14 rfl rfl ?_
      refine o_cVI C [vI z2] mb_X2_hasCell (by decide) (fun _ hu => c_X2_hasCell hz2 hμ hu) rfl (Nat.le_of_ble_eq_true rfl) h mi_X2_hasCell me_X2_hasCell lkm_RX8_109 kt_1 rfl rfl rfl dX8_endOfWay_15 (fun x1 μ2 hx1 hμ2 h => ?_)
      refine o_if_eq (tgt := 33) C hx1 dX8_endOfWay_18 (by decide) h (fun _ h => ?_) (fun _ h => ?_)
      · refine o_iload_n C 1 dX8_endOfWay_33 rfl rfl ?_
        exact o_iret C hQ dX8_endOfWay_34 h hz2 hμ2
      · refine o_aload_n C 0 dX8_endOfWay_21 rfl rfl ?_
        refine o_iload_n C 1 dX8_endOfWay_22 rfl rfl ?_
        refine o_cVI C [vI z2] mb_X8_onward (by decide) (fun _ hu => c_X8_onward hz2 hμ2 hu) rfl (Nat.le_of_ble_eq_true rfl) h mi_X8_onward me_X8_onward lkm_RX8_113 kt_23 rfl rfl rfl dX8_endOfWay_23 (fun x3 μ4 hx3 hμ4 h => ?_)
        refine o_istore_n (lv2 := [(2, vI x3), (0, gR G 23), (3, vI z3)]) C dX8_endOfWay_26 rfl (by decide) rfl ?_
        refine o_iinc (lv2 := fun x5 => [(3, vI x5), (2, vI x3), (0, gR G 23)]) C 2 dX8_endOfWay_27 rfl (by decide) (fun _ => rfl) h (fun x5 hx5 h => ?_)
        refine o_goto (tgt := 4) C dX8_endOfWay_30 (by decide) ?_
        exact WM.sub [2, 1, 0] rfl (ih x3 hx3 x5 hx5 μ4 hμ4 h)
def f_X8_endOfWay (z1 : Int) (μ : GM) : Option (Int × GM) :=
  k_X8_endOfWay_4 FU z1 0 μ
set_option maxHeartbeats 4000000 in
set_option maxRecDepth 100000 in
theorem w_X8_endOfWay_0 {G : GX} {u : Int × GM} (C : CX G 3 cX8_endOfWay 4 RX8) (hQ : gQI G (some .int) u) {z1 : Int} (hz1 : r32 z1) {μ : GM} (hμ : gRg μ) (h : f_X8_endOfWay z1 μ = some u) : WM G 4 μ 0 [(0, gR G 23), (1, vI z1)] [] := by
  unfold f_X8_endOfWay at h
  refine o_iload_n C 1 dX8_endOfWay_0 rfl rfl ?_
  refine o_istore_n (lv2 := [(2, vI z1), (0, gR G 23), (1, vI z1)]) C dX8_endOfWay_1 rfl (by decide) rfl ?_
  refine o_iconst C dX8_endOfWay_2 ?_
  refine o_istore_n (lv2 := [(3, vI 0), (2, vI z1), (0, gR G 23), (1, vI z1)]) C dX8_endOfWay_3 rfl (by decide) rfl ?_
  exact WM.sub [2, 1, 0] rfl (w_X8_endOfWay_4 C hQ FU z1 hz1 0 ⟨by decide, by decide⟩ μ hμ h)
theorem c_X8_endOfWay {z1 : Int} (hz1 : r32 z1) {μ : GM} (hμ : gRg μ) {u : Int × GM} (h : f_X8_endOfWay z1 μ = some u) : MtI 3 yX8_endOfWay cX8_endOfWay 4 (some .int) (fun ad => [.ref (ad 23), vI z1]) μ u := MtI.of pf_X8_endOfWay (fun _ => Nat.le_of_ble_eq_true rfl) (fun G C hQ => w_X8_endOfWay_0 C hQ hz1 hμ h)
def k_X8_flowTogether_4 : Nat → Int → Int → GM → Option (Int × GM)
  | 0, _, _, _ => none
  | n + 1, z1, z3, μ =>
    if z3 < (μ.2 23 2) then
      ck (0 ≤ z3 ∧ z3 < 20) (
      lt (w64 (z1 + (μ.1 25 z3))) fun x1 =>
      lt (w32 (z3 + 1)) fun x2 =>
      k_X8_flowTogether_4 n x1 x2 μ)
    else
      some (z1, μ)
set_option maxHeartbeats 4000000 in
set_option maxRecDepth 100000 in
theorem w_X8_flowTogether_4 {G : GX} {u : Int × GM} (C : CX G 0 cX8_flowTogether 4 RX8) (hQ : gQL G (some .long) u) : ∀ (n : Nat) (z1 : Int) (hz1 : r64 z1) (z3 : Int) (hz3 : r32 z3) (μ : GM) (hμ : gRg μ), k_X8_flowTogether_4 n z1 z3 μ = some u → WM G 4 μ 4 [(0, gR G 23), (1, vJ z1), (3, vI z3)] [] := by
  intro n
  induction n with
  | zero =>
    intro z1 hz1 z3 hz3 μ hμ h
    cases h
  | succ n ih =>
    intro z1 hz1 z3 hz3 μ hμ h
    rw [k_X8_flowTogether_4] at h
    refine o_iload_n C 2 dX8_flowTogether_4 rfl rfl ?_
    refine o_aload_n C 0 dX8_flowTogether_5 rfl rfl ?_
    refine o_getI (j := 2) C kt_23 rfl rfl (Nat.le_of_ble_eq_true rfl) lkf_RX8_9 dX8_flowTogether_6 ?_
    refine o_icmp_ge (tgt := 27) C hz3 (hμ.fi kt_23 rfl (by decide)) dX8_flowTogether_9 (by decide) h (fun _ h => ?_) (fun _ h => ?_)
    · refine o_lload_n C 1 dX8_flowTogether_27 rfl rfl ?_
      exact o_lret C hQ dX8_flowTogether_28 h hz1 hμ
    · refine o_lload_n C 1 dX8_flowTogether_12 rfl rfl ?_
      refine o_aload_n C 0 dX8_flowTogether_13 rfl rfl ?_
      refine o_getR (j := 4) C kt_23 rfl rfl (Nat.le_of_ble_eq_true rfl) lkf_RX8_19 dX8_flowTogether_14 ?_
      refine o_iload_n C 2 dX8_flowTogether_17 rfl rfl ?_
      refine o_lald C kt_25 rfl hz3 dX8_flowTogether_18 h (fun h => ?_)
      refine o_ladd C dX8_flowTogether_19 ?_
      refine o_ltl h (r64_w _) (fun x1 hx1 h => ?_)
      refine o_lstore_n (lv2 := [(1, vJ x1), (0, gR G 23), (3, vI z3)]) C dX8_flowTogether_20 rfl (by decide) rfl ?_
      refine o_iinc (lv2 := fun x2 => [(3, vI x2), (1, vJ x1), (0, gR G 23)]) C 2 dX8_flowTogether_21 rfl (by decide) (fun _ => rfl) h (fun x2 hx2 h => ?_)
      refine o_goto (tgt := 4) C dX8_flowTogether_24 (by decide) ?_
      exact WM.sub [2, 1, 0] rfl (ih x1 hx1 x2 hx2 μ hμ h)
def f_X8_flowTogether (μ : GM) : Option (Int × GM) :=
  k_X8_flowTogether_4 FU 0 0 μ
set_option maxHeartbeats 4000000 in
set_option maxRecDepth 100000 in
theorem w_X8_flowTogether_0 {G : GX} {u : Int × GM} (C : CX G 0 cX8_flowTogether 4 RX8) (hQ : gQL G (some .long) u) {μ : GM} (hμ : gRg μ) (h : f_X8_flowTogether μ = some u) : WM G 4 μ 0 [(0, gR G 23)] [] := by
  unfold f_X8_flowTogether at h
  refine o_lconst (v := 0) C dX8_flowTogether_0 rfl ?_
  refine o_lstore_n (lv2 := [(1, vJ 0), (0, gR G 23)]) C dX8_flowTogether_1 rfl (by decide) rfl ?_
  refine o_iconst C dX8_flowTogether_2 ?_
  refine o_istore_n (lv2 := [(3, vI 0), (1, vJ 0), (0, gR G 23)]) C dX8_flowTogether_3 rfl (by decide) rfl ?_
  exact WM.sub [2, 1, 0] rfl (w_X8_flowTogether_4 C hQ FU 0 ⟨by decide, by decide⟩ 0 ⟨by decide, by decide⟩ μ hμ h)
theorem c_X8_flowTogether {μ : GM} (hμ : gRg μ) {u : Int × GM} (h : f_X8_flowTogether μ = some u) : MtL 0 yX8_flowTogether cX8_flowTogether 4 (some .long) (fun ad => [.ref (ad 23)]) μ u := MtL.of pf_X8_flowTogether (fun _ => Nat.le_of_ble_eq_true rfl) (fun G C hQ => w_X8_flowTogether_0 C hQ hμ h)
def f_X8_waterTop (z1 : Int) (μ : GM) : Option (Int × GM) :=
  ck (0 ≤ z1 ∧ z1 < 6) (
  ck (0 ≤ z1 ∧ z1 < 6) (
  ck (0 ≤ z1 ∧ z1 < 6) (
  bd (f_J9_max_f86c9 0 (w64 ((μ.1 99 z1) - (w64 ((μ.1 2 z1) * (μ.2 94 7))))) μ) fun x1 μ2 =>
  some ((w64 ((μ.1 4 z1) * x1)), μ2))))
set_option maxHeartbeats 4000000 in
set_option maxRecDepth 100000 in
theorem w_X8_waterTop_0 {G : GX} {u : Int × GM} (C : CX G 1 cX8_waterTop 2 RX8) (hQ : gQL G (some .long) u) {z1 : Int} (hz1 : r32 z1) {μ : GM} (hμ : gRg μ) (h : f_X8_waterTop z1 μ = some u) : WM G 2 μ 0 [(0, gR G 23), (1, vI z1)] [] := by
  unfold f_X8_waterTop at h
  refine o_aload_n C 0 dX8_waterTop_0 rfl rfl ?_
  refine o_getR (j := 0) C kt_23 rfl rfl (Nat.le_of_ble_eq_true rfl) lkf_RX8_26 dX8_waterTop_1 ?_
  refine o_getR (j := 3) C kt_1 rfl rfl (Nat.le_of_ble_eq_true rfl) lkf_RX8_117 dX8_waterTop_4 ?_
  refine o_iload_n C 1 dX8_waterTop_7 rfl rfl ?_
  refine o_iald C kt_4 rfl hz1 dX8_waterTop_8 h (fun h => ?_)
  refine o_i2l C (hμ.i kt_4 (by decide) _) dX8_waterTop_9 ?_
  refine o_lconst (v := 0) C dX8_waterTop_10 rfl ?_
  refine o_aload_n C 0 dX8_waterTop_11 rfl rfl ?_
  refine o_getR (j := 1) C kt_23 rfl rfl (Nat.le_of_ble_eq_true rfl) lkf_RX8_30 dX8_waterTop_12 ?_
  refine o_getR (j := 6) C kt_94 rfl rfl (Nat.le_of_ble_eq_true rfl) lkf_RX8_120 dX8_waterTop_15 ?_
  refine o_iload_n C 1 dX8_waterTop_18 rfl rfl ?_
  refine o_lald C kt_99 rfl hz1 dX8_waterTop_19 h (fun h => ?_)
  refine o_aload_n C 0 dX8_waterTop_20 rfl rfl ?_
  refine o_getR (j := 0) C kt_23 rfl rfl (Nat.le_of_ble_eq_true rfl) lkf_RX8_26 dX8_waterTop_21 ?_
  refine o_getR (j := 1) C kt_1 rfl rfl (Nat.le_of_ble_eq_true rfl) lkf_RX8_123 dX8_waterTop_24 ?_
  refine o_iload_n C 1 dX8_waterTop_27 rfl rfl ?_
  refine o_iald C kt_2 rfl hz1 dX8_waterTop_28 h (fun h => ?_)
  refine o_i2l C (hμ.i kt_2 (by decide) _) dX8_waterTop_29 ?_
  refine o_aload_n C 0 dX8_waterTop_30 rfl rfl ?_
  refine o_getR (j := 1) C kt_23 rfl rfl (Nat.le_of_ble_eq_true rfl) lkf_RX8_30 dX8_waterTop_31 ?_
  refine o_getJ (j := 7) C kt_94 rfl rfl (Nat.le_of_ble_eq_true rfl) lkf_RX8_96 dX8_waterTop_34 ?_
  refine o_lmul C dX8_waterTop_37 ?_
  refine o_lsub C dX8_waterTop_38 ?_
  refine o_cSL C [vJ 0, vJ (w64 ((μ.1 99 z1) - (w64 ((μ.1 2 z1) * (μ.2 94 7)))))] mb_J9_max_f86c9 (by decide) (fun _ hu => c_J9_max_f86c9 ⟨by decide, by decide⟩ (r64_w _) hμ hu) rfl (Nat.le_of_ble_eq_true rfl) h ms_J9_max_f86c9 lkm_RX8_126 rfl rfl dX8_waterTop_39 (fun x1 μ2 hx1 hμ2 h => ?_)
  refine o_lmul C dX8_waterTop_42 ?_
  exact o_lret C hQ dX8_waterTop_43 h (r64_w _) hμ2
theorem c_X8_waterTop {z1 : Int} (hz1 : r32 z1) {μ : GM} (hμ : gRg μ) {u : Int × GM} (h : f_X8_waterTop z1 μ = some u) : MtL 1 yX8_waterTop cX8_waterTop 2 (some .long) (fun ad => [.ref (ad 23), vI z1]) μ u := MtL.of pf_X8_waterTop (fun _ => Nat.le_of_ble_eq_true rfl) (fun G C hQ => w_X8_waterTop_0 C hQ hz1 hμ h)
def f_X11_longMilliOf (z0 : Int) (z2 : Int) (μ : GM) : Option (Int × GM) :=
  if z2 < 1 then
    some (0, μ)
  else
    bd (f_J9_floorDiv_f86c9 (w64 (1000 * z0)) z2 μ) fun x1 μ2 =>
    some (x1, μ2)
set_option maxHeartbeats 4000000 in
set_option maxRecDepth 100000 in
theorem w_X11_longMilliOf_0 {G : GX} {u : Int × GM} (C : CX G 1 cX11_longMilliOf 4 RX11) (hQ : gQL G (some .long) u) {z0 : Int} (hz0 : r64 z0) {z2 : Int} (hz2 : r64 z2) {μ : GM} (hμ : gRg μ) (h : f_X11_longMilliOf z0 z2 μ = some u) : WM G 4 μ 0 [(0, vJ z0), (2, vJ z2)] [] := by
  unfold f_X11_longMilliOf at h
  refine o_lload_n C 1 dX11_longMilliOf_0 rfl rfl ?_
  refine o_lconst (v := 1) C dX11_longMilliOf_1 rfl ?_
  refine o_lcmp_ge (tgt := 10) C hz2 ⟨by decide, by decide⟩ dX11_longMilliOf_2 dX11_longMilliOf_3 (by decide) h (fun _ h => ?_) (fun _ h => ?_)
  · refine o_ldc2 (v := 1000) C lkc_RX11_328 rfl dX11_longMilliOf_10 ?_
    refine o_lload_n C 0 dX11_longMilliOf_13 rfl rfl ?_
    refine o_lmul C dX11_longMilliOf_14 ?_
    refine o_lload_n C 1 dX11_longMilliOf_15 rfl rfl ?_
    refine o_cSL C [vJ (w64 (1000 * z0)), vJ z2] mb_J9_floorDiv_f86c9 (by decide) (fun _ hu => c_J9_floorDiv_f86c9 (r64_w _) hz2 hμ hu) rfl (Nat.le_of_ble_eq_true rfl) h ms_J9_floorDiv_f86c9 lkm_RX11_330 rfl rfl dX11_longMilliOf_16 (fun x1 μ2 hx1 hμ2 h => ?_)
    exact o_lret C hQ dX11_longMilliOf_19 h hx1 hμ2
  · refine o_lconst (v := 0) C dX11_longMilliOf_6 rfl ?_
    refine o_goto (tgt := 19) C dX11_longMilliOf_7 (by decide) ?_
    exact o_lret C hQ dX11_longMilliOf_19 h ⟨by decide, by decide⟩ hμ
theorem c_X11_longMilliOf {z0 : Int} (hz0 : r64 z0) {z2 : Int} (hz2 : r64 z2) {μ : GM} (hμ : gRg μ) {u : Int × GM} (h : f_X11_longMilliOf z0 z2 μ = some u) : MtL 1 yX11_longMilliOf cX11_longMilliOf 4 (some .long) (fun ad => [vJ z0, vJ z2]) μ u := MtL.of pf_X11_longMilliOf (fun _ => Nat.le_of_ble_eq_true rfl) (fun G C hQ => w_X11_longMilliOf_0 C hQ hz0 hz2 hμ h)
def k_X8_milliOfWay_8 : Nat → Int → Int → Int → GM → Option (Int × GM)
  | 0, _, _, _, _ => none
  | n + 1, z2, z4, z5, μ =>
    if z5 < 6 then
      bd (f_X2_hasCell z4 μ) fun x1 μ2 =>
      if x1 = 0 then
        some (z2, μ2)
      else
        bd (f_X8_onward z4 μ2) fun x3 μ4 =>
        if 0 < (μ4.2 23 2) then
          bd (f_X8_waterTop z4 μ4) fun x6 μ7 =>
          bd (f_X8_flowTogether μ7) fun x8 μ9 =>
          bd (f_X11_longMilliOf x6 x8 μ9) fun x10 μ11 =>
          lt (w64 (z2 + x10)) fun x12 =>
          lt (w32 (z5 + 1)) fun x13 =>
          k_X8_milliOfWay_8 n x12 x3 x13 μ11
        else
          lt (w32 (z5 + 1)) fun x5 =>
          k_X8_milliOfWay_8 n z2 x3 x5 μ4
    else
      some (z2, μ)
set_option maxHeartbeats 4000000 in
set_option maxRecDepth 100000 in
theorem w_X8_milliOfWay_8 {G : GX} {u : Int × GM} (C : CX G 3 cX8_milliOfWay 7 RX8) (hQ : gQL G (some .long) u) : ∀ (n : Nat) (z2 : Int) (hz2 : r64 z2) (z4 : Int) (hz4 : r32 z4) (z5 : Int) (hz5 : r32 z5) (μ : GM) (hμ : gRg μ), k_X8_milliOfWay_8 n z2 z4 z5 μ = some u → WM G 7 μ 8 [(0, gR G 23), (2, vJ z2), (4, vI z4), (5, vI z5)] [] := by
  intro n
  induction n with
  | zero =>
    intro z2 hz2 z4 hz4 z5 hz5 μ hμ h
    cases h
  | succ n ih =>
    intro z2 hz2 z4 hz4 z5 hz5 μ hμ h
    rw [k_X8_milliOfWay_8] at h
    refine o_iload C 3 dX8_milliOfWay_8 rfl ?_
    refine o_bipush (v := 6) C dX8_milliOfWay_10 (by decide) ?_
    refine o_icmp_ge (tgt := 68) C hz5 ⟨by decide, by decide⟩ dX8_milliOfWay_12 (by decide) h (fun _ h => ?_) (fun _ h => ?_)
    · refine o_lload_n C 1 dX8_milliOfWay_68 rfl rfl ?_
      exact o_lret C hQ dX8_milliOfWay_69 h hz2 hμ
    · refine o_aload_n C 0 dX8_milliOfWay_15 rfl rfl ?_
      refine o_getR (j := 0) C kt_23 rfl rfl (Nat.le_of_ble_eq_true rfl) lkf_RX8_26 dX8_milliOfWay_16 ?_
      refine o_iload C 2 dX8_milliOfWay_19 rfl ?_
      refine o_cVI C [vI z4] mb_X2_hasCell (by decide) (fun _ hu => c_X2_hasCell hz4 hμ hu) rfl (Nat.le_of_ble_eq_true rfl) h mi_X2_hasCell me_X2_hasCell lkm_RX8_109 kt_1 rfl rfl rfl dX8_milliOfWay_21 (fun x1 μ2 hx1 hμ2 h => ?_)
      refine o_if_eq (tgt := 68) C hx1 dX8_milliOfWay_24 (by decide) h (fun _ h => ?_) (fun _ h => ?_)
      · refine o_lload_n C 1 dX8_milliOfWay_68 rfl rfl ?_
        exact o_lret C hQ dX8_milliOfWay_69 h hz2 hμ2
      · refine o_aload_n C 0 dX8_milliOfWay_27 rfl rfl ?_
        refine o_iload C 2 dX8_milliOfWay_28 rfl ?_
        refine o_cVI C [vI z4] mb_X8_onward (by decide) (fun _ hu => c_X8_onward hz4 hμ2 hu) rfl (Nat.le_of_ble_eq_true rfl) h mi_X8_onward me_X8_onward lkm_RX8_113 kt_23 rfl rfl rfl dX8_milliOfWay_30 (fun x3 μ4 hx3 hμ4 h => ?_)
        refine o_istore (lv2 := [(6, vI x3), (0, gR G 23), (2, vJ z2), (4, vI z4), (5, vI z5)]) C dX8_milliOfWay_33 (by decide) rfl ?_
        refine o_aload_n C 1 dX8_milliOfWay_35 rfl rfl ?_
        refine o_getI (j := 2) C kt_23 rfl rfl (Nat.le_of_ble_eq_true rfl) lkf_RX8_9 dX8_milliOfWay_36 ?_
        refine o_if_le (tgt := 58) C (hμ4.fi kt_23 rfl (by decide)) dX8_milliOfWay_39 (by decide) h (fun _ h => ?_) (fun _ h => ?_)
        · refine o_iload C 0 dX8_milliOfWay_58 rfl ?_
          refine o_istore (lv2 := [(4, vI x3), (6, vI x3), (0, gR G 23), (2, vJ z2), (5, vI z5)]) C dX8_milliOfWay_60 (by decide) rfl ?_
          refine o_iinc (lv2 := fun x5 => [(5, vI x5), (4, vI x3), (6, vI x3), (0, gR G 23), (2, vJ z2)]) C 4 dX8_milliOfWay_62 rfl (by decide) (fun _ => rfl) h (fun x5 hx5 h => ?_)
          refine o_goto (tgt := 8) C dX8_milliOfWay_65 (by decide) ?_
          exact WM.sub [3, 4, 1, 0] rfl (ih z2 hz2 x3 hx3 x5 hx5 μ4 hμ4 h)
        · refine o_lload_n C 2 dX8_milliOfWay_42 rfl rfl ?_
          refine o_aload_n C 1 dX8_milliOfWay_43 rfl rfl ?_
          refine o_iload C 3 dX8_milliOfWay_44 rfl ?_
          refine o_cVL C [vI z4] mb_X8_waterTop (by decide) (fun _ hu => c_X8_waterTop hz4 hμ4 hu) rfl (Nat.le_of_ble_eq_true rfl) h mi_X8_waterTop me_X8_waterTop lkm_RX8_132 kt_23 rfl rfl rfl dX8_milliOfWay_46 (fun x6 μ7 hx6 hμ7 h => ?_)
          refine o_aload_n C 1 dX8_milliOfWay_49 rfl rfl ?_
          refine o_cVL C [] mb_X8_flowTogether (by decide) (fun _ hu => c_X8_flowTogether hμ7 hu) rfl (Nat.le_of_ble_eq_true rfl) h mi_X8_flowTogether me_X8_flowTogether lkm_RX8_135 kt_23 rfl rfl rfl dX8_milliOfWay_50 (fun x8 μ9 hx8 hμ9 h => ?_)
          refine o_cNL C [vJ x6, vJ x8] mb_X11_longMilliOf (by decide) (fun _ hu => c_X11_longMilliOf hx6 hx8 hμ9 hu) rfl (Nat.le_of_ble_eq_true rfl) h ms_X11_longMilliOf lkm_RX8_139 rfl rfl dX8_milliOfWay_53 (fun x10 μ11 hx10 hμ11 h => ?_)
          refine o_ladd C dX8_milliOfWay_56 ?_
          refine o_ltl h (r64_w _) (fun x12 hx12 h => ?_)
          refine o_lstore_n (lv2 := [(2, vJ x12), (6, vI x3), (0, gR G 23), (4, vI z4), (5, vI z5)]) C dX8_milliOfWay_57 rfl (by decide) rfl ?_
          refine o_iload C 1 dX8_milliOfWay_58 rfl ?_
          refine o_istore (lv2 := [(4, vI x3), (2, vJ x12), (6, vI x3), (0, gR G 23), (5, vI z5)]) C dX8_milliOfWay_60 (by decide) rfl ?_
          refine o_iinc (lv2 := fun x13 => [(5, vI x13), (4, vI x3), (2, vJ x12), (6, vI x3), (0, gR G 23)]) C 4 dX8_milliOfWay_62 rfl (by decide) (fun _ => rfl) h (fun x13 hx13 h => ?_)
          refine o_goto (tgt := 8) C dX8_milliOfWay_65 (by decide) ?_
          exact WM.sub [4, 2, 1, 0] rfl (ih x12 hx12 x3 hx3 x13 hx13 μ11 hμ11 h)
def f_X8_milliOfWay (z1 : Int) (μ : GM) : Option (Int × GM) :=
  k_X8_milliOfWay_8 FU 0 z1 0 μ
set_option maxHeartbeats 4000000 in
set_option maxRecDepth 100000 in
theorem w_X8_milliOfWay_0 {G : GX} {u : Int × GM} (C : CX G 3 cX8_milliOfWay 7 RX8) (hQ : gQL G (some .long) u) {z1 : Int} (hz1 : r32 z1) {μ : GM} (hμ : gRg μ) (h : f_X8_milliOfWay z1 μ = some u) : WM G 7 μ 0 [(0, gR G 23), (1, vI z1)] [] := by
  unfold f_X8_milliOfWay at h
  refine o_lconst (v := 0) C dX8_milliOfWay_0 rfl ?_
  refine o_lstore_n (lv2 := [(2, vJ 0), (0, gR G 23), (1, vI z1)]) C dX8_milliOfWay_1 rfl (by decide) rfl ?_
  refine o_iload_n C 2 dX8_milliOfWay_2 rfl rfl ?_
  refine o_istore (lv2 := [(4, vI z1), (2, vJ 0), (0, gR G 23), (1, vI z1)]) C dX8_milliOfWay_3 (by decide) rfl ?_
  refine o_iconst C dX8_milliOfWay_5 ?_
  refine o_istore (lv2 := [(5, vI 0), (4, vI z1), (2, vJ 0), (0, gR G 23), (1, vI z1)]) C dX8_milliOfWay_6 (by decide) rfl ?_
  exact WM.sub [3, 2, 1, 0] rfl (w_X8_milliOfWay_8 C hQ FU 0 ⟨by decide, by decide⟩ z1 hz1 0 ⟨by decide, by decide⟩ μ hμ h)
theorem c_X8_milliOfWay {z1 : Int} (hz1 : r32 z1) {μ : GM} (hμ : gRg μ) {u : Int × GM} (h : f_X8_milliOfWay z1 μ = some u) : MtL 3 yX8_milliOfWay cX8_milliOfWay 7 (some .long) (fun ad => [.ref (ad 23), vI z1]) μ u := MtL.of pf_X8_milliOfWay (fun _ => Nat.le_of_ble_eq_true rfl) (fun G C hQ => w_X8_milliOfWay_0 C hQ hz1 hμ h)
def k_X8_withFeeders_79 (kL4 : Int → Int → Int → GM → Option (Int × GM)) (z1 : Int) (z2 : Int) (z3 : Int) (z4 : Int) (z6 : Int) (z7 : Int) (μ : GM) : Option (Int × GM) :=
  if z4 < 0 then
    if (gand z1 z6) = 0 then
      lt (w32 (z3 + 1)) fun x2 =>
      kL4 z1 z2 x2 μ
    else
      lt (gor z2 z7) fun x3 =>
      lt (w32 (z3 + 1)) fun x4 =>
      kL4 z1 x3 x4 μ
  else
    lt (w32 (z3 + 1)) fun x1 =>
    kL4 z1 z2 x1 μ
set_option maxHeartbeats 4000000 in
set_option maxRecDepth 100000 in
theorem w_X8_withFeeders_79 {G : GX} {u : Int × GM} (C : CX G 1 cX8_withFeeders 8 RX8) (hQ : gQI G (some .int) u) {kL4 : Int → Int → Int → GM → Option (Int × GM)} (hL4 : ∀ (z1 : Int) (hz1 : r32 z1) (z2 : Int) (hz2 : r32 z2) (z3 : Int) (hz3 : r32 z3) (μ : GM) (hμ : gRg μ), kL4 z1 z2 z3 μ = some u → WM G 8 μ 4 [(0, gR G 23), (1, vI z1), (2, vI z2), (3, vI z3)] []) {z1 : Int} (hz1 : r32 z1) {z2 : Int} (hz2 : r32 z2) {z3 : Int} (hz3 : r32 z3) {z4 : Int} (hz4 : r64 z4) {z6 : Int} (hz6 : r32 z6) {z7 : Int} (hz7 : r32 z7) {μ : GM} (hμ : gRg μ) (h : k_X8_withFeeders_79 kL4 z1 z2 z3 z4 z6 z7 μ = some u) : WM G 8 μ 79 [(0, gR G 23), (1, vI z1), (2, vI z2), (3, vI z3), (4, vJ z4), (6, vI z6), (7, vI z7)] [] := by
  unfold k_X8_withFeeders_79 at h
  refine o_lload C 4 dX8_withFeeders_79 rfl ?_
  refine o_lconst (v := 0) C dX8_withFeeders_81 rfl ?_
  refine o_lcmp_ge (tgt := 98) C hz4 ⟨by decide, by decide⟩ dX8_withFeeders_82 dX8_withFeeders_83 (by decide) h (fun _ h => ?_) (fun _ h => ?_)
  · refine o_iinc (lv2 := fun x1 => [(3, vI x1), (0, gR G 23), (1, vI z1), (2, vI z2), (4, vJ z4), (6, vI z6), (7, vI z7)]) C 3 dX8_withFeeders_98 rfl (by decide) (fun _ => rfl) h (fun x1 hx1 h => ?_)
    refine o_goto (tgt := 4) C dX8_withFeeders_101 (by decide) ?_
    exact WM.sub [1, 2, 3, 0] rfl (hL4 z1 hz1 z2 hz2 x1 hx1 μ hμ h)
  · refine o_iload_n C 1 dX8_withFeeders_86 rfl rfl ?_
    refine o_iload C 5 dX8_withFeeders_87 rfl ?_
    refine o_iand C dX8_withFeeders_89 ?_
    refine o_if_eq (tgt := 98) C (r32_toInt _) dX8_withFeeders_90 (by decide) h (fun _ h => ?_) (fun _ h => ?_)
    · refine o_iinc (lv2 := fun x2 => [(3, vI x2), (0, gR G 23), (1, vI z1), (2, vI z2), (4, vJ z4), (6, vI z6), (7, vI z7)]) C 3 dX8_withFeeders_98 rfl (by decide) (fun _ => rfl) h (fun x2 hx2 h => ?_)
      refine o_goto (tgt := 4) C dX8_withFeeders_101 (by decide) ?_
      exact WM.sub [1, 2, 3, 0] rfl (hL4 z1 hz1 z2 hz2 x2 hx2 μ hμ h)
    · refine o_iload_n C 2 dX8_withFeeders_93 rfl rfl ?_
      refine o_iload C 6 dX8_withFeeders_94 rfl ?_
      refine o_ior C dX8_withFeeders_96 ?_
      refine o_lt h (r32_toInt _) (fun x3 hx3 h => ?_)
      refine o_istore_n (lv2 := [(2, vI x3), (0, gR G 23), (1, vI z1), (3, vI z3), (4, vJ z4), (6, vI z6), (7, vI z7)]) C dX8_withFeeders_97 rfl (by decide) rfl ?_
      refine o_iinc (lv2 := fun x4 => [(3, vI x4), (2, vI x3), (0, gR G 23), (1, vI z1), (4, vJ z4), (6, vI z6), (7, vI z7)]) C 3 dX8_withFeeders_98 rfl (by decide) (fun _ => rfl) h (fun x4 hx4 h => ?_)
      refine o_goto (tgt := 4) C dX8_withFeeders_101 (by decide) ?_
      exact WM.sub [2, 3, 1, 0] rfl (hL4 z1 hz1 x3 hx3 x4 hx4 μ hμ h)
def k_X8_withFeeders_4 : Nat → Int → Int → Int → GM → Option (Int × GM)
  | 0, _, _, _, _ => none
  | n + 1, z1, z2, z3, μ =>
    if z3 < (μ.2 5 0) then
      bd (f_X6_linkTop 94 z3 μ) fun x1 μ2 =>
      ck (0 ≤ z3 ∧ z3 < 12) (
      lt (gshl 1 (μ2.1 6 z3)) fun x3 =>
      ck (0 ≤ z3 ∧ z3 < 12) (
      lt (gshl 1 (μ2.1 7 z3)) fun x4 =>
      if 0 < x1 then
        if (gand z1 x4) = 0 then
          k_X8_withFeeders_79 (k_X8_withFeeders_4 n) z1 z2 z3 x1 x3 x4 μ2
        else
          lt (gor z2 x3) fun x5 =>
          k_X8_withFeeders_79 (k_X8_withFeeders_4 n) z1 x5 z3 x1 x3 x4 μ2
      else
        k_X8_withFeeders_79 (k_X8_withFeeders_4 n) z1 z2 z3 x1 x3 x4 μ2))
    else
      some (z2, μ)
set_option maxHeartbeats 4000000 in
set_option maxRecDepth 100000 in
theorem w_X8_withFeeders_4 {G : GX} {u : Int × GM} (C : CX G 1 cX8_withFeeders 8 RX8) (hQ : gQI G (some .int) u) : ∀ (n : Nat) (z1 : Int) (hz1 : r32 z1) (z2 : Int) (hz2 : r32 z2) (z3 : Int) (hz3 : r32 z3) (μ : GM) (hμ : gRg μ), k_X8_withFeeders_4 n z1 z2 z3 μ = some u → WM G 8 μ 4 [(0, gR G 23), (1, vI z1), (2, vI z2), (3, vI z3)] [] := by
  intro n
  induction n with
  | zero =>
    intro z1 hz1 z2 hz2 z3 hz3 μ hμ h
    cases h
  | succ n ih =>
    intro z1 hz1 z2 hz2 z3 hz3 μ hμ h
    rw [k_X8_withFeeders_4] at h
    refine o_iload_n C 3 dX8_withFeeders_4 rfl rfl ?_
    refine o_aload_n C 0 dX8_withFeeders_5 rfl rfl ?_
    refine o_getR (j := 0) C kt_23 rfl rfl (Nat.le_of_ble_eq_true rfl) lkf_RX8_26 dX8_withFeeders_6 ?_
    refine o_getR (j := 4) C kt_1 rfl rfl (Nat.le_of_ble_eq_true rfl) lkf_RX8_34 dX8_withFeeders_9 ?_
    refine o_getI (j := 0) C kt_5 rfl rfl (Nat.le_of_ble_eq_true rfl) lkf_RX8_40 dX8_withFeeders_12 ?_
    refine o_icmp_ge (tgt := 104) C hz3 (hμ.fi kt_5 rfl (by decide)) dX8_withFeeders_15 (by decide) h (fun _ h => ?_) (fun _ h => ?_)
    · refine o_iload_n C 2 dX8_withFeeders_104 rfl rfl ?_
      exact o_iret C hQ dX8_withFeeders_105 h hz2 hμ
    · refine o_aload_n C 0 dX8_withFeeders_18 rfl rfl ?_
      refine o_getR (j := 1) C kt_23 rfl rfl (Nat.le_of_ble_eq_true rfl) lkf_RX8_30 dX8_withFeeders_19 ?_
      refine o_iload_n C 3 dX8_withFeeders_22 rfl rfl ?_
      refine o_cVL C [vI z3] mb_X6_linkTop (by decide) (fun _ hu => c_X6_linkTop gRt_A hz3 hμ hu) rfl (Nat.le_of_ble_eq_true rfl) h mi_X6_linkTop me_X6_linkTop lkm_RX8_45 kt_94 rfl rfl rfl dX8_withFeeders_23 (fun x1 μ2 hx1 hμ2 h => ?_)
      refine o_lstore (lv2 := [(4, vJ x1), (0, gR G 23), (1, vI z1), (2, vI z2), (3, vI z3)]) C dX8_withFeeders_26 (by decide) rfl ?_
      refine o_iconst C dX8_withFeeders_28 ?_
      refine o_aload_n C 1 dX8_withFeeders_29 rfl rfl ?_
      refine o_getR (j := 0) C kt_23 rfl rfl (Nat.le_of_ble_eq_true rfl) lkf_RX8_26 dX8_withFeeders_30 ?_
      refine o_getR (j := 4) C kt_1 rfl rfl (Nat.le_of_ble_eq_true rfl) lkf_RX8_34 dX8_withFeeders_33 ?_
      refine o_getR (j := 1) C kt_5 rfl rfl (Nat.le_of_ble_eq_true rfl) lkf_RX8_51 dX8_withFeeders_36 ?_
      refine o_iload_n C 4 dX8_withFeeders_39 rfl rfl ?_
      refine o_iald C kt_6 rfl hz3 dX8_withFeeders_40 h (fun h => ?_)
      refine o_ishl C dX8_withFeeders_41 ?_
      refine o_lt h (r32_toInt _) (fun x3 hx3 h => ?_)
      refine o_istore (lv2 := [(6, vI x3), (4, vJ x1), (0, gR G 23), (1, vI z1), (2, vI z2), (3, vI z3)]) C dX8_withFeeders_42 (by decide) rfl ?_
      refine o_iconst C dX8_withFeeders_44 ?_
      refine o_aload_n C 2 dX8_withFeeders_45 rfl rfl ?_
      refine o_getR (j := 0) C kt_23 rfl rfl (Nat.le_of_ble_eq_true rfl) lkf_RX8_26 dX8_withFeeders_46 ?_
      refine o_getR (j := 4) C kt_1 rfl rfl (Nat.le_of_ble_eq_true rfl) lkf_RX8_34 dX8_withFeeders_49 ?_
      refine o_getR (j := 2) C kt_5 rfl rfl (Nat.le_of_ble_eq_true rfl) lkf_RX8_54 dX8_withFeeders_52 ?_
      refine o_iload_n C 5 dX8_withFeeders_55 rfl rfl ?_
      refine o_iald C kt_7 rfl hz3 dX8_withFeeders_56 h (fun h => ?_)
      refine o_ishl C dX8_withFeeders_57 ?_
      refine o_lt h (r32_toInt _) (fun x4 hx4 h => ?_)
      refine o_istore (lv2 := [(7, vI x4), (6, vI x3), (4, vJ x1), (0, gR G 23), (1, vI z1), (2, vI z2), (3, vI z3)]) C dX8_withFeeders_58 (by decide) rfl ?_
      refine o_lload C 2 dX8_withFeeders_60 rfl ?_
      refine o_lconst (v := 0) C dX8_withFeeders_62 rfl ?_
      refine o_lcmp_le (tgt := 79) C hx1 ⟨by decide, by decide⟩ dX8_withFeeders_63 dX8_withFeeders_64 (by decide) h (fun _ h => ?_) (fun _ h => ?_)
      · exact WM.sub [3, 4, 5, 6, 2, 1, 0] rfl (w_X8_withFeeders_79 C hQ ih hz1 hz2 hz3 hx1 hx3 hx4 hμ2 h)
      · refine o_iload_n C 4 dX8_withFeeders_67 rfl rfl ?_
        refine o_iload C 0 dX8_withFeeders_68 rfl ?_
        refine o_iand C dX8_withFeeders_70 ?_
        refine o_if_eq (tgt := 79) C (r32_toInt _) dX8_withFeeders_71 (by decide) h (fun _ h => ?_) (fun _ h => ?_)
        · exact WM.sub [3, 4, 5, 6, 2, 1, 0] rfl (w_X8_withFeeders_79 C hQ ih hz1 hz2 hz3 hx1 hx3 hx4 hμ2 h)
        · refine o_iload_n C 5 dX8_withFeeders_74 rfl rfl ?_
          refine o_iload C 1 dX8_withFeeders_75 rfl ?_
          refine o_ior C dX8_withFeeders_77 ?_
          refine o_lt h (r32_toInt _) (fun x5 hx5 h => ?_)
          refine o_istore_n (lv2 := [(2, vI x5), (7, vI x4), (6, vI x3), (4, vJ x1), (0, gR G 23), (1, vI z1), (3, vI z3)]) C dX8_withFeeders_78 rfl (by decide) rfl ?_
          exact WM.sub [4, 5, 0, 6, 3, 2, 1] rfl (w_X8_withFeeders_79 C hQ ih hz1 hx5 hz3 hx1 hx3 hx4 hμ2 h)
def f_X8_withFeeders (z1 : Int) (μ : GM) : Option (Int × GM) :=
  k_X8_withFeeders_4 FU z1 z1 0 μ
set_option maxHeartbeats 4000000 in
set_option maxRecDepth 100000 in
theorem w_X8_withFeeders_0 {G : GX} {u : Int × GM} (C : CX G 1 cX8_withFeeders 8 RX8) (hQ : gQI G (some .int) u) {z1 : Int} (hz1 : r32 z1) {μ : GM} (hμ : gRg μ) (h : f_X8_withFeeders z1 μ = some u) : WM G 8 μ 0 [(0, gR G 23), (1, vI z1)] [] := by
  unfold f_X8_withFeeders at h
  refine o_iload_n C 1 dX8_withFeeders_0 rfl rfl ?_
  refine o_istore_n (lv2 := [(2, vI z1), (0, gR G 23), (1, vI z1)]) C dX8_withFeeders_1 rfl (by decide) rfl ?_
  refine o_iconst C dX8_withFeeders_2 ?_
  refine o_istore_n (lv2 := [(3, vI 0), (2, vI z1), (0, gR G 23), (1, vI z1)]) C dX8_withFeeders_3 rfl (by decide) rfl ?_
  exact WM.sub [2, 3, 1, 0] rfl (w_X8_withFeeders_4 C hQ FU z1 hz1 z1 hz1 0 ⟨by decide, by decide⟩ μ hμ h)
theorem c_X8_withFeeders {z1 : Int} (hz1 : r32 z1) {μ : GM} (hμ : gRg μ) {u : Int × GM} (h : f_X8_withFeeders z1 μ = some u) : MtI 1 yX8_withFeeders cX8_withFeeders 8 (some .int) (fun ad => [.ref (ad 23), vI z1]) μ u := MtI.of pf_X8_withFeeders (fun _ => Nat.le_of_ble_eq_true rfl) (fun G C hQ => w_X8_withFeeders_0 C hQ hz1 hμ h)
def k_X8_zoneOf_34 : Nat → Int → Int → GM → Option (Int × GM)
  | 0, _, _, _ => none
  | n + 1, z2, z3, μ =>
    if z3 < 6 then
      bd (f_X8_withFeeders z2 μ) fun x1 μ2 =>
      lt (w32 (z3 + 1)) fun x3 =>
      k_X8_zoneOf_34 n x1 x3 μ2
    else
      some (z2, μ)
set_option maxHeartbeats 4000000 in
set_option maxRecDepth 100000 in
theorem w_X8_zoneOf_34 {G : GX} {u : Int × GM} (C : CX G 2 cX8_zoneOf 4 RX8) (hQ : gQI G (some .int) u) : ∀ (n : Nat) (z2 : Int) (hz2 : r32 z2) (z3 : Int) (hz3 : r32 z3) (μ : GM) (hμ : gRg μ), k_X8_zoneOf_34 n z2 z3 μ = some u → WM G 4 μ 34 [(0, gR G 23), (2, vI z2), (3, vI z3)] [] := by
  intro n
  induction n with
  | zero =>
    intro z2 hz2 z3 hz3 μ hμ h
    cases h
  | succ n ih =>
    intro z2 hz2 z3 hz3 μ hμ h
    rw [k_X8_zoneOf_34] at h
    refine o_iload_n C 2 dX8_zoneOf_34 rfl rfl ?_
    refine o_bipush (v := 6) C dX8_zoneOf_35 (by decide) ?_
    refine o_icmp_ge (tgt := 52) C hz3 ⟨by decide, by decide⟩ dX8_zoneOf_37 (by decide) h (fun _ h => ?_) (fun _ h => ?_)
    · refine o_iload_n C 1 dX8_zoneOf_52 rfl rfl ?_
      exact o_iret C hQ dX8_zoneOf_53 h hz2 hμ
    · refine o_aload_n C 0 dX8_zoneOf_40 rfl rfl ?_
      refine o_iload_n C 1 dX8_zoneOf_41 rfl rfl ?_
      refine o_cVI C [vI z2] mb_X8_withFeeders (by decide) (fun _ hu => c_X8_withFeeders hz2 hμ hu) rfl (Nat.le_of_ble_eq_true rfl) h mi_X8_withFeeders me_X8_withFeeders lkm_RX8_142 kt_23 rfl rfl rfl dX8_zoneOf_42 (fun x1 μ2 hx1 hμ2 h => ?_)
      refine o_istore_n (lv2 := [(2, vI x1), (0, gR G 23), (3, vI z3)]) C dX8_zoneOf_45 rfl (by decide) rfl ?_
      refine o_iinc (lv2 := fun x3 => [(3, vI x3), (2, vI x1), (0, gR G 23)]) C 2 dX8_zoneOf_46 rfl (by decide) (fun _ => rfl) h (fun x3 hx3 h => ?_)
      refine o_goto (tgt := 34) C dX8_zoneOf_49 (by decide) ?_
      exact WM.sub [2, 1, 0] rfl (ih x1 hx1 x3 hx3 μ2 hμ2 h)
def f_X8_zoneOf (z1 : Int) (μ : GM) : Option (Int × GM) :=
  ck (0 ≤ z1 ∧ z1 < 3) (
  if (μ.1 22 z1) = 0 then
    some (0, μ)
  else
    ck (0 ≤ z1 ∧ z1 < 3) (
    lt (gshl 1 (μ.1 19 z1)) fun x1 =>
    k_X8_zoneOf_34 FU x1 0 μ))
set_option maxHeartbeats 4000000 in
set_option maxRecDepth 100000 in
theorem w_X8_zoneOf_0 {G : GX} {u : Int × GM} (C : CX G 2 cX8_zoneOf 4 RX8) (hQ : gQI G (some .int) u) {z1 : Int} (hz1 : r32 z1) {μ : GM} (hμ : gRg μ) (h : f_X8_zoneOf z1 μ = some u) : WM G 4 μ 0 [(0, gR G 23), (1, vI z1)] [] := by
  unfold f_X8_zoneOf at h
  refine o_aload_n C 0 dX8_zoneOf_0 rfl rfl ?_
  refine o_getR (j := 0) C kt_23 rfl rfl (Nat.le_of_ble_eq_true rfl) lkf_RX8_26 dX8_zoneOf_1 ?_
  refine o_getR (j := 7) C kt_1 rfl rfl (Nat.le_of_ble_eq_true rfl) lkf_RX8_85 dX8_zoneOf_4 ?_
  refine o_getR (j := 4) C kt_18 rfl rfl (Nat.le_of_ble_eq_true rfl) lkf_RX8_93 dX8_zoneOf_7 ?_
  refine o_iload_n C 1 dX8_zoneOf_10 rfl rfl ?_
  refine o_iald C kt_22 rfl hz1 dX8_zoneOf_11 h (fun h => ?_)
  refine o_if_ne (tgt := 17) C (hμ.i kt_22 (by decide) _) dX8_zoneOf_12 (by decide) h (fun _ h => ?_) (fun _ h => ?_)
  · refine o_iconst C dX8_zoneOf_17 ?_
    refine o_aload_n C 0 dX8_zoneOf_18 rfl rfl ?_
    refine o_getR (j := 0) C kt_23 rfl rfl (Nat.le_of_ble_eq_true rfl) lkf_RX8_26 dX8_zoneOf_19 ?_
    refine o_getR (j := 7) C kt_1 rfl rfl (Nat.le_of_ble_eq_true rfl) lkf_RX8_85 dX8_zoneOf_22 ?_
    refine o_getR (j := 1) C kt_18 rfl rfl (Nat.le_of_ble_eq_true rfl) lkf_RX8_92 dX8_zoneOf_25 ?_
    refine o_iload_n C 1 dX8_zoneOf_28 rfl rfl ?_
    refine o_iald C kt_19 rfl hz1 dX8_zoneOf_29 h (fun h => ?_)
    refine o_ishl C dX8_zoneOf_30 ?_
    refine o_lt h (r32_toInt _) (fun x1 hx1 h => ?_)
    refine o_istore_n (lv2 := [(2, vI x1), (0, gR G 23), (1, vI z1)]) C dX8_zoneOf_31 rfl (by decide) rfl ?_
    refine o_iconst C dX8_zoneOf_32 ?_
    refine o_istore_n (lv2 := [(3, vI 0), (2, vI x1), (0, gR G 23), (1, vI z1)]) C dX8_zoneOf_33 rfl (by decide) rfl ?_
    exact WM.sub [2, 1, 0] rfl (w_X8_zoneOf_34 C hQ FU x1 hx1 0 ⟨by decide, by decide⟩ μ hμ h)
  · refine o_iconst C dX8_zoneOf_15 ?_
    exact o_iret C hQ dX8_zoneOf_16 h ⟨by decide, by decide⟩ hμ
theorem c_X8_zoneOf {z1 : Int} (hz1 : r32 z1) {μ : GM} (hμ : gRg μ) {u : Int × GM} (h : f_X8_zoneOf z1 μ = some u) : MtI 2 yX8_zoneOf cX8_zoneOf 4 (some .int) (fun ad => [.ref (ad 23), vI z1]) μ u := MtI.of pf_X8_zoneOf (fun _ => Nat.le_of_ble_eq_true rfl) (fun G C hQ => w_X8_zoneOf_0 C hQ hz1 hμ h)
def k_X8_highestBut_5 : Nat → Int → Int → Int → GM → Option (Int × GM)
  | 0, _, _, _, _ => none
  | n + 1, z1, z2, z3, μ =>
    if z3 < (μ.2 1 0) then
      if (gand (gshr z1 z3) 1) = 0 then
        if z2 = (-10000009) then
          lt (w32 (z3 + 1)) fun x2 =>
          k_X8_highestBut_5 n z1 z3 x2 μ
        else
          ck (0 ≤ z3 ∧ z3 < 6) (
          ck (0 ≤ z2 ∧ z2 < 6) (
          if (μ.1 99 z2) < (μ.1 99 z3) then
            lt (w32 (z3 + 1)) fun x4 =>
            k_X8_highestBut_5 n z1 z3 x4 μ
          else
            lt (w32 (z3 + 1)) fun x3 =>
            k_X8_highestBut_5 n z1 z2 x3 μ))
      else
        lt (w32 (z3 + 1)) fun x1 =>
        k_X8_highestBut_5 n z1 z2 x1 μ
    else
      some (z2, μ)
set_option maxHeartbeats 4000000 in
set_option maxRecDepth 100000 in
theorem w_X8_highestBut_5 {G : GX} {u : Int × GM} (C : CX G 0 cX8_highestBut 4 RX8) (hQ : gQI G (some .int) u) : ∀ (n : Nat) (z1 : Int) (hz1 : r32 z1) (z2 : Int) (hz2 : r32 z2) (z3 : Int) (hz3 : r32 z3) (μ : GM) (hμ : gRg μ), k_X8_highestBut_5 n z1 z2 z3 μ = some u → WM G 4 μ 5 [(0, gR G 23), (1, vI z1), (2, vI z2), (3, vI z3)] [] := by
  intro n
  induction n with
  | zero =>
    intro z1 hz1 z2 hz2 z3 hz3 μ hμ h
    cases h
  | succ n ih =>
    intro z1 hz1 z2 hz2 z3 hz3 μ hμ h
    rw [k_X8_highestBut_5] at h
    refine o_iload_n C 3 dX8_highestBut_5 rfl rfl ?_
    refine o_aload_n C 0 dX8_highestBut_6 rfl rfl ?_
    refine o_getR (j := 0) C kt_23 rfl rfl (Nat.le_of_ble_eq_true rfl) lkf_RX8_26 dX8_highestBut_7 ?_
    refine o_getI (j := 0) C kt_1 rfl rfl (Nat.le_of_ble_eq_true rfl) lkf_RX8_152 dX8_highestBut_10 ?_
    refine o_icmp_ge (tgt := 60) C hz3 (hμ.fi kt_1 rfl (by decide)) dX8_highestBut_13 (by decide) h (fun _ h => ?_) (fun _ h => ?_)
    · refine o_iload_n C 2 dX8_highestBut_60 rfl rfl ?_
      exact o_iret C hQ dX8_highestBut_61 h hz2 hμ
    · refine o_iload_n C 1 dX8_highestBut_16 rfl rfl ?_
      refine o_iload_n C 3 dX8_highestBut_17 rfl rfl ?_
      refine o_ishr C dX8_highestBut_18 ?_
      refine o_iconst C dX8_highestBut_19 ?_
      refine o_iand C dX8_highestBut_20 ?_
      refine o_if_ne (tgt := 54) C (r32_toInt _) dX8_highestBut_21 (by decide) h (fun _ h => ?_) (fun _ h => ?_)
      · refine o_iinc (lv2 := fun x1 => [(3, vI x1), (0, gR G 23), (1, vI z1), (2, vI z2)]) C 3 dX8_highestBut_54 rfl (by decide) (fun _ => rfl) h (fun x1 hx1 h => ?_)
        refine o_goto (tgt := 5) C dX8_highestBut_57 (by decide) ?_
        exact WM.sub [1, 2, 3, 0] rfl (ih z1 hz1 z2 hz2 x1 hx1 μ hμ h)
      · refine o_iload_n C 2 dX8_highestBut_24 rfl rfl ?_
        refine o_ldc (v := (-10000009)) C lkc_RX8_100 rfl dX8_highestBut_25 ?_
        refine o_icmp_eq (tgt := 52) C hz2 ⟨by decide, by decide⟩ dX8_highestBut_27 (by decide) h (fun _ h => ?_) (fun _ h => ?_)
        · refine o_iload_n C 3 dX8_highestBut_52 rfl rfl ?_
          refine o_istore_n (lv2 := [(2, vI z3), (0, gR G 23), (1, vI z1), (3, vI z3)]) C dX8_highestBut_53 rfl (by decide) rfl ?_
          refine o_iinc (lv2 := fun x2 => [(3, vI x2), (2, vI z3), (0, gR G 23), (1, vI z1)]) C 3 dX8_highestBut_54 rfl (by decide) (fun _ => rfl) h (fun x2 hx2 h => ?_)
          refine o_goto (tgt := 5) C dX8_highestBut_57 (by decide) ?_
          exact WM.sub [2, 3, 1, 0] rfl (ih z1 hz1 z3 hz3 x2 hx2 μ hμ h)
        · refine o_aload_n C 0 dX8_highestBut_30 rfl rfl ?_
          refine o_getR (j := 1) C kt_23 rfl rfl (Nat.le_of_ble_eq_true rfl) lkf_RX8_30 dX8_highestBut_31 ?_
          refine o_getR (j := 6) C kt_94 rfl rfl (Nat.le_of_ble_eq_true rfl) lkf_RX8_120 dX8_highestBut_34 ?_
          refine o_iload_n C 3 dX8_highestBut_37 rfl rfl ?_
          refine o_lald C kt_99 rfl hz3 dX8_highestBut_38 h (fun h => ?_)
          refine o_aload_n C 0 dX8_highestBut_39 rfl rfl ?_
          refine o_getR (j := 1) C kt_23 rfl rfl (Nat.le_of_ble_eq_true rfl) lkf_RX8_30 dX8_highestBut_40 ?_
          refine o_getR (j := 6) C kt_94 rfl rfl (Nat.le_of_ble_eq_true rfl) lkf_RX8_120 dX8_highestBut_43 ?_
          refine o_iload_n C 2 dX8_highestBut_46 rfl rfl ?_
          refine o_lald C kt_99 rfl hz2 dX8_highestBut_47 h (fun h => ?_)
          refine o_lcmp_le (tgt := 54) C (hμ.l kt_99 _) (hμ.l kt_99 _) dX8_highestBut_48 dX8_highestBut_49 (by decide) h (fun _ h => ?_) (fun _ h => ?_)
          · refine o_iinc (lv2 := fun x3 => [(3, vI x3), (0, gR G 23), (1, vI z1), (2, vI z2)]) C 3 dX8_highestBut_54 rfl (by decide) (fun _ => rfl) h (fun x3 hx3 h => ?_)
            refine o_goto (tgt := 5) C dX8_highestBut_57 (by decide) ?_
            exact WM.sub [1, 2, 3, 0] rfl (ih z1 hz1 z2 hz2 x3 hx3 μ hμ h)
          · refine o_iload_n C 3 dX8_highestBut_52 rfl rfl ?_
            refine o_istore_n (lv2 := [(2, vI z3), (0, gR G 23), (1, vI z1), (3, vI z3)]) C dX8_highestBut_53 rfl (by decide) rfl ?_
            refine o_iinc (lv2 := fun x4 => [(3, vI x4), (2, vI z3), (0, gR G 23), (1, vI z1)]) C 3 dX8_highestBut_54 rfl (by decide) (fun _ => rfl) h (fun x4 hx4 h => ?_)
            refine o_goto (tgt := 5) C dX8_highestBut_57 (by decide) ?_
            exact WM.sub [2, 3, 1, 0] rfl (ih z1 hz1 z3 hz3 x4 hx4 μ hμ h)
def f_X8_highestBut (z1 : Int) (μ : GM) : Option (Int × GM) :=
  k_X8_highestBut_5 FU z1 (-10000009) 0 μ
set_option maxHeartbeats 4000000 in
set_option maxRecDepth 100000 in
theorem w_X8_highestBut_0 {G : GX} {u : Int × GM} (C : CX G 0 cX8_highestBut 4 RX8) (hQ : gQI G (some .int) u) {z1 : Int} (hz1 : r32 z1) {μ : GM} (hμ : gRg μ) (h : f_X8_highestBut z1 μ = some u) : WM G 4 μ 0 [(0, gR G 23), (1, vI z1)] [] := by
  unfold f_X8_highestBut at h
  refine o_ldc (v := (-10000009)) C lkc_RX8_100 rfl dX8_highestBut_0 ?_
  refine o_istore_n (lv2 := [(2, vI (-10000009)), (0, gR G 23), (1, vI z1)]) C dX8_highestBut_2 rfl (by decide) rfl ?_
  refine o_iconst C dX8_highestBut_3 ?_
  refine o_istore_n (lv2 := [(3, vI 0), (2, vI (-10000009)), (0, gR G 23), (1, vI z1)]) C dX8_highestBut_4 rfl (by decide) rfl ?_
  exact WM.sub [2, 3, 1, 0] rfl (w_X8_highestBut_5 C hQ FU z1 hz1 (-10000009) ⟨by decide, by decide⟩ 0 ⟨by decide, by decide⟩ μ hμ h)
theorem c_X8_highestBut {z1 : Int} (hz1 : r32 z1) {μ : GM} (hμ : gRg μ) {u : Int × GM} (h : f_X8_highestBut z1 μ = some u) : MtI 0 yX8_highestBut cX8_highestBut 4 (some .int) (fun ad => [.ref (ad 23), vI z1]) μ u := MtI.of pf_X8_highestBut (fun _ => Nat.le_of_ble_eq_true rfl) (fun G C hQ => w_X8_highestBut_0 C hQ hz1 hμ h)
def f_X8_shareByFlow (z0 : Int) (z1 : Int) (z3 : Int) (μ : GM) : Option (Int × GM) :=
  if z3 < 1 then
    some (0, μ)
  else
    ck (1000 ≠ 0) (
    lt (w64 (z1 * (w32 (Int.tdiv z0 1000)))) fun x1 =>
    ck (z3 ≠ 0) (
    ck (1000 ≠ 0) (
    lt (w64 ((w64 ((Int.tmod x1 z3) * 1000)) + (w64 (z1 * (Int.tmod z0 1000))))) fun x2 =>
    ck (z3 ≠ 0) (
    ck (z3 ≠ 0) (
    some ((w32 (w64 ((w64 ((w64 (Int.tdiv x1 z3)) * 1000)) + (w64 (Int.tdiv x2 z3))))), μ))))))
set_option maxHeartbeats 4000000 in
set_option maxRecDepth 100000 in
theorem w_X8_shareByFlow_0 {G : GX} {u : Int × GM} (C : CX G 0 cX8_shareByFlow 9 RX8) (hQ : gQI G (some .int) u) {z0 : Int} (hz0 : r32 z0) {z1 : Int} (hz1 : r64 z1) {z3 : Int} (hz3 : r64 z3) {μ : GM} (hμ : gRg μ) (h : f_X8_shareByFlow z0 z1 z3 μ = some u) : WM G 9 μ 0 [(0, vI z0), (1, vJ z1), (3, vJ z3)] [] := by
  unfold f_X8_shareByFlow at h
  refine o_lload_n C 2 dX8_shareByFlow_0 rfl rfl ?_
  refine o_lconst (v := 1) C dX8_shareByFlow_1 rfl ?_
  refine o_lcmp_ge (tgt := 8) C hz3 ⟨by decide, by decide⟩ dX8_shareByFlow_2 dX8_shareByFlow_3 (by decide) h (fun _ h => ?_) (fun _ h => ?_)
  · refine o_lload_n C 1 dX8_shareByFlow_8 rfl rfl ?_
    refine o_iload_n C 0 dX8_shareByFlow_9 rfl rfl ?_
    refine o_sipush (v := 1000) C dX8_shareByFlow_10 (by decide) ?_
    refine o_idiv C hz0 ⟨by decide, by decide⟩ dX8_shareByFlow_13 h (fun h => ?_)
    refine o_i2l C (r32_w _) dX8_shareByFlow_14 ?_
    refine o_lmul C dX8_shareByFlow_15 ?_
    refine o_ltl h (r64_w _) (fun x1 hx1 h => ?_)
    refine o_lstore (lv2 := [(5, vJ x1), (0, vI z0), (1, vJ z1), (3, vJ z3)]) C dX8_shareByFlow_16 (by decide) rfl ?_
    refine o_lload C 0 dX8_shareByFlow_18 rfl ?_
    refine o_lload_n C 3 dX8_shareByFlow_20 rfl rfl ?_
    refine o_lrem C hx1 hz3 dX8_shareByFlow_21 h (fun h => ?_)
    refine o_ldc2 (v := 1000) C lkc_RX8_170 rfl dX8_shareByFlow_22 ?_
    refine o_lmul C dX8_shareByFlow_25 ?_
    refine o_lload_n C 2 dX8_shareByFlow_26 rfl rfl ?_
    refine o_iload_n C 1 dX8_shareByFlow_27 rfl rfl ?_
    refine o_sipush (v := 1000) C dX8_shareByFlow_28 (by decide) ?_
    refine o_irem C hz0 ⟨by decide, by decide⟩ dX8_shareByFlow_31 h (fun h => ?_)
    refine o_i2l C (r32_rem _ hz0) dX8_shareByFlow_32 ?_
    refine o_lmul C dX8_shareByFlow_33 ?_
    refine o_ladd C dX8_shareByFlow_34 ?_
    refine o_ltl h (r64_w _) (fun x2 hx2 h => ?_)
    refine o_lstore (lv2 := [(7, vJ x2), (5, vJ x1), (0, vI z0), (1, vJ z1), (3, vJ z3)]) C dX8_shareByFlow_35 (by decide) rfl ?_
    refine o_lload C 1 dX8_shareByFlow_37 rfl ?_
    refine o_lload_n C 4 dX8_shareByFlow_39 rfl rfl ?_
    refine o_ldiv C hx1 hz3 dX8_shareByFlow_40 h (fun h => ?_)
    refine o_ldc2 (v := 1000) C lkc_RX8_170 rfl dX8_shareByFlow_41 ?_
    refine o_lmul C dX8_shareByFlow_44 ?_
    refine o_lload C 0 dX8_shareByFlow_45 rfl ?_
    refine o_lload_n C 4 dX8_shareByFlow_47 rfl rfl ?_
    refine o_ldiv C hx2 hz3 dX8_shareByFlow_48 h (fun h => ?_)
    refine o_ladd C dX8_shareByFlow_49 ?_
    refine o_l2i C dX8_shareByFlow_50 ?_
    exact o_iret C hQ dX8_shareByFlow_51 h (r32_w _) hμ
  · refine o_iconst C dX8_shareByFlow_6 ?_
    exact o_iret C hQ dX8_shareByFlow_7 h ⟨by decide, by decide⟩ hμ
theorem c_X8_shareByFlow {z0 : Int} (hz0 : r32 z0) {z1 : Int} (hz1 : r64 z1) {z3 : Int} (hz3 : r64 z3) {μ : GM} (hμ : gRg μ) {u : Int × GM} (h : f_X8_shareByFlow z0 z1 z3 μ = some u) : MtI 0 yX8_shareByFlow cX8_shareByFlow 9 (some .int) (fun ad => [vI z0, vJ z1, vJ z3]) μ u := MtI.of pf_X8_shareByFlow (fun _ => Nat.le_of_ble_eq_true rfl) (fun G C hQ => w_X8_shareByFlow_0 C hQ hz0 hz1 hz3 hμ h)
