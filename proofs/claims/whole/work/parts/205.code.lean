def k_X0_passTick_229 : Nat → Int → GM → Option (Int × GM)
  | 0, _, _ => none
  | n + 1, z1, μ =>
    if z1 < (μ.2 18 0) then
      ck (0 ≤ 4 ∧ 4 < 6) (
      ck (0 ≤ z1 ∧ z1 < 3) (
      ck (0 ≤ z1 ∧ z1 < 3) (
      bd (f_X0_leave (μ.1 19 z1) (μ.1 22 z1) μ) fun x1 μ2 =>
      ck (0 ≤ 4 ∧ 4 < 6) (lm (gA μ2 29 4 (w64 ((μ.1 29 4) + x1))) fun μ3 =>
      lt (w32 (z1 + 1)) fun x4 =>
      k_X0_passTick_229 n x4 μ3))))
    else
      some (0, μ)
set_option maxHeartbeats 4000000 in
set_option maxRecDepth 100000 in
theorem w_X0_passTick_229 {G : GX} {u : Int × GM} (C : CX G 3 cX0_passTick 4 RX0) (hQ : gQV G none u) : ∀ (n : Nat) (z1 : Int) (hz1 : r32 z1) (μ : GM) (hμ : gRg μ), k_X0_passTick_229 n z1 μ = some u → WM G 4 μ 229 [(0, gR G 27), (1, vI z1)] [] := by
  intro n
  induction n with
  | zero =>
    intro z1 hz1 μ hμ h
    cases h
  | succ n ih =>
    intro z1 hz1 μ hμ h
    rw [k_X0_passTick_229] at h
    refine o_iload_n C 1 dX0_passTick_229 rfl rfl ?_
    refine o_aload_n C 0 dX0_passTick_230 rfl rfl ?_
    refine o_getR (j := 0) C kt_27 rfl rfl (Nat.le_of_ble_eq_true rfl) lkf_RX0_22 dX0_passTick_231 ?_
    refine o_getR (j := 7) C kt_1 rfl rfl (Nat.le_of_ble_eq_true rfl) lkf_RX0_103 dX0_passTick_234 ?_
    refine o_getI (j := 0) C kt_18 rfl rfl (Nat.le_of_ble_eq_true rfl) lkf_RX0_107 dX0_passTick_237 ?_
    refine o_icmp_ge (tgt := 287) C hz1 (hμ.fi kt_18 rfl (by decide)) dX0_passTick_240 (by decide) h (fun _ h => ?_) (fun _ h => ?_)
    · exact o_vret C hQ dX0_passTick_287 h hμ
    · refine o_aload_n C 0 dX0_passTick_243 rfl rfl ?_
      refine o_getR (j := 2) C kt_27 rfl rfl (Nat.le_of_ble_eq_true rfl) lkf_RX0_15 dX0_passTick_244 ?_
      refine o_iconst C dX0_passTick_247 ?_
      refine o_dup2ri C dX0_passTick_248 ?_
      refine o_lald C kt_29 rfl ⟨by decide, by decide⟩ dX0_passTick_249 h (fun h => ?_)
      refine o_aload_n C 0 dX0_passTick_250 rfl rfl ?_
      refine o_aload_n C 0 dX0_passTick_251 rfl rfl ?_
      refine o_getR (j := 0) C kt_27 rfl rfl (Nat.le_of_ble_eq_true rfl) lkf_RX0_22 dX0_passTick_252 ?_
      refine o_getR (j := 7) C kt_1 rfl rfl (Nat.le_of_ble_eq_true rfl) lkf_RX0_103 dX0_passTick_255 ?_
      refine o_getR (j := 1) C kt_18 rfl rfl (Nat.le_of_ble_eq_true rfl) lkf_RX0_110 dX0_passTick_258 ?_
      refine o_iload_n C 1 dX0_passTick_261 rfl rfl ?_
      refine o_iald C kt_19 rfl hz1 dX0_passTick_262 h (fun h => ?_)
      refine o_aload_n C 0 dX0_passTick_263 rfl rfl ?_
      refine o_getR (j := 0) C kt_27 rfl rfl (Nat.le_of_ble_eq_true rfl) lkf_RX0_22 dX0_passTick_264 ?_
      refine o_getR (j := 7) C kt_1 rfl rfl (Nat.le_of_ble_eq_true rfl) lkf_RX0_103 dX0_passTick_267 ?_
      refine o_getR (j := 4) C kt_18 rfl rfl (Nat.le_of_ble_eq_true rfl) lkf_RX0_111 dX0_passTick_270 ?_
      refine o_iload_n C 1 dX0_passTick_273 rfl rfl ?_
      refine o_iald C kt_22 rfl hz1 dX0_passTick_274 h (fun h => ?_)
      refine o_cVI C [vI (μ.1 19 z1), vI (μ.1 22 z1)] mb_X0_leave (by decide) (fun _ hu => c_X0_leave (hμ.i kt_19 (by decide) _) (hμ.i kt_22 (by decide) _) hμ hu) rfl (Nat.le_of_ble_eq_true rfl) h mi_X0_leave me_X0_leave lkm_RX0_100 kt_27 rfl rfl rfl dX0_passTick_275 (fun x1 μ2 hx1 hμ2 h => ?_)
      refine o_i2l C hx1 dX0_passTick_278 ?_
      refine o_ladd C dX0_passTick_279 ?_
      refine o_last C kt_29 rfl ⟨by decide, by decide⟩ (r64_w _) hμ2 dX0_passTick_280 h (fun μ3 hμ3 h => ?_)
      refine o_iinc (lv2 := fun x4 => [(1, vI x4), (0, gR G 27)]) C 1 dX0_passTick_281 rfl (by decide) (fun _ => rfl) h (fun x4 hx4 h => ?_)
      refine o_goto (tgt := 229) C dX0_passTick_284 (by decide) ?_
      exact WM.sub [1, 0] rfl (ih x4 hx4 μ3 hμ3 h)
def k_X0_passTick_138 : Nat → Int → GM → Option (Int × GM)
  | 0, _, _ => none
  | n + 1, z1, μ =>
    if z1 < (μ.2 14 0) then
      ck (0 ≤ z1 ∧ z1 < 2) (
      lt (μ.1 15 z1) fun x1 =>
      ck (0 ≤ x1 ∧ x1 < 6) (
      ck (0 ≤ z1 ∧ z1 < 2) (
      bd (f_J9_max_7cf53 0 (w32 ((μ.1 30 x1) - (μ.1 16 z1))) μ) fun x2 μ3 =>
      ck (0 ≤ 3 ∧ 3 < 6) (
      ck (0 ≤ z1 ∧ z1 < 2) (
      ck (100 ≠ 0) (
      bd (f_X0_leave x1 (w32 (Int.tdiv (w32 ((μ3.1 17 z1) * x2)) 100)) μ3) fun x4 μ5 =>
      ck (0 ≤ 3 ∧ 3 < 6) (lm (gA μ5 29 3 (w64 ((μ3.1 29 3) + x4))) fun μ6 =>
      lt (w32 (z1 + 1)) fun x7 =>
      k_X0_passTick_138 n x7 μ6)))))))
    else
      k_X0_passTick_229 FU 0 μ
set_option maxHeartbeats 4000000 in
set_option maxRecDepth 100000 in
theorem w_X0_passTick_138 {G : GX} {u : Int × GM} (C : CX G 3 cX0_passTick 4 RX0) (hQ : gQV G none u) : ∀ (n : Nat) (z1 : Int) (hz1 : r32 z1) (μ : GM) (hμ : gRg μ), k_X0_passTick_138 n z1 μ = some u → WM G 4 μ 138 [(0, gR G 27), (1, vI z1)] [] := by
  intro n
  induction n with
  | zero =>
    intro z1 hz1 μ hμ h
    cases h
  | succ n ih =>
    intro z1 hz1 μ hμ h
    rw [k_X0_passTick_138] at h
    refine o_iload_n C 1 dX0_passTick_138 rfl rfl ?_
    refine o_aload_n C 0 dX0_passTick_139 rfl rfl ?_
    refine o_getR (j := 0) C kt_27 rfl rfl (Nat.le_of_ble_eq_true rfl) lkf_RX0_22 dX0_passTick_140 ?_
    refine o_getR (j := 6) C kt_1 rfl rfl (Nat.le_of_ble_eq_true rfl) lkf_RX0_78 dX0_passTick_143 ?_
    refine o_getI (j := 0) C kt_14 rfl rfl (Nat.le_of_ble_eq_true rfl) lkf_RX0_82 dX0_passTick_146 ?_
    refine o_icmp_ge (tgt := 227) C hz1 (hμ.fi kt_14 rfl (by decide)) dX0_passTick_149 (by decide) h (fun _ h => ?_) (fun _ h => ?_)
    · refine o_iconst C dX0_passTick_227 ?_
      refine o_istore_n (lv2 := [(1, vI 0), (0, gR G 27)]) C dX0_passTick_228 rfl (by decide) rfl ?_
      exact WM.sub [1, 0] rfl (w_X0_passTick_229 C hQ FU 0 ⟨by decide, by decide⟩ μ hμ h)
    · refine o_aload_n C 0 dX0_passTick_152 rfl rfl ?_
      refine o_getR (j := 0) C kt_27 rfl rfl (Nat.le_of_ble_eq_true rfl) lkf_RX0_22 dX0_passTick_153 ?_
      refine o_getR (j := 6) C kt_1 rfl rfl (Nat.le_of_ble_eq_true rfl) lkf_RX0_78 dX0_passTick_156 ?_
      refine o_getR (j := 1) C kt_14 rfl rfl (Nat.le_of_ble_eq_true rfl) lkf_RX0_85 dX0_passTick_159 ?_
      refine o_iload_n C 1 dX0_passTick_162 rfl rfl ?_
      refine o_iald C kt_15 rfl hz1 dX0_passTick_163 h (fun h => ?_)
      refine o_lt h (hμ.i kt_15 (by decide) _) (fun x1 hx1 h => ?_)
      refine o_istore_n (lv2 := [(2, vI x1), (0, gR G 27), (1, vI z1)]) C dX0_passTick_164 rfl (by decide) rfl ?_
      refine o_iconst C dX0_passTick_165 ?_
      refine o_aload_n C 1 dX0_passTick_166 rfl rfl ?_
      refine o_getR (j := 3) C kt_27 rfl rfl (Nat.le_of_ble_eq_true rfl) lkf_RX0_19 dX0_passTick_167 ?_
      refine o_iload_n C 0 dX0_passTick_170 rfl rfl ?_
      refine o_iald C kt_30 rfl hx1 dX0_passTick_171 h (fun h => ?_)
      refine o_aload_n C 1 dX0_passTick_172 rfl rfl ?_
      refine o_getR (j := 0) C kt_27 rfl rfl (Nat.le_of_ble_eq_true rfl) lkf_RX0_22 dX0_passTick_173 ?_
      refine o_getR (j := 6) C kt_1 rfl rfl (Nat.le_of_ble_eq_true rfl) lkf_RX0_78 dX0_passTick_176 ?_
      refine o_getR (j := 2) C kt_14 rfl rfl (Nat.le_of_ble_eq_true rfl) lkf_RX0_88 dX0_passTick_179 ?_
      refine o_iload_n C 2 dX0_passTick_182 rfl rfl ?_
      refine o_iald C kt_16 rfl hz1 dX0_passTick_183 h (fun h => ?_)
      refine o_isub C dX0_passTick_184 ?_
      refine o_cSI C [vI 0, vI (w32 ((μ.1 30 x1) - (μ.1 16 z1)))] mb_J9_max_7cf53 (by decide) (fun _ hu => c_J9_max_7cf53 ⟨by decide, by decide⟩ (r32_w _) hμ hu) rfl (Nat.le_of_ble_eq_true rfl) h ms_J9_max_7cf53 lkm_RX0_91 rfl rfl dX0_passTick_185 (fun x2 μ3 hx2 hμ3 h => ?_)
      refine o_istore_n (lv2 := [(3, vI x2), (2, vI x1), (0, gR G 27), (1, vI z1)]) C dX0_passTick_188 rfl (by decide) rfl ?_
      refine o_aload_n C 2 dX0_passTick_189 rfl rfl ?_
      refine o_getR (j := 2) C kt_27 rfl rfl (Nat.le_of_ble_eq_true rfl) lkf_RX0_15 dX0_passTick_190 ?_
      refine o_iconst C dX0_passTick_193 ?_
      refine o_dup2ri C dX0_passTick_194 ?_
      refine o_lald C kt_29 rfl ⟨by decide, by decide⟩ dX0_passTick_195 h (fun h => ?_)
      refine o_aload_n C 2 dX0_passTick_196 rfl rfl ?_
      refine o_iload_n C 1 dX0_passTick_197 rfl rfl ?_
      refine o_aload_n C 2 dX0_passTick_198 rfl rfl ?_
      refine o_getR (j := 0) C kt_27 rfl rfl (Nat.le_of_ble_eq_true rfl) lkf_RX0_22 dX0_passTick_199 ?_
      refine o_getR (j := 6) C kt_1 rfl rfl (Nat.le_of_ble_eq_true rfl) lkf_RX0_78 dX0_passTick_202 ?_
      refine o_getR (j := 3) C kt_14 rfl rfl (Nat.le_of_ble_eq_true rfl) lkf_RX0_97 dX0_passTick_205 ?_
      refine o_iload_n C 3 dX0_passTick_208 rfl rfl ?_
      refine o_iald C kt_17 rfl hz1 dX0_passTick_209 h (fun h => ?_)
      refine o_iload_n C 0 dX0_passTick_210 rfl rfl ?_
      refine o_imul C dX0_passTick_211 ?_
      refine o_bipush (v := 100) C dX0_passTick_212 (by decide) ?_
      refine o_idiv C (r32_w _) ⟨by decide, by decide⟩ dX0_passTick_214 h (fun h => ?_)
      refine o_cVI C [vI x1, vI (w32 (Int.tdiv (w32 ((μ3.1 17 z1) * x2)) 100))] mb_X0_leave (by decide) (fun _ hu => c_X0_leave hx1 (r32_w _) hμ3 hu) rfl (Nat.le_of_ble_eq_true rfl) h mi_X0_leave me_X0_leave lkm_RX0_100 kt_27 rfl rfl rfl dX0_passTick_215 (fun x4 μ5 hx4 hμ5 h => ?_)
      refine o_i2l C hx4 dX0_passTick_218 ?_
      refine o_ladd C dX0_passTick_219 ?_
      refine o_last C kt_29 rfl ⟨by decide, by decide⟩ (r64_w _) hμ5 dX0_passTick_220 h (fun μ6 hμ6 h => ?_)
      refine o_iinc (lv2 := fun x7 => [(1, vI x7), (3, vI x2), (2, vI x1), (0, gR G 27)]) C 3 dX0_passTick_221 rfl (by decide) (fun _ => rfl) h (fun x7 hx7 h => ?_)
      refine o_goto (tgt := 138) C dX0_passTick_224 (by decide) ?_
      exact WM.sub [3, 0] rfl (ih x7 hx7 μ6 hμ6 h)
def k_X0_passTick_111 : Nat → Int → GM → Option (Int × GM)
  | 0, _, _ => none
  | n + 1, z1, μ =>
    if z1 < (μ.2 5 0) then
      bd (f_X0_runLink z1 μ) fun _x1 μ2 =>
      lt (w32 (z1 + 1)) fun x3 =>
      k_X0_passTick_111 n x3 μ2
    else
      k_X0_passTick_138 FU 0 μ
set_option maxHeartbeats 4000000 in
set_option maxRecDepth 100000 in
theorem w_X0_passTick_111 {G : GX} {u : Int × GM} (C : CX G 3 cX0_passTick 4 RX0) (hQ : gQV G none u) : ∀ (n : Nat) (z1 : Int) (hz1 : r32 z1) (μ : GM) (hμ : gRg μ), k_X0_passTick_111 n z1 μ = some u → WM G 4 μ 111 [(0, gR G 27), (1, vI z1)] [] := by
  intro n
  induction n with
  | zero =>
    intro z1 hz1 μ hμ h
    cases h
  | succ n ih =>
    intro z1 hz1 μ hμ h
    rw [k_X0_passTick_111] at h
    refine o_iload_n C 1 dX0_passTick_111 rfl rfl ?_
    refine o_aload_n C 0 dX0_passTick_112 rfl rfl ?_
    refine o_getR (j := 0) C kt_27 rfl rfl (Nat.le_of_ble_eq_true rfl) lkf_RX0_22 dX0_passTick_113 ?_
    refine o_getR (j := 4) C kt_1 rfl rfl (Nat.le_of_ble_eq_true rfl) lkf_RX0_68 dX0_passTick_116 ?_
    refine o_getI (j := 0) C kt_5 rfl rfl (Nat.le_of_ble_eq_true rfl) lkf_RX0_72 dX0_passTick_119 ?_
    refine o_icmp_ge (tgt := 136) C hz1 (hμ.fi kt_5 rfl (by decide)) dX0_passTick_122 (by decide) h (fun _ h => ?_) (fun _ h => ?_)
    · refine o_iconst C dX0_passTick_136 ?_
      refine o_istore_n (lv2 := [(1, vI 0), (0, gR G 27)]) C dX0_passTick_137 rfl (by decide) rfl ?_
      exact WM.sub [1, 0] rfl (w_X0_passTick_138 C hQ FU 0 ⟨by decide, by decide⟩ μ hμ h)
    · refine o_aload_n C 0 dX0_passTick_125 rfl rfl ?_
      refine o_iload_n C 1 dX0_passTick_126 rfl rfl ?_
      refine o_cVV C [vI z1] mb_X0_runLink (by decide) (fun _ hu => c_X0_runLink hz1 hμ hu) rfl (Nat.le_of_ble_eq_true rfl) h mi_X0_runLink me_X0_runLink lkm_RX0_75 kt_27 rfl rfl rfl dX0_passTick_127 (fun _x1 μ2 hμ2 h => ?_)
      refine o_iinc (lv2 := fun x3 => [(1, vI x3), (0, gR G 27)]) C 1 dX0_passTick_130 rfl (by decide) (fun _ => rfl) h (fun x3 hx3 h => ?_)
      refine o_goto (tgt := 111) C dX0_passTick_133 (by decide) ?_
      exact WM.sub [1, 0] rfl (ih x3 hx3 μ2 hμ2 h)
def k_X0_passTick_84 : Nat → Int → GM → Option (Int × GM)
  | 0, _, _ => none
  | n + 1, z1, μ =>
    if z1 < (μ.2 9 0) then
      bd (f_X0_runRiver z1 μ) fun _x1 μ2 =>
      lt (w32 (z1 + 1)) fun x3 =>
      k_X0_passTick_84 n x3 μ2
    else
      k_X0_passTick_111 FU 0 μ
set_option maxHeartbeats 4000000 in
set_option maxRecDepth 100000 in
theorem w_X0_passTick_84 {G : GX} {u : Int × GM} (C : CX G 3 cX0_passTick 4 RX0) (hQ : gQV G none u) : ∀ (n : Nat) (z1 : Int) (hz1 : r32 z1) (μ : GM) (hμ : gRg μ), k_X0_passTick_84 n z1 μ = some u → WM G 4 μ 84 [(0, gR G 27), (1, vI z1)] [] := by
  intro n
  induction n with
  | zero =>
    intro z1 hz1 μ hμ h
    cases h
  | succ n ih =>
    intro z1 hz1 μ hμ h
    rw [k_X0_passTick_84] at h
    refine o_iload_n C 1 dX0_passTick_84 rfl rfl ?_
    refine o_aload_n C 0 dX0_passTick_85 rfl rfl ?_
    refine o_getR (j := 0) C kt_27 rfl rfl (Nat.le_of_ble_eq_true rfl) lkf_RX0_22 dX0_passTick_86 ?_
    refine o_getR (j := 5) C kt_1 rfl rfl (Nat.le_of_ble_eq_true rfl) lkf_RX0_55 dX0_passTick_89 ?_
    refine o_getI (j := 0) C kt_9 rfl rfl (Nat.le_of_ble_eq_true rfl) lkf_RX0_59 dX0_passTick_92 ?_
    refine o_icmp_ge (tgt := 109) C hz1 (hμ.fi kt_9 rfl (by decide)) dX0_passTick_95 (by decide) h (fun _ h => ?_) (fun _ h => ?_)
    · refine o_iconst C dX0_passTick_109 ?_
      refine o_istore_n (lv2 := [(1, vI 0), (0, gR G 27)]) C dX0_passTick_110 rfl (by decide) rfl ?_
      exact WM.sub [1, 0] rfl (w_X0_passTick_111 C hQ FU 0 ⟨by decide, by decide⟩ μ hμ h)
    · refine o_aload_n C 0 dX0_passTick_98 rfl rfl ?_
      refine o_iload_n C 1 dX0_passTick_99 rfl rfl ?_
      refine o_cVV C [vI z1] mb_X0_runRiver (by decide) (fun _ hu => c_X0_runRiver hz1 hμ hu) rfl (Nat.le_of_ble_eq_true rfl) h mi_X0_runRiver me_X0_runRiver lkm_RX0_64 kt_27 rfl rfl rfl dX0_passTick_100 (fun _x1 μ2 hμ2 h => ?_)
      refine o_iinc (lv2 := fun x3 => [(1, vI x3), (0, gR G 27)]) C 1 dX0_passTick_103 rfl (by decide) (fun _ => rfl) h (fun x3 hx3 h => ?_)
      refine o_goto (tgt := 84) C dX0_passTick_106 (by decide) ?_
      exact WM.sub [1, 0] rfl (ih x3 hx3 μ2 hμ2 h)
def k_X0_passTick_32 : Nat → Int → GM → Option (Int × GM)
  | 0, _, _ => none
  | n + 1, z1, μ =>
    if z1 < (μ.2 1 0) then
      ck (0 ≤ 0 ∧ 0 < 6) (
      ck (0 ≤ z1 ∧ z1 < 6) (
      ck (0 ≤ 0 ∧ 0 < 6) (lm (gA μ 29 0 (w64 ((μ.1 29 0) + (μ.1 3 z1)))) fun μ1 =>
      ck (0 ≤ z1 ∧ z1 < 6) (
      bd (f_X0_arrive z1 (μ1.1 3 z1) μ1) fun _x2 μ3 =>
      lt (w32 (z1 + 1)) fun x4 =>
      k_X0_passTick_32 n x4 μ3))))
    else
      k_X0_passTick_84 FU 0 μ
set_option maxHeartbeats 4000000 in
set_option maxRecDepth 100000 in
theorem w_X0_passTick_32 {G : GX} {u : Int × GM} (C : CX G 3 cX0_passTick 4 RX0) (hQ : gQV G none u) : ∀ (n : Nat) (z1 : Int) (hz1 : r32 z1) (μ : GM) (hμ : gRg μ), k_X0_passTick_32 n z1 μ = some u → WM G 4 μ 32 [(0, gR G 27), (1, vI z1)] [] := by
  intro n
  induction n with
  | zero =>
    intro z1 hz1 μ hμ h
    cases h
  | succ n ih =>
    intro z1 hz1 μ hμ h
    rw [k_X0_passTick_32] at h
    refine o_iload_n C 1 dX0_passTick_32 rfl rfl ?_
    refine o_aload_n C 0 dX0_passTick_33 rfl rfl ?_
    refine o_getR (j := 0) C kt_27 rfl rfl (Nat.le_of_ble_eq_true rfl) lkf_RX0_22 dX0_passTick_34 ?_
    refine o_getI (j := 0) C kt_1 rfl rfl (Nat.le_of_ble_eq_true rfl) lkf_RX0_40 dX0_passTick_37 ?_
    refine o_icmp_ge (tgt := 82) C hz1 (hμ.fi kt_1 rfl (by decide)) dX0_passTick_40 (by decide) h (fun _ h => ?_) (fun _ h => ?_)
    · refine o_iconst C dX0_passTick_82 ?_
      refine o_istore_n (lv2 := [(1, vI 0), (0, gR G 27)]) C dX0_passTick_83 rfl (by decide) rfl ?_
      exact WM.sub [1, 0] rfl (w_X0_passTick_84 C hQ FU 0 ⟨by decide, by decide⟩ μ hμ h)
    · refine o_aload_n C 0 dX0_passTick_43 rfl rfl ?_
      refine o_getR (j := 2) C kt_27 rfl rfl (Nat.le_of_ble_eq_true rfl) lkf_RX0_15 dX0_passTick_44 ?_
      refine o_iconst C dX0_passTick_47 ?_
      refine o_dup2ri C dX0_passTick_48 ?_
      refine o_lald C kt_29 rfl ⟨by decide, by decide⟩ dX0_passTick_49 h (fun h => ?_)
      refine o_aload_n C 0 dX0_passTick_50 rfl rfl ?_
      refine o_getR (j := 0) C kt_27 rfl rfl (Nat.le_of_ble_eq_true rfl) lkf_RX0_22 dX0_passTick_51 ?_
      refine o_getR (j := 2) C kt_1 rfl rfl (Nat.le_of_ble_eq_true rfl) lkf_RX0_48 dX0_passTick_54 ?_
      refine o_iload_n C 1 dX0_passTick_57 rfl rfl ?_
      refine o_iald C kt_3 rfl hz1 dX0_passTick_58 h (fun h => ?_)
      refine o_i2l C (hμ.i kt_3 (by decide) _) dX0_passTick_59 ?_
      refine o_ladd C dX0_passTick_60 ?_
      refine o_last C kt_29 rfl ⟨by decide, by decide⟩ (r64_w _) hμ dX0_passTick_61 h (fun μ1 hμ1 h => ?_)
      refine o_aload_n C 0 dX0_passTick_62 rfl rfl ?_
      refine o_iload_n C 1 dX0_passTick_63 rfl rfl ?_
      refine o_aload_n C 0 dX0_passTick_64 rfl rfl ?_
      refine o_getR (j := 0) C kt_27 rfl rfl (Nat.le_of_ble_eq_true rfl) lkf_RX0_22 dX0_passTick_65 ?_
      refine o_getR (j := 2) C kt_1 rfl rfl (Nat.le_of_ble_eq_true rfl) lkf_RX0_48 dX0_passTick_68 ?_
      refine o_iload_n C 1 dX0_passTick_71 rfl rfl ?_
      refine o_iald C kt_3 rfl hz1 dX0_passTick_72 h (fun h => ?_)
      refine o_cVV C [vI z1, vI (μ1.1 3 z1)] mb_X0_arrive (by decide) (fun _ hu => c_X0_arrive hz1 (hμ1.i kt_3 (by decide) _) hμ1 hu) rfl (Nat.le_of_ble_eq_true rfl) h mi_X0_arrive me_X0_arrive lkm_RX0_51 kt_27 rfl rfl rfl dX0_passTick_73 (fun _x2 μ3 hμ3 h => ?_)
      refine o_iinc (lv2 := fun x4 => [(1, vI x4), (0, gR G 27)]) C 1 dX0_passTick_76 rfl (by decide) (fun _ => rfl) h (fun x4 hx4 h => ?_)
      refine o_goto (tgt := 32) C dX0_passTick_79 (by decide) ?_
      exact WM.sub [1, 0] rfl (ih x4 hx4 μ3 hμ3 h)
def k_X0_passTick_2 : Nat → Int → GM → Option (Int × GM)
  | 0, _, _ => none
  | n + 1, z1, μ =>
    if z1 < (μ.2 1 0) then
      bd (f_X0_markOf z1 μ) fun x1 μ2 =>
      ck (0 ≤ z1 ∧ z1 < 6) (lm (gA μ2 30 z1 x1) fun μ3 =>
      lt (w32 (z1 + 1)) fun x4 =>
      k_X0_passTick_2 n x4 μ3)
    else
      k_X0_passTick_32 FU 0 μ
set_option maxHeartbeats 4000000 in
set_option maxRecDepth 100000 in
theorem w_X0_passTick_2 {G : GX} {u : Int × GM} (C : CX G 3 cX0_passTick 4 RX0) (hQ : gQV G none u) : ∀ (n : Nat) (z1 : Int) (hz1 : r32 z1) (μ : GM) (hμ : gRg μ), k_X0_passTick_2 n z1 μ = some u → WM G 4 μ 2 [(0, gR G 27), (1, vI z1)] [] := by
  intro n
  induction n with
  | zero =>
    intro z1 hz1 μ hμ h
    cases h
  | succ n ih =>
    intro z1 hz1 μ hμ h
    rw [k_X0_passTick_2] at h
    refine o_iload_n C 1 dX0_passTick_2 rfl rfl ?_
    refine o_aload_n C 0 dX0_passTick_3 rfl rfl ?_
    refine o_getR (j := 0) C kt_27 rfl rfl (Nat.le_of_ble_eq_true rfl) lkf_RX0_22 dX0_passTick_4 ?_
    refine o_getI (j := 0) C kt_1 rfl rfl (Nat.le_of_ble_eq_true rfl) lkf_RX0_40 dX0_passTick_7 ?_
    refine o_icmp_ge (tgt := 30) C hz1 (hμ.fi kt_1 rfl (by decide)) dX0_passTick_10 (by decide) h (fun _ h => ?_) (fun _ h => ?_)
    · refine o_iconst C dX0_passTick_30 ?_
      refine o_istore_n (lv2 := [(1, vI 0), (0, gR G 27)]) C dX0_passTick_31 rfl (by decide) rfl ?_
      exact WM.sub [1, 0] rfl (w_X0_passTick_32 C hQ FU 0 ⟨by decide, by decide⟩ μ hμ h)
    · refine o_aload_n C 0 dX0_passTick_13 rfl rfl ?_
      refine o_getR (j := 3) C kt_27 rfl rfl (Nat.le_of_ble_eq_true rfl) lkf_RX0_19 dX0_passTick_14 ?_
      refine o_iload_n C 1 dX0_passTick_17 rfl rfl ?_
      refine o_aload_n C 0 dX0_passTick_18 rfl rfl ?_
      refine o_iload_n C 1 dX0_passTick_19 rfl rfl ?_
      refine o_cVI C [vI z1] mb_X0_markOf (by decide) (fun _ hu => c_X0_markOf hz1 hμ hu) rfl (Nat.le_of_ble_eq_true rfl) h mi_X0_markOf me_X0_markOf lkm_RX0_44 kt_27 rfl rfl rfl dX0_passTick_20 (fun x1 μ2 hx1 hμ2 h => ?_)
      refine o_iast C kt_30 rfl hz1 hx1 hμ2 dX0_passTick_23 h (fun μ3 hμ3 h => ?_)
      refine o_iinc (lv2 := fun x4 => [(1, vI x4), (0, gR G 27)]) C 1 dX0_passTick_24 rfl (by decide) (fun _ => rfl) h (fun x4 hx4 h => ?_)
      refine o_goto (tgt := 2) C dX0_passTick_27 (by decide) ?_
      exact WM.sub [1, 0] rfl (ih x4 hx4 μ3 hμ3 h)
def f_X0_passTick (μ : GM) : Option (Int × GM) :=
  k_X0_passTick_2 FU 0 μ
set_option maxHeartbeats 4000000 in
set_option maxRecDepth 100000 in
theorem w_X0_passTick_0 {G : GX} {u : Int × GM} (C : CX G 3 cX0_passTick 4 RX0) (hQ : gQV G none u) {μ : GM} (hμ : gRg μ) (h : f_X0_passTick μ = some u) : WM G 4 μ 0 [(0, gR G 27)] [] := by
  unfold f_X0_passTick at h
  refine o_iconst C dX0_passTick_0 ?_
  refine o_istore_n (lv2 := [(1, vI 0), (0, gR G 27)]) C dX0_passTick_1 rfl (by decide) rfl ?_
  exact WM.sub [1, 0] rfl (w_X0_passTick_2 C hQ FU 0 ⟨by decide, by decide⟩ μ hμ h)
theorem c_X0_passTick {μ : GM} (hμ : gRg μ) {u : Int × GM} (h : f_X0_passTick μ = some u) : MtV 3 yX0_passTick cX0_passTick 4 none (fun ad => [.ref (ad 27)]) μ u := MtV.of pf_X0_passTick (fun _ => Nat.le_of_ble_eq_true rfl) (fun G C hQ => w_X0_passTick_0 C hQ hμ h)
def f_X10_has (z1 : Int) (μ : GM) : Option (Int × GM) :=
  if z1 < 0 then
    some (0 % 2, μ)
  else
    if z1 < (μ.2 31 2) then
      some (1 % 2, μ)
    else
      some (0 % 2, μ)
set_option maxHeartbeats 4000000 in
set_option maxRecDepth 100000 in
theorem w_X10_has_0 {G : GX} {u : Int × GM} (C : CX G 0 cX10_has 2 RX10) (hQ : gQI G (some .boolean) u) {z1 : Int} (hz1 : r32 z1) {μ : GM} (hμ : gRg μ) (h : f_X10_has z1 μ = some u) : WM G 2 μ 0 [(0, gR G 31), (1, vI z1)] [] := by
  unfold f_X10_has at h
  refine o_iload_n C 1 dX10_has_0 rfl rfl ?_
  refine o_if_lt (tgt := 16) C hz1 dX10_has_1 (by decide) h (fun _ h => ?_) (fun _ h => ?_)
  · refine o_iconst C dX10_has_16 ?_
    exact o_zret C hQ dX10_has_17 h hμ
  · refine o_iload_n C 1 dX10_has_4 rfl rfl ?_
    refine o_aload_n C 0 dX10_has_5 rfl rfl ?_
    refine o_getI (j := 2) C kt_31 rfl rfl (Nat.le_of_ble_eq_true rfl) lkf_RX10_9 dX10_has_6 ?_
    refine o_icmp_ge (tgt := 16) C hz1 (hμ.fi kt_31 rfl (by decide)) dX10_has_9 (by decide) h (fun _ h => ?_) (fun _ h => ?_)
    · refine o_iconst C dX10_has_16 ?_
      exact o_zret C hQ dX10_has_17 h hμ
    · refine o_iconst C dX10_has_12 ?_
      refine o_goto (tgt := 17) C dX10_has_13 (by decide) ?_
      exact o_zret C hQ dX10_has_17 h hμ
theorem c_X10_has {z1 : Int} (hz1 : r32 z1) {μ : GM} (hμ : gRg μ) {u : Int × GM} (h : f_X10_has z1 μ = some u) : MtI 0 yX10_has cX10_has 2 (some .boolean) (fun ad => [.ref (ad 31), vI z1]) μ u := MtI.of pf_X10_has (fun _ => Nat.le_of_ble_eq_true rfl) (fun G C hQ => w_X10_has_0 C hQ hz1 hμ h)
def f_X10_add (z1 : Int) (z2 : Int) (μ : GM) : Option (Int × GM) :=
  ck (0 ≤ (μ.2 31 2) ∧ (μ.2 31 2) < 5) (lm (gA μ 32 (μ.2 31 2) z1) fun μ1 =>
  ck (0 ≤ (μ1.2 31 2) ∧ (μ1.2 31 2) < 5) (lm (gA μ1 33 (μ1.2 31 2) z2) fun μ2 =>
  lm (gF μ2 31 2 (w32 ((μ2.2 31 2) + 1))) fun μ3 =>
  some ((μ2.2 31 2), μ3)))
set_option maxHeartbeats 4000000 in
set_option maxRecDepth 100000 in
theorem w_X10_add_0 {G : GX} {u : Int × GM} (C : CX G 0 cX10_add 3 RX10) (hQ : gQI G (some .int) u) {z1 : Int} (hz1 : r32 z1) {z2 : Int} (hz2 : r32 z2) {μ : GM} (hμ : gRg μ) (h : f_X10_add z1 z2 μ = some u) : WM G 3 μ 0 [(0, gR G 31), (1, vI z1), (2, vI z2)] [] := by
  unfold f_X10_add at h
  refine o_aload_n C 0 dX10_add_0 rfl rfl ?_
  refine o_getR (j := 3) C kt_31 rfl rfl (Nat.le_of_ble_eq_true rfl) lkf_RX10_15 dX10_add_1 ?_
  refine o_aload_n C 0 dX10_add_4 rfl rfl ?_
  refine o_getI (j := 2) C kt_31 rfl rfl (Nat.le_of_ble_eq_true rfl) lkf_RX10_9 dX10_add_5 ?_
  refine o_iload_n C 1 dX10_add_8 rfl rfl ?_
  refine o_iast C kt_32 rfl (hμ.fi kt_31 rfl (by decide)) hz1 hμ dX10_add_9 h (fun μ1 hμ1 h => ?_)
  refine o_aload_n C 0 dX10_add_10 rfl rfl ?_
  refine o_getR (j := 4) C kt_31 rfl rfl (Nat.le_of_ble_eq_true rfl) lkf_RX10_19 dX10_add_11 ?_
  refine o_aload_n C 0 dX10_add_14 rfl rfl ?_
  refine o_getI (j := 2) C kt_31 rfl rfl (Nat.le_of_ble_eq_true rfl) lkf_RX10_9 dX10_add_15 ?_
  refine o_iload_n C 2 dX10_add_18 rfl rfl ?_
  refine o_iast C kt_33 rfl (hμ1.fi kt_31 rfl (by decide)) hz2 hμ1 dX10_add_19 h (fun μ2 hμ2 h => ?_)
  refine o_aload_n C 0 dX10_add_20 rfl rfl ?_
  refine o_dupr C dX10_add_21 ?_
  refine o_getI (j := 2) C kt_31 rfl rfl (Nat.le_of_ble_eq_true rfl) lkf_RX10_9 dX10_add_22 ?_
  refine o_dupx1ri C dX10_add_25 ?_
  refine o_iconst C dX10_add_26 ?_
  refine o_iadd C dX10_add_27 ?_
  refine o_putI (j := 2) C kt_31 rfl rfl tyX10_ok nmX10 (Nat.le_of_ble_eq_true rfl) lkf_RX10_9 rfl rfl (r32_w _) hμ2 dX10_add_28 h (fun μ3 hμ3 h => ?_)
  exact o_iret C hQ dX10_add_31 h (hμ2.fi kt_31 rfl (by decide)) hμ3
theorem c_X10_add {z1 : Int} (hz1 : r32 z1) {z2 : Int} (hz2 : r32 z2) {μ : GM} (hμ : gRg μ) {u : Int × GM} (h : f_X10_add z1 z2 μ = some u) : MtI 0 yX10_add cX10_add 3 (some .int) (fun ad => [.ref (ad 31), vI z1, vI z2]) μ u := MtI.of pf_X10_add (fun _ => Nat.le_of_ble_eq_true rfl) (fun G C hQ => w_X10_add_0 C hQ hz1 hz2 hμ h)
def f_X10_note (z1 : Int) (z2 : Int) (z3 : Int) (μ : GM) : Option (Int × GM) :=
  ck (0 ≤ z1 ∧ z1 < 6) (lm (gA μ 34 z1 z2) fun μ1 =>
  bd (f_J9_max_7cf53 (-1) z3 μ1) fun x2 μ3 =>
  ck (0 ≤ z1 ∧ z1 < 6) (lm (gA μ3 35 z1 x2) fun μ4 =>
  if z3 < 0 then
    some (0 % 2, μ4)
  else
    some (1 % 2, μ4)))
set_option maxHeartbeats 4000000 in
set_option maxRecDepth 100000 in
theorem w_X10_note_0 {G : GX} {u : Int × GM} (C : CX G 1 cX10_note 4 RX10) (hQ : gQI G (some .boolean) u) {z1 : Int} (hz1 : r32 z1) {z2 : Int} (hz2 : r32 z2) {z3 : Int} (hz3 : r32 z3) {μ : GM} (hμ : gRg μ) (h : f_X10_note z1 z2 z3 μ = some u) : WM G 4 μ 0 [(0, gR G 31), (1, vI z1), (2, vI z2), (3, vI z3)] [] := by
  unfold f_X10_note at h
  refine o_aload_n C 0 dX10_note_0 rfl rfl ?_
  refine o_getR (j := 5) C kt_31 rfl rfl (Nat.le_of_ble_eq_true rfl) lkf_RX10_22 dX10_note_1 ?_
  refine o_iload_n C 1 dX10_note_4 rfl rfl ?_
  refine o_iload_n C 2 dX10_note_5 rfl rfl ?_
  refine o_iast C kt_34 rfl hz1 hz2 hμ dX10_note_6 h (fun μ1 hμ1 h => ?_)
  refine o_aload_n C 0 dX10_note_7 rfl rfl ?_
  refine o_getR (j := 6) C kt_31 rfl rfl (Nat.le_of_ble_eq_true rfl) lkf_RX10_25 dX10_note_8 ?_
  refine o_iload_n C 1 dX10_note_11 rfl rfl ?_
  refine o_iconst C dX10_note_12 ?_
  refine o_iload_n C 3 dX10_note_13 rfl rfl ?_
  refine o_cSI C [vI (-1), vI z3] mb_J9_max_7cf53 (by decide) (fun _ hu => c_J9_max_7cf53 ⟨by decide, by decide⟩ hz3 hμ1 hu) rfl (Nat.le_of_ble_eq_true rfl) h ms_J9_max_7cf53 lkm_RX10_52 rfl rfl dX10_note_14 (fun x2 μ3 hx2 hμ3 h => ?_)
  refine o_iast C kt_35 rfl hz1 hx2 hμ3 dX10_note_17 h (fun μ4 hμ4 h => ?_)
  refine o_iload_n C 3 dX10_note_18 rfl rfl ?_
  refine o_if_lt (tgt := 26) C hz3 dX10_note_19 (by decide) h (fun _ h => ?_) (fun _ h => ?_)
  · refine o_iconst C dX10_note_26 ?_
    exact o_zret C hQ dX10_note_27 h hμ4
  · refine o_iconst C dX10_note_22 ?_
    refine o_goto (tgt := 27) C dX10_note_23 (by decide) ?_
    exact o_zret C hQ dX10_note_27 h hμ4
theorem c_X10_note {z1 : Int} (hz1 : r32 z1) {z2 : Int} (hz2 : r32 z2) {z3 : Int} (hz3 : r32 z3) {μ : GM} (hμ : gRg μ) {u : Int × GM} (h : f_X10_note z1 z2 z3 μ = some u) : MtI 1 yX10_note cX10_note 4 (some .boolean) (fun ad => [.ref (ad 31), vI z1, vI z2, vI z3]) μ u := MtI.of pf_X10_note (fun _ => Nat.le_of_ble_eq_true rfl) (fun G C hQ => w_X10_note_0 C hQ hz1 hz2 hz3 hμ h)
def f_X10_isSeen (z1 : Int) (μ : GM) : Option (Int × GM) :=
  ck (0 ≤ z1 ∧ z1 < 6) (
  if (μ.1 35 z1) < 0 then
    some (0 % 2, μ)
  else
    some (1 % 2, μ))
set_option maxHeartbeats 4000000 in
set_option maxRecDepth 100000 in
theorem w_X10_isSeen_0 {G : GX} {u : Int × GM} (C : CX G 0 cX10_isSeen 2 RX10) (hQ : gQI G (some .boolean) u) {z1 : Int} (hz1 : r32 z1) {μ : GM} (hμ : gRg μ) (h : f_X10_isSeen z1 μ = some u) : WM G 2 μ 0 [(0, gR G 31), (1, vI z1)] [] := by
  unfold f_X10_isSeen at h
  refine o_aload_n C 0 dX10_isSeen_0 rfl rfl ?_
  refine o_getR (j := 6) C kt_31 rfl rfl (Nat.le_of_ble_eq_true rfl) lkf_RX10_25 dX10_isSeen_1 ?_
  refine o_iload_n C 1 dX10_isSeen_4 rfl rfl ?_
  refine o_iald C kt_35 rfl hz1 dX10_isSeen_5 h (fun h => ?_)
  refine o_if_lt (tgt := 13) C (hμ.i kt_35 (by decide) _) dX10_isSeen_6 (by decide) h (fun _ h => ?_) (fun _ h => ?_)
  · refine o_iconst C dX10_isSeen_13 ?_
    exact o_zret C hQ dX10_isSeen_14 h hμ
  · refine o_iconst C dX10_isSeen_9 ?_
    refine o_goto (tgt := 14) C dX10_isSeen_10 (by decide) ?_
    exact o_zret C hQ dX10_isSeen_14 h hμ
theorem c_X10_isSeen {z1 : Int} (hz1 : r32 z1) {μ : GM} (hμ : gRg μ) {u : Int × GM} (h : f_X10_isSeen z1 μ = some u) : MtI 0 yX10_isSeen cX10_isSeen 2 (some .boolean) (fun ad => [.ref (ad 31), vI z1]) μ u := MtI.of pf_X10_isSeen (fun _ => Nat.le_of_ble_eq_true rfl) (fun G C hQ => w_X10_isSeen_0 C hQ hz1 hμ h)
def k_X10_seenCells_4 : Nat → Int → Int → GM → Option (Int × GM)
  | 0, _, _, _ => none
  | n + 1, z1, z2, μ =>
    if z2 < (μ.2 1 0) then
      bd (f_X10_isSeen z2 μ) fun x1 μ2 =>
      if x1 = 0 then
        lt (w32 (z2 + 1)) fun x3 =>
        k_X10_seenCells_4 n z1 x3 μ2
      else
        lt (w32 (z1 + 1)) fun x4 =>
        lt (w32 (z2 + 1)) fun x5 =>
        k_X10_seenCells_4 n x4 x5 μ2
    else
      some (z1, μ)
set_option maxHeartbeats 4000000 in
set_option maxRecDepth 100000 in
theorem w_X10_seenCells_4 {G : GX} {u : Int × GM} (C : CX G 1 cX10_seenCells 3 RX10) (hQ : gQI G (some .int) u) : ∀ (n : Nat) (z1 : Int) (hz1 : r32 z1) (z2 : Int) (hz2 : r32 z2) (μ : GM) (hμ : gRg μ), k_X10_seenCells_4 n z1 z2 μ = some u → WM G 3 μ 4 [(0, gR G 31), (1, vI z1), (2, vI z2)] [] := by
  intro n
  induction n with
  | zero =>
    intro z1 hz1 z2 hz2 μ hμ h
    cases h
  | succ n ih =>
    intro z1 hz1 z2 hz2 μ hμ h
    rw [k_X10_seenCells_4] at h
    refine o_iload_n C 2 dX10_seenCells_4 rfl rfl ?_
    refine o_aload_n C 0 dX10_seenCells_5 rfl rfl ?_
    refine o_getR (j := 0) C kt_31 rfl rfl (Nat.le_of_ble_eq_true rfl) lkf_RX10_33 dX10_seenCells_6 ?_
    refine o_getI (j := 0) C kt_1 rfl rfl (Nat.le_of_ble_eq_true rfl) lkf_RX10_58 dX10_seenCells_9 ?_
    refine o_icmp_ge (tgt := 32) C hz2 (hμ.fi kt_1 rfl (by decide)) dX10_seenCells_12 (by decide) h (fun _ h => ?_) (fun _ h => ?_)
    · refine o_iload_n C 1 dX10_seenCells_32 rfl rfl ?_
      exact o_iret C hQ dX10_seenCells_33 h hz1 hμ
    · refine o_aload_n C 0 dX10_seenCells_15 rfl rfl ?_
      refine o_iload_n C 2 dX10_seenCells_16 rfl rfl ?_
      refine o_cVI C [vI z2] mb_X10_isSeen (by decide) (fun _ hu => c_X10_isSeen hz2 hμ hu) rfl (Nat.le_of_ble_eq_true rfl) h mi_X10_isSeen me_X10_isSeen lkm_RX10_63 kt_31 rfl rfl rfl dX10_seenCells_17 (fun x1 μ2 hx1 hμ2 h => ?_)
      refine o_if_eq (tgt := 26) C hx1 dX10_seenCells_20 (by decide) h (fun _ h => ?_) (fun _ h => ?_)
      · refine o_iinc (lv2 := fun x3 => [(2, vI x3), (0, gR G 31), (1, vI z1)]) C 2 dX10_seenCells_26 rfl (by decide) (fun _ => rfl) h (fun x3 hx3 h => ?_)
        refine o_goto (tgt := 4) C dX10_seenCells_29 (by decide) ?_
        exact WM.sub [1, 2, 0] rfl (ih z1 hz1 x3 hx3 μ2 hμ2 h)
      · refine o_iinc (lv2 := fun x4 => [(1, vI x4), (0, gR G 31), (2, vI z2)]) C 1 dX10_seenCells_23 rfl (by decide) (fun _ => rfl) h (fun x4 hx4 h => ?_)
        refine o_iinc (lv2 := fun x5 => [(2, vI x5), (1, vI x4), (0, gR G 31)]) C 2 dX10_seenCells_26 rfl (by decide) (fun _ => rfl) h (fun x5 hx5 h => ?_)
        refine o_goto (tgt := 4) C dX10_seenCells_29 (by decide) ?_
        exact WM.sub [2, 1, 0] rfl (ih x4 hx4 x5 hx5 μ2 hμ2 h)
def f_X10_seenCells (μ : GM) : Option (Int × GM) :=
  k_X10_seenCells_4 FU 0 0 μ
set_option maxHeartbeats 4000000 in
set_option maxRecDepth 100000 in
theorem w_X10_seenCells_0 {G : GX} {u : Int × GM} (C : CX G 1 cX10_seenCells 3 RX10) (hQ : gQI G (some .int) u) {μ : GM} (hμ : gRg μ) (h : f_X10_seenCells μ = some u) : WM G 3 μ 0 [(0, gR G 31)] [] := by
  unfold f_X10_seenCells at h
  refine o_iconst C dX10_seenCells_0 ?_
  refine o_istore_n (lv2 := [(1, vI 0), (0, gR G 31)]) C dX10_seenCells_1 rfl (by decide) rfl ?_
  refine o_iconst C dX10_seenCells_2 ?_
  refine o_istore_n (lv2 := [(2, vI 0), (1, vI 0), (0, gR G 31)]) C dX10_seenCells_3 rfl (by decide) rfl ?_
  exact WM.sub [2, 1, 0] rfl (w_X10_seenCells_4 C hQ FU 0 ⟨by decide, by decide⟩ 0 ⟨by decide, by decide⟩ μ hμ h)
theorem c_X10_seenCells {μ : GM} (hμ : gRg μ) {u : Int × GM} (h : f_X10_seenCells μ = some u) : MtI 1 yX10_seenCells cX10_seenCells 3 (some .int) (fun ad => [.ref (ad 31)]) μ u := MtI.of pf_X10_seenCells (fun _ => Nat.le_of_ble_eq_true rfl) (fun G C hQ => w_X10_seenCells_0 C hQ hμ h)
def f_X11_exchange (a0 : Nat) (z1 : Int) (z2 : Int) (μ : GM) : Option (Int × GM) :=
  ck (0 ≤ z1 ∧ z1 < ((gLen a0 : Nat) : Int)) (
  lt (μ.1 a0 z1) fun x1 =>
  ck (0 ≤ z1 ∧ z1 < ((gLen a0 : Nat) : Int)) (lm (gA μ a0 z1 z2) fun μ2 =>
  some (x1, μ2)))
set_option maxHeartbeats 4000000 in
set_option maxRecDepth 100000 in
theorem w_X11_exchange_0 {G : GX} {u : Int × GM} (C : CX G 0 cX11_exchange 4 RX11) (hQ : gQI G (some .int) u) {a0 : Nat} (ha0 : gKT[a0]? = some (0, gLen a0, 0, [])) {z1 : Int} (hz1 : r32 z1) {z2 : Int} (hz2 : r32 z2) {μ : GM} (hμ : gRg μ) (h : f_X11_exchange a0 z1 z2 μ = some u) : WM G 4 μ 0 [(0, gR G a0), (1, vI z1), (2, vI z2)] [] := by
  unfold f_X11_exchange at h
  refine o_aload_n C 0 dX11_exchange_0 rfl rfl ?_
  refine o_iload_n C 1 dX11_exchange_1 rfl rfl ?_
  refine o_iald C ha0 rfl hz1 dX11_exchange_2 h (fun h => ?_)
  refine o_lt h (hμ.i ha0 (by decide) _) (fun x1 hx1 h => ?_)
  refine o_istore_n (lv2 := [(3, vI x1), (0, gR G a0), (1, vI z1), (2, vI z2)]) C dX11_exchange_3 rfl (by decide) rfl ?_
  refine o_aload_n C 1 dX11_exchange_4 rfl rfl ?_
  refine o_iload_n C 2 dX11_exchange_5 rfl rfl ?_
  refine o_iload_n C 3 dX11_exchange_6 rfl rfl ?_
  refine o_iast C ha0 rfl hz1 hz2 hμ dX11_exchange_7 h (fun μ2 hμ2 h => ?_)
  refine o_iload_n C 0 dX11_exchange_8 rfl rfl ?_
  exact o_iret C hQ dX11_exchange_9 h hx1 hμ2
theorem c_X11_exchange {a0 : Nat} (ha0 : gKT[a0]? = some (0, gLen a0, 0, [])) {z1 : Int} (hz1 : r32 z1) {z2 : Int} (hz2 : r32 z2) {μ : GM} (hμ : gRg μ) {u : Int × GM} (h : f_X11_exchange a0 z1 z2 μ = some u) : MtI 0 yX11_exchange cX11_exchange 4 (some .int) (fun ad => [.ref (ad a0), vI z1, vI z2]) μ u := MtI.of pf_X11_exchange (fun _ => Nat.le_of_ble_eq_true rfl) (fun G C hQ => w_X11_exchange_0 C hQ ha0 hz1 hz2 hμ h)
def f_X10_settleIn (z1 : Int) (μ : GM) : Option (Int × GM) :=
  ck (0 ≤ z1 ∧ z1 < 5) (
  ck (0 ≤ z1 ∧ z1 < 5) (
  bd (f_X11_exchange 8 (μ.1 32 z1) (μ.1 33 z1) μ) fun x1 μ2 =>
  bd (f_X6_forget 132 μ2) fun _x3 μ4 =>
  bd (f_X6_settle 132 22 μ4) fun x5 μ6 =>
  ck (0 ≤ z1 ∧ z1 < 5) (
  ck (0 ≤ (μ6.1 32 z1) ∧ (μ6.1 32 z1) < 12) (lm (gA μ6 8 (μ6.1 32 z1) x1) fun μ7 =>
  some (x5 % 2, μ7)))))
set_option maxHeartbeats 4000000 in
set_option maxRecDepth 100000 in
theorem w_X10_settleIn_0 {G : GX} {u : Int × GM} (C : CX G 4 cX10_settleIn 5 RX10) (hQ : gQI G (some .boolean) u) {z1 : Int} (hz1 : r32 z1) {μ : GM} (hμ : gRg μ) (h : f_X10_settleIn z1 μ = some u) : WM G 5 μ 0 [(0, gR G 31), (1, vI z1)] [] := by
  unfold f_X10_settleIn at h
  refine o_aload_n C 0 dX10_settleIn_0 rfl rfl ?_
  refine o_getR (j := 0) C kt_31 rfl rfl (Nat.le_of_ble_eq_true rfl) lkf_RX10_33 dX10_settleIn_1 ?_
  refine o_getR (j := 4) C kt_1 rfl rfl (Nat.le_of_ble_eq_true rfl) lkf_RX10_67 dX10_settleIn_4 ?_
  refine o_getR (j := 3) C kt_5 rfl rfl (Nat.le_of_ble_eq_true rfl) lkf_RX10_71 dX10_settleIn_7 ?_
  refine o_astore_n (lv2 := [(2, gR G 8), (0, gR G 31), (1, vI z1)]) C dX10_settleIn_10 rfl (by decide) rfl ?_
  refine o_aload_n C 0 dX10_settleIn_11 rfl rfl ?_
  refine o_aload_n C 1 dX10_settleIn_12 rfl rfl ?_
  refine o_getR (j := 3) C kt_31 rfl rfl (Nat.le_of_ble_eq_true rfl) lkf_RX10_15 dX10_settleIn_13 ?_
  refine o_iload_n C 2 dX10_settleIn_16 rfl rfl ?_
  refine o_iald C kt_32 rfl hz1 dX10_settleIn_17 h (fun h => ?_)
  refine o_aload_n C 1 dX10_settleIn_18 rfl rfl ?_
  refine o_getR (j := 4) C kt_31 rfl rfl (Nat.le_of_ble_eq_true rfl) lkf_RX10_19 dX10_settleIn_19 ?_
  refine o_iload_n C 2 dX10_settleIn_22 rfl rfl ?_
  refine o_iald C kt_33 rfl hz1 dX10_settleIn_23 h (fun h => ?_)
  refine o_cNI C [gR G 8, vI (μ.1 32 z1), vI (μ.1 33 z1)] mb_X11_exchange (by decide) (fun _ hu => c_X11_exchange (kt_gen kt_8) (hμ.i kt_32 (by decide) _) (hμ.i kt_33 (by decide) _) hμ hu) rfl (Nat.le_of_ble_eq_true rfl) h ms_X11_exchange lkm_RX10_74 rfl rfl dX10_settleIn_24 (fun x1 μ2 hx1 hμ2 h => ?_)
  refine o_istore_n (lv2 := [(3, vI x1), (2, gR G 8), (0, gR G 31), (1, vI z1)]) C dX10_settleIn_27 rfl (by decide) rfl ?_
  refine o_aload_n C 2 dX10_settleIn_28 rfl rfl ?_
  refine o_getR (j := 1) C kt_31 rfl rfl (Nat.le_of_ble_eq_true rfl) lkf_RX10_42 dX10_settleIn_29 ?_
  refine o_cVV C [] mb_X6_forget (by decide) (fun _ hu => c_X6_forget gRt_B hμ2 hu) rfl (Nat.le_of_ble_eq_true rfl) h mi_X6_forget me_X6_forget lkm_RX10_78 kt_132 rfl rfl rfl dX10_settleIn_32 (fun _x3 μ4 hμ4 h => ?_)
  refine o_aload_n C 2 dX10_settleIn_35 rfl rfl ?_
  refine o_getR (j := 1) C kt_31 rfl rfl (Nat.le_of_ble_eq_true rfl) lkf_RX10_42 dX10_settleIn_36 ?_
  refine o_aload_n C 2 dX10_settleIn_39 rfl rfl ?_
  refine o_getR (j := 0) C kt_31 rfl rfl (Nat.le_of_ble_eq_true rfl) lkf_RX10_33 dX10_settleIn_40 ?_
  refine o_getR (j := 7) C kt_1 rfl rfl (Nat.le_of_ble_eq_true rfl) lkf_RX10_81 dX10_settleIn_43 ?_
  refine o_getR (j := 4) C kt_18 rfl rfl (Nat.le_of_ble_eq_true rfl) lkf_RX10_85 dX10_settleIn_46 ?_
  refine o_cVI C [gR G 22] mb_X6_settle (by decide) (fun _ hu => c_X6_settle gRt_B kt_22 hμ4 hu) rfl (Nat.le_of_ble_eq_true rfl) h mi_X6_settle me_X6_settle lkm_RX10_90 kt_132 rfl rfl rfl dX10_settleIn_49 (fun x5 μ6 hx5 hμ6 h => ?_)
  refine o_istore (lv2 := [(4, vI x5), (3, vI x1), (2, gR G 8), (0, gR G 31), (1, vI z1)]) C dX10_settleIn_52 (by decide) rfl ?_
  refine o_aload_n C 2 dX10_settleIn_54 rfl rfl ?_
  refine o_aload_n C 3 dX10_settleIn_55 rfl rfl ?_
  refine o_getR (j := 3) C kt_31 rfl rfl (Nat.le_of_ble_eq_true rfl) lkf_RX10_15 dX10_settleIn_56 ?_
  refine o_iload_n C 4 dX10_settleIn_59 rfl rfl ?_
  refine o_iald C kt_32 rfl hz1 dX10_settleIn_60 h (fun h => ?_)
  refine o_iload_n C 1 dX10_settleIn_61 rfl rfl ?_
  refine o_iast C kt_8 rfl (hμ6.i kt_32 (by decide) _) hx1 hμ6 dX10_settleIn_62 h (fun μ7 hμ7 h => ?_)
  refine o_iload C 0 dX10_settleIn_63 rfl ?_
  exact o_zret C hQ dX10_settleIn_65 h hμ7
theorem c_X10_settleIn {z1 : Int} (hz1 : r32 z1) {μ : GM} (hμ : gRg μ) {u : Int × GM} (h : f_X10_settleIn z1 μ = some u) : MtI 4 yX10_settleIn cX10_settleIn 5 (some .boolean) (fun ad => [.ref (ad 31), vI z1]) μ u := MtI.of pf_X10_settleIn (fun _ => Nat.le_of_ble_eq_true rfl) (fun G C hQ => w_X10_settleIn_0 C hQ hz1 hμ h)
def k_X10_agrees_4 : Nat → Int → Int → Int → GM → Option (Int × GM)
  | 0, _, _, _, _ => none
  | n + 1, z1, z2, z3, μ =>
    if z3 < (μ.2 1 0) then
      bd (f_X6_headMilli 132 z3 μ) fun x1 μ2 =>
      ck (0 ≤ z1 ∧ z1 < 5) (
      ck (0 ≤ z3 ∧ z3 < 6) (lm (gA μ2 (37 + Int.toNat z1) z3 x1) fun μ4 =>
      bd (f_X10_isSeen z3 μ4) fun x5 μ6 =>
      if x5 = 0 then
        lt (w32 (z3 + 1)) fun x7 =>
        k_X10_agrees_4 n z1 z2 x7 μ6
      else
        ck (0 ≤ z3 ∧ z3 < 6) (
        bd (f_J9_abs_0f7a4 (w32 (x1 - (μ6.1 34 z3))) μ6) fun x8 μ9 =>
        ck (0 ≤ z3 ∧ z3 < 6) (
        if (μ9.1 35 z3) < x8 then
          lt (w32 (z3 + 1)) fun x11 =>
          k_X10_agrees_4 n z1 0 x11 μ9
        else
          lt (w32 (z3 + 1)) fun x10 =>
          k_X10_agrees_4 n z1 z2 x10 μ9))))
    else
      some (z2 % 2, μ)
set_option maxHeartbeats 4000000 in
set_option maxRecDepth 100000 in
theorem w_X10_agrees_4 {G : GX} {u : Int × GM} (C : CX G 3 cX10_agrees 5 RX10) (hQ : gQI G (some .boolean) u) : ∀ (n : Nat) (z1 : Int) (hz1 : r32 z1) (z2 : Int) (hz2 : r32 z2) (z3 : Int) (hz3 : r32 z3) (μ : GM) (hμ : gRg μ), k_X10_agrees_4 n z1 z2 z3 μ = some u → WM G 5 μ 4 [(0, gR G 31), (1, vI z1), (2, vI z2), (3, vI z3)] [] := by
  intro n
  induction n with
  | zero =>
    intro z1 hz1 z2 hz2 z3 hz3 μ hμ h
    cases h
  | succ n ih =>
    intro z1 hz1 z2 hz2 z3 hz3 μ hμ h
    rw [k_X10_agrees_4] at h
    refine o_iload_n C 3 dX10_agrees_4 rfl rfl ?_
    refine o_aload_n C 0 dX10_agrees_5 rfl rfl ?_
    refine o_getR (j := 0) C kt_31 rfl rfl (Nat.le_of_ble_eq_true rfl) lkf_RX10_33 dX10_agrees_6 ?_
    refine o_getI (j := 0) C kt_1 rfl rfl (Nat.le_of_ble_eq_true rfl) lkf_RX10_58 dX10_agrees_9 ?_
    refine o_icmp_ge (tgt := 72) C hz3 (hμ.fi kt_1 rfl (by decide)) dX10_agrees_12 (by decide) h (fun _ h => ?_) (fun _ h => ?_)
    · refine o_iload_n C 2 dX10_agrees_72 rfl rfl ?_
      exact o_zret C hQ dX10_agrees_73 h hμ
    · refine o_aload_n C 0 dX10_agrees_15 rfl rfl ?_
      refine o_getR (j := 1) C kt_31 rfl rfl (Nat.le_of_ble_eq_true rfl) lkf_RX10_42 dX10_agrees_16 ?_
      refine o_iload_n C 3 dX10_agrees_19 rfl rfl ?_
      refine o_cVI C [vI z3] mb_X6_headMilli (by decide) (fun _ hu => c_X6_headMilli gRt_B hz3 hμ hu) rfl (Nat.le_of_ble_eq_true rfl) h mi_X6_headMilli me_X6_headMilli lkm_RX10_100 kt_132 rfl rfl rfl dX10_agrees_20 (fun x1 μ2 hx1 hμ2 h => ?_)
      refine o_istore (lv2 := [(4, vI x1), (0, gR G 31), (1, vI z1), (2, vI z2), (3, vI z3)]) C dX10_agrees_23 (by decide) rfl ?_
      refine o_aload_n C 1 dX10_agrees_25 rfl rfl ?_
      refine o_getR (j := 7) C kt_31 rfl rfl (Nat.le_of_ble_eq_true rfl) lkf_RX10_30 dX10_agrees_26 ?_
      refine o_iload_n C 2 dX10_agrees_29 rfl rfl ?_
      refine o_aald3 C kt_36 rfl hz1 dX10_agrees_30 h (fun hb3 h => ?_)
      refine o_iload_n C 4 dX10_agrees_31 rfl rfl ?_
      refine o_iload C 0 dX10_agrees_32 rfl ?_
      refine o_iast C (kt_mil rfl hb3) rfl hz3 hx1 hμ2 dX10_agrees_34 h (fun μ4 hμ4 h => ?_)
      refine o_aload_n C 1 dX10_agrees_35 rfl rfl ?_
      refine o_iload_n C 4 dX10_agrees_36 rfl rfl ?_
      refine o_cVI C [vI z3] mb_X10_isSeen (by decide) (fun _ hu => c_X10_isSeen hz3 hμ4 hu) rfl (Nat.le_of_ble_eq_true rfl) h mi_X10_isSeen me_X10_isSeen lkm_RX10_63 kt_31 rfl rfl rfl dX10_agrees_37 (fun x5 μ6 hx5 hμ6 h => ?_)
      refine o_if_eq (tgt := 66) C hx5 dX10_agrees_40 (by decide) h (fun _ h => ?_) (fun _ h => ?_)
      · refine o_iinc (lv2 := fun x7 => [(3, vI x7), (4, vI x1), (0, gR G 31), (1, vI z1), (2, vI z2)]) C 4 dX10_agrees_66 rfl (by decide) (fun _ => rfl) h (fun x7 hx7 h => ?_)
        refine o_goto (tgt := 4) C dX10_agrees_69 (by decide) ?_
        exact WM.sub [2, 3, 4, 0] rfl (ih z1 hz1 z2 hz2 x7 hx7 μ6 hμ6 h)
      · refine o_iload C 0 dX10_agrees_43 rfl ?_
        refine o_aload_n C 1 dX10_agrees_45 rfl rfl ?_
        refine o_getR (j := 5) C kt_31 rfl rfl (Nat.le_of_ble_eq_true rfl) lkf_RX10_22 dX10_agrees_46 ?_
        refine o_iload_n C 4 dX10_agrees_49 rfl rfl ?_
        refine o_iald C kt_34 rfl hz3 dX10_agrees_50 h (fun h => ?_)
        refine o_isub C dX10_agrees_51 ?_
        refine o_cSI C [vI (w32 (x1 - (μ6.1 34 z3)))] mb_J9_abs_0f7a4 (by decide) (fun _ hu => c_J9_abs_0f7a4 (r32_w _) hμ6 hu) rfl (Nat.le_of_ble_eq_true rfl) h ms_J9_abs_0f7a4 lkm_RX10_104 rfl rfl dX10_agrees_52 (fun x8 μ9 hx8 hμ9 h => ?_)
        refine o_aload_n C 1 dX10_agrees_55 rfl rfl ?_
        refine o_getR (j := 6) C kt_31 rfl rfl (Nat.le_of_ble_eq_true rfl) lkf_RX10_25 dX10_agrees_56 ?_
        refine o_iload_n C 4 dX10_agrees_59 rfl rfl ?_
        refine o_iald C kt_35 rfl hz3 dX10_agrees_60 h (fun h => ?_)
        refine o_icmp_le (tgt := 66) C hx8 (hμ9.i kt_35 (by decide) _) dX10_agrees_61 (by decide) h (fun _ h => ?_) (fun _ h => ?_)
        · refine o_iinc (lv2 := fun x10 => [(3, vI x10), (4, vI x1), (0, gR G 31), (1, vI z1), (2, vI z2)]) C 4 dX10_agrees_66 rfl (by decide) (fun _ => rfl) h (fun x10 hx10 h => ?_)
          refine o_goto (tgt := 4) C dX10_agrees_69 (by decide) ?_
          exact WM.sub [2, 3, 4, 0] rfl (ih z1 hz1 z2 hz2 x10 hx10 μ9 hμ9 h)
        · refine o_iconst C dX10_agrees_64 ?_
          refine o_istore_n (lv2 := [(2, vI 0), (4, vI x1), (0, gR G 31), (1, vI z1), (3, vI z3)]) C dX10_agrees_65 rfl (by decide) rfl ?_
          refine o_iinc (lv2 := fun x11 => [(3, vI x11), (2, vI 0), (4, vI x1), (0, gR G 31), (1, vI z1)]) C 4 dX10_agrees_66 rfl (by decide) (fun _ => rfl) h (fun x11 hx11 h => ?_)
          refine o_goto (tgt := 4) C dX10_agrees_69 (by decide) ?_
          exact WM.sub [3, 4, 1, 0] rfl (ih z1 hz1 0 ⟨by decide, by decide⟩ x11 hx11 μ9 hμ9 h)
def f_X10_agrees (z1 : Int) (μ : GM) : Option (Int × GM) :=
  k_X10_agrees_4 FU z1 1 0 μ
set_option maxHeartbeats 4000000 in
set_option maxRecDepth 100000 in
theorem w_X10_agrees_0 {G : GX} {u : Int × GM} (C : CX G 3 cX10_agrees 5 RX10) (hQ : gQI G (some .boolean) u) {z1 : Int} (hz1 : r32 z1) {μ : GM} (hμ : gRg μ) (h : f_X10_agrees z1 μ = some u) : WM G 5 μ 0 [(0, gR G 31), (1, vI z1)] [] := by
  unfold f_X10_agrees at h
  refine o_iconst C dX10_agrees_0 ?_
  refine o_istore_n (lv2 := [(2, vI 1), (0, gR G 31), (1, vI z1)]) C dX10_agrees_1 rfl (by decide) rfl ?_
  refine o_iconst C dX10_agrees_2 ?_
  refine o_istore_n (lv2 := [(3, vI 0), (2, vI 1), (0, gR G 31), (1, vI z1)]) C dX10_agrees_3 rfl (by decide) rfl ?_
  exact WM.sub [2, 3, 1, 0] rfl (w_X10_agrees_4 C hQ FU z1 hz1 1 ⟨by decide, by decide⟩ 0 ⟨by decide, by decide⟩ μ hμ h)
theorem c_X10_agrees {z1 : Int} (hz1 : r32 z1) {μ : GM} (hμ : gRg μ) {u : Int × GM} (h : f_X10_agrees z1 μ = some u) : MtI 3 yX10_agrees cX10_agrees 5 (some .boolean) (fun ad => [.ref (ad 31), vI z1]) μ u := MtI.of pf_X10_agrees (fun _ => Nat.le_of_ble_eq_true rfl) (fun G C hQ => w_X10_agrees_0 C hQ hz1 hμ h)
def k_X10_thatAreLeft_4 : Nat → Int → Int → GM → Option (Int × GM)
  | 0, _, _, _ => none
  | n + 1, z1, z2, μ =>
    if z2 < (μ.2 31 2) then
      bd (f_X10_settleIn z2 μ) fun x1 μ2 =>
      if x1 = 0 then
        lt (w32 (z2 + 1)) fun x3 =>
        k_X10_thatAreLeft_4 n z1 x3 μ2
      else
        bd (f_X10_agrees z2 μ2) fun x4 μ5 =>
        if x4 = 0 then
          lt (w32 (z2 + 1)) fun x6 =>
          k_X10_thatAreLeft_4 n z1 x6 μ5
        else
          lt (gor z1 (gshl 1 z2)) fun x7 =>
          lt (w32 (z2 + 1)) fun x8 =>
          k_X10_thatAreLeft_4 n x7 x8 μ5
    else
      some (z1, μ)
set_option maxHeartbeats 4000000 in
set_option maxRecDepth 100000 in
theorem w_X10_thatAreLeft_4 {G : GX} {u : Int × GM} (C : CX G 5 cX10_thatAreLeft 3 RX10) (hQ : gQI G (some .int) u) : ∀ (n : Nat) (z1 : Int) (hz1 : r32 z1) (z2 : Int) (hz2 : r32 z2) (μ : GM) (hμ : gRg μ), k_X10_thatAreLeft_4 n z1 z2 μ = some u → WM G 3 μ 4 [(0, gR G 31), (1, vI z1), (2, vI z2)] [] := by
  intro n
  induction n with
  | zero =>
    intro z1 hz1 z2 hz2 μ hμ h
    cases h
  | succ n ih =>
    intro z1 hz1 z2 hz2 μ hμ h
    rw [k_X10_thatAreLeft_4] at h
    refine o_iload_n C 2 dX10_thatAreLeft_4 rfl rfl ?_
    refine o_aload_n C 0 dX10_thatAreLeft_5 rfl rfl ?_
    refine o_getI (j := 2) C kt_31 rfl rfl (Nat.le_of_ble_eq_true rfl) lkf_RX10_9 dX10_thatAreLeft_6 ?_
    refine o_icmp_ge (tgt := 40) C hz2 (hμ.fi kt_31 rfl (by decide)) dX10_thatAreLeft_9 (by decide) h (fun _ h => ?_) (fun _ h => ?_)
    · refine o_iload_n C 1 dX10_thatAreLeft_40 rfl rfl ?_
      exact o_iret C hQ dX10_thatAreLeft_41 h hz1 hμ
    · refine o_aload_n C 0 dX10_thatAreLeft_12 rfl rfl ?_
      refine o_iload_n C 2 dX10_thatAreLeft_13 rfl rfl ?_
      refine o_cVI C [vI z2] mb_X10_settleIn (by decide) (fun _ hu => c_X10_settleIn hz2 hμ hu) rfl (Nat.le_of_ble_eq_true rfl) h mi_X10_settleIn me_X10_settleIn lkm_RX10_94 kt_31 rfl rfl rfl dX10_thatAreLeft_14 (fun x1 μ2 hx1 hμ2 h => ?_)
      refine o_if_eq (tgt := 34) C hx1 dX10_thatAreLeft_17 (by decide) h (fun _ h => ?_) (fun _ h => ?_)
      · refine o_iinc (lv2 := fun x3 => [(2, vI x3), (0, gR G 31), (1, vI z1)]) C 2 dX10_thatAreLeft_34 rfl (by decide) (fun _ => rfl) h (fun x3 hx3 h => ?_)
        refine o_goto (tgt := 4) C dX10_thatAreLeft_37 (by decide) ?_
        exact WM.sub [1, 2, 0] rfl (ih z1 hz1 x3 hx3 μ2 hμ2 h)
      · refine o_aload_n C 0 dX10_thatAreLeft_20 rfl rfl ?_
        refine o_iload_n C 2 dX10_thatAreLeft_21 rfl rfl ?_
        refine o_cVI C [vI z2] mb_X10_agrees (by decide) (fun _ hu => c_X10_agrees hz2 hμ2 hu) rfl (Nat.le_of_ble_eq_true rfl) h mi_X10_agrees me_X10_agrees lkm_RX10_97 kt_31 rfl rfl rfl dX10_thatAreLeft_22 (fun x4 μ5 hx4 hμ5 h => ?_)
        refine o_if_eq (tgt := 34) C hx4 dX10_thatAreLeft_25 (by decide) h (fun _ h => ?_) (fun _ h => ?_)
        · refine o_iinc (lv2 := fun x6 => [(2, vI x6), (0, gR G 31), (1, vI z1)]) C 2 dX10_thatAreLeft_34 rfl (by decide) (fun _ => rfl) h (fun x6 hx6 h => ?_)
          refine o_goto (tgt := 4) C dX10_thatAreLeft_37 (by decide) ?_
          exact WM.sub [1, 2, 0] rfl (ih z1 hz1 x6 hx6 μ5 hμ5 h)
        · refine o_iload_n C 1 dX10_thatAreLeft_28 rfl rfl ?_
          refine o_iconst C dX10_thatAreLeft_29 ?_
          refine o_iload_n C 2 dX10_thatAreLeft_30 rfl rfl ?_
          refine o_ishl C dX10_thatAreLeft_31 ?_
          refine o_ior C dX10_thatAreLeft_32 ?_
          refine o_lt h (r32_toInt _) (fun x7 hx7 h => ?_)
          refine o_istore_n (lv2 := [(1, vI x7), (0, gR G 31), (2, vI z2)]) C dX10_thatAreLeft_33 rfl (by decide) rfl ?_
          refine o_iinc (lv2 := fun x8 => [(2, vI x8), (1, vI x7), (0, gR G 31)]) C 2 dX10_thatAreLeft_34 rfl (by decide) (fun _ => rfl) h (fun x8 hx8 h => ?_)
          refine o_goto (tgt := 4) C dX10_thatAreLeft_37 (by decide) ?_
          exact WM.sub [2, 1, 0] rfl (ih x7 hx7 x8 hx8 μ5 hμ5 h)
def f_X10_thatAreLeft (μ : GM) : Option (Int × GM) :=
  k_X10_thatAreLeft_4 FU 0 0 μ
set_option maxHeartbeats 4000000 in
set_option maxRecDepth 100000 in
theorem w_X10_thatAreLeft_0 {G : GX} {u : Int × GM} (C : CX G 5 cX10_thatAreLeft 3 RX10) (hQ : gQI G (some .int) u) {μ : GM} (hμ : gRg μ) (h : f_X10_thatAreLeft μ = some u) : WM G 3 μ 0 [(0, gR G 31)] [] := by
  unfold f_X10_thatAreLeft at h
  refine o_iconst C dX10_thatAreLeft_0 ?_
  refine o_istore_n (lv2 := [(1, vI 0), (0, gR G 31)]) C dX10_thatAreLeft_1 rfl (by decide) rfl ?_
  refine o_iconst C dX10_thatAreLeft_2 ?_
  refine o_istore_n (lv2 := [(2, vI 0), (1, vI 0), (0, gR G 31)]) C dX10_thatAreLeft_3 rfl (by decide) rfl ?_
  exact WM.sub [2, 1, 0] rfl (w_X10_thatAreLeft_4 C hQ FU 0 ⟨by decide, by decide⟩ 0 ⟨by decide, by decide⟩ μ hμ h)
theorem c_X10_thatAreLeft {μ : GM} (hμ : gRg μ) {u : Int × GM} (h : f_X10_thatAreLeft μ = some u) : MtI 5 yX10_thatAreLeft cX10_thatAreLeft 3 (some .int) (fun ad => [.ref (ad 31)]) μ u := MtI.of pf_X10_thatAreLeft (fun _ => Nat.le_of_ble_eq_true rfl) (fun G C hQ => w_X10_thatAreLeft_0 C hQ hμ h)
def k_X10_mostAlike_20 (kL5 : Int → Int → Int → Int → GM → Option (Int × GM)) : Nat → Int → Int → Int → Int → Int → Int → GM → Option (Int × GM)
  | 0, _, _, _, _, _, _, _ => none
  | n + 1, z1, z2, z3, z4, z5, z6, μ =>
    if z6 < (μ.2 31 2) then
      if (gand (gshr z1 z6) 1) = 1 then
        ck (0 ≤ z6 ∧ z6 < 5) (
        ck (0 ≤ z2 ∧ z2 < 6) (
        ck (0 ≤ z4 ∧ z4 < 5) (
        ck (0 ≤ z2 ∧ z2 < 6) (
        if (μ.1 (37 + Int.toNat z6) z2) = (μ.1 (37 + Int.toNat z4) z2) then
          lt (w32 (z5 + 1)) fun x9 =>
          lt (w32 (z6 + 1)) fun x10 =>
          k_X10_mostAlike_20 kL5 n z1 z2 z3 z4 x9 x10 μ
        else
          lt (w32 (z6 + 1)) fun x8 =>
          k_X10_mostAlike_20 kL5 n z1 z2 z3 z4 z5 x8 μ))))
      else
        lt (w32 (z6 + 1)) fun x5 =>
        k_X10_mostAlike_20 kL5 n z1 z2 z3 z4 z5 x5 μ
    else
      if (gand (gshr z1 z4) 1) = 1 then
        bd (f_J9_max_7cf53 z3 z5 μ) fun x2 μ3 =>
        lt (w32 (z4 + 1)) fun x4 =>
        kL5 z1 z2 x2 x4 μ3
      else
        lt (w32 (z4 + 1)) fun x1 =>
        kL5 z1 z2 z3 x1 μ
set_option maxHeartbeats 4000000 in
set_option maxRecDepth 100000 in
theorem w_X10_mostAlike_20 {G : GX} {u : Int × GM} (C : CX G 1 cX10_mostAlike 7 RX10) (hQ : gQI G (some .int) u) {kL5 : Int → Int → Int → Int → GM → Option (Int × GM)} (hL5 : ∀ (z1 : Int) (hz1 : r32 z1) (z2 : Int) (hz2 : r32 z2) (z3 : Int) (hz3 : r32 z3) (z4 : Int) (hz4 : r32 z4) (μ : GM) (hμ : gRg μ), kL5 z1 z2 z3 z4 μ = some u → WM G 7 μ 5 [(0, gR G 31), (1, vI z1), (2, vI z2), (3, vI z3), (4, vI z4)] []) : ∀ (n : Nat) (z1 : Int) (hz1 : r32 z1) (z2 : Int) (hz2 : r32 z2) (z3 : Int) (hz3 : r32 z3) (z4 : Int) (hz4 : r32 z4) (z5 : Int) (hz5 : r32 z5) (z6 : Int) (hz6 : r32 z6) (μ : GM) (hμ : gRg μ), k_X10_mostAlike_20 kL5 n z1 z2 z3 z4 z5 z6 μ = some u → WM G 7 μ 20 [(0, gR G 31), (1, vI z1), (2, vI z2), (3, vI z3), (4, vI z4), (5, vI z5), (6, vI z6)] [] := by
  intro n
  induction n with
  | zero =>
    intro z1 hz1 z2 hz2 z3 hz3 z4 hz4 z5 hz5 z6 hz6 μ hμ h
    cases h
  | succ n ih =>
    intro z1 hz1 z2 hz2 z3 hz3 z4 hz4 z5 hz5 z6 hz6 μ hμ h
    rw [k_X10_mostAlike_20] at h
    refine o_iload C 6 dX10_mostAlike_20 rfl ?_
    refine o_aload_n C 0 dX10_mostAlike_22 rfl rfl ?_
    refine o_getI (j := 2) C kt_31 rfl rfl (Nat.le_of_ble_eq_true rfl) lkf_RX10_9 dX10_mostAlike_23 ?_
    refine o_icmp_ge (tgt := 69) C hz6 (hμ.fi kt_31 rfl (by decide)) dX10_mostAlike_26 (by decide) h (fun _ h => ?_) (fun _ h => ?_)
    · refine o_iload_n C 1 dX10_mostAlike_69 rfl rfl ?_
      refine o_iload C 4 dX10_mostAlike_70 rfl ?_
      refine o_ishr C dX10_mostAlike_72 ?_
      refine o_iconst C dX10_mostAlike_73 ?_
      refine o_iand C dX10_mostAlike_74 ?_
      refine o_iconst C dX10_mostAlike_75 ?_
      refine o_icmp_ne (tgt := 86) C (r32_toInt _) ⟨by decide, by decide⟩ dX10_mostAlike_76 (by decide) h (fun _ h => ?_) (fun _ h => ?_)
      · refine o_iinc (lv2 := fun x1 => [(4, vI x1), (0, gR G 31), (1, vI z1), (2, vI z2), (3, vI z3), (5, vI z5), (6, vI z6)]) C 4 dX10_mostAlike_86 rfl (by decide) (fun _ => rfl) h (fun x1 hx1 h => ?_)
        refine o_goto (tgt := 5) C dX10_mostAlike_89 (by decide) ?_
        exact WM.sub [1, 2, 3, 4, 0] rfl (hL5 z1 hz1 z2 hz2 z3 hz3 x1 hx1 μ hμ h)
      · refine o_iload_n C 3 dX10_mostAlike_79 rfl rfl ?_
        refine o_iload C 5 dX10_mostAlike_80 rfl ?_
        refine o_cSI C [vI z3, vI z5] mb_J9_max_7cf53 (by decide) (fun _ hu => c_J9_max_7cf53 hz3 hz5 hμ hu) rfl (Nat.le_of_ble_eq_true rfl) h ms_J9_max_7cf53 lkm_RX10_52 rfl rfl dX10_mostAlike_82 (fun x2 μ3 hx2 hμ3 h => ?_)
        refine o_istore_n (lv2 := [(3, vI x2), (0, gR G 31), (1, vI z1), (2, vI z2), (4, vI z4), (5, vI z5), (6, vI z6)]) C dX10_mostAlike_85 rfl (by decide) rfl ?_
        refine o_iinc (lv2 := fun x4 => [(4, vI x4), (3, vI x2), (0, gR G 31), (1, vI z1), (2, vI z2), (5, vI z5), (6, vI z6)]) C 4 dX10_mostAlike_86 rfl (by decide) (fun _ => rfl) h (fun x4 hx4 h => ?_)
        refine o_goto (tgt := 5) C dX10_mostAlike_89 (by decide) ?_
        exact WM.sub [2, 3, 4, 1, 0] rfl (hL5 z1 hz1 z2 hz2 x2 hx2 x4 hx4 μ3 hμ3 h)
    · refine o_iload_n C 1 dX10_mostAlike_29 rfl rfl ?_
      refine o_iload C 6 dX10_mostAlike_30 rfl ?_
      refine o_ishr C dX10_mostAlike_32 ?_
      refine o_iconst C dX10_mostAlike_33 ?_
      refine o_iand C dX10_mostAlike_34 ?_
      refine o_iconst C dX10_mostAlike_35 ?_
      refine o_icmp_ne (tgt := 63) C (r32_toInt _) ⟨by decide, by decide⟩ dX10_mostAlike_36 (by decide) h (fun _ h => ?_) (fun _ h => ?_)
      · refine o_iinc (lv2 := fun x5 => [(6, vI x5), (0, gR G 31), (1, vI z1), (2, vI z2), (3, vI z3), (4, vI z4), (5, vI z5)]) C 6 dX10_mostAlike_63 rfl (by decide) (fun _ => rfl) h (fun x5 hx5 h => ?_)
        refine o_goto (tgt := 20) C dX10_mostAlike_66 (by decide) ?_
        exact WM.sub [1, 2, 3, 4, 5, 6, 0] rfl (ih z1 hz1 z2 hz2 z3 hz3 z4 hz4 z5 hz5 x5 hx5 μ hμ h)
      · refine o_aload_n C 0 dX10_mostAlike_39 rfl rfl ?_
        refine o_getR (j := 7) C kt_31 rfl rfl (Nat.le_of_ble_eq_true rfl) lkf_RX10_30 dX10_mostAlike_40 ?_
        refine o_iload C 6 dX10_mostAlike_43 rfl ?_
        refine o_aald3 C kt_36 rfl hz6 dX10_mostAlike_45 h (fun hb6 h => ?_)
        refine o_iload_n C 2 dX10_mostAlike_46 rfl rfl ?_
        refine o_iald C (kt_mil rfl hb6) rfl hz2 dX10_mostAlike_47 h (fun h => ?_)
        refine o_aload_n C 0 dX10_mostAlike_48 rfl rfl ?_
        refine o_getR (j := 7) C kt_31 rfl rfl (Nat.le_of_ble_eq_true rfl) lkf_RX10_30 dX10_mostAlike_49 ?_
        refine o_iload C 4 dX10_mostAlike_52 rfl ?_
        refine o_aald3 C kt_36 rfl hz4 dX10_mostAlike_54 h (fun hb7 h => ?_)
        refine o_iload_n C 2 dX10_mostAlike_55 rfl rfl ?_
        refine o_iald C (kt_mil rfl hb7) rfl hz2 dX10_mostAlike_56 h (fun h => ?_)
        refine o_icmp_ne (tgt := 63) C (hμ.i (kt_mil rfl hb6) (by decide) _) (hμ.i (kt_mil rfl hb7) (by decide) _) dX10_mostAlike_57 (by decide) h (fun _ h => ?_) (fun _ h => ?_)
        · refine o_iinc (lv2 := fun x8 => [(6, vI x8), (0, gR G 31), (1, vI z1), (2, vI z2), (3, vI z3), (4, vI z4), (5, vI z5)]) C 6 dX10_mostAlike_63 rfl (by decide) (fun _ => rfl) h (fun x8 hx8 h => ?_)
          refine o_goto (tgt := 20) C dX10_mostAlike_66 (by decide) ?_
          exact WM.sub [1, 2, 3, 4, 5, 6, 0] rfl (ih z1 hz1 z2 hz2 z3 hz3 z4 hz4 z5 hz5 x8 hx8 μ hμ h)
        · refine o_iinc (lv2 := fun x9 => [(5, vI x9), (0, gR G 31), (1, vI z1), (2, vI z2), (3, vI z3), (4, vI z4), (6, vI z6)]) C 5 dX10_mostAlike_60 rfl (by decide) (fun _ => rfl) h (fun x9 hx9 h => ?_)
          refine o_iinc (lv2 := fun x10 => [(6, vI x10), (5, vI x9), (0, gR G 31), (1, vI z1), (2, vI z2), (3, vI z3), (4, vI z4)]) C 6 dX10_mostAlike_63 rfl (by decide) (fun _ => rfl) h (fun x10 hx10 h => ?_)
          refine o_goto (tgt := 20) C dX10_mostAlike_66 (by decide) ?_
          exact WM.sub [2, 3, 4, 5, 6, 1, 0] rfl (ih z1 hz1 z2 hz2 z3 hz3 z4 hz4 x9 hx9 x10 hx10 μ hμ h)
def k_X10_mostAlike_5 : Nat → Int → Int → Int → Int → GM → Option (Int × GM)
  | 0, _, _, _, _, _ => none
  | n + 1, z1, z2, z3, z4, μ =>
    if z4 < (μ.2 31 2) then
      k_X10_mostAlike_20 (k_X10_mostAlike_5 n) FU z1 z2 z3 z4 0 0 μ
    else
      some (z3, μ)
set_option maxHeartbeats 4000000 in
set_option maxRecDepth 100000 in
theorem w_X10_mostAlike_5 {G : GX} {u : Int × GM} (C : CX G 1 cX10_mostAlike 7 RX10) (hQ : gQI G (some .int) u) : ∀ (n : Nat) (z1 : Int) (hz1 : r32 z1) (z2 : Int) (hz2 : r32 z2) (z3 : Int) (hz3 : r32 z3) (z4 : Int) (hz4 : r32 z4) (μ : GM) (hμ : gRg μ), k_X10_mostAlike_5 n z1 z2 z3 z4 μ = some u → WM G 7 μ 5 [(0, gR G 31), (1, vI z1), (2, vI z2), (3, vI z3), (4, vI z4)] [] := by
  intro n
  induction n with
  | zero =>
    intro z1 hz1 z2 hz2 z3 hz3 z4 hz4 μ hμ h
    cases h
  | succ n ih =>
    intro z1 hz1 z2 hz2 z3 hz3 z4 hz4 μ hμ h
    rw [k_X10_mostAlike_5] at h
    refine o_iload C 4 dX10_mostAlike_5 rfl ?_
    refine o_aload_n C 0 dX10_mostAlike_7 rfl rfl ?_
    refine o_getI (j := 2) C kt_31 rfl rfl (Nat.le_of_ble_eq_true rfl) lkf_RX10_9 dX10_mostAlike_8 ?_
    refine o_icmp_ge (tgt := 92) C hz4 (hμ.fi kt_31 rfl (by decide)) dX10_mostAlike_11 (by decide) h (fun _ h => ?_) (fun _ h => ?_)
    · refine o_iload_n C 3 dX10_mostAlike_92 rfl rfl ?_
      exact o_iret C hQ dX10_mostAlike_93 h hz3 hμ
    · refine o_iconst C dX10_mostAlike_14 ?_
      refine o_istore (lv2 := [(5, vI 0), (0, gR G 31), (1, vI z1), (2, vI z2), (3, vI z3), (4, vI z4)]) C dX10_mostAlike_15 (by decide) rfl ?_
      refine o_iconst C dX10_mostAlike_17 ?_
      refine o_istore (lv2 := [(6, vI 0), (5, vI 0), (0, gR G 31), (1, vI z1), (2, vI z2), (3, vI z3), (4, vI z4)]) C dX10_mostAlike_18 (by decide) rfl ?_
      exact WM.sub [2, 3, 4, 5, 6, 1, 0] rfl (w_X10_mostAlike_20 C hQ ih FU z1 hz1 z2 hz2 z3 hz3 z4 hz4 0 ⟨by decide, by decide⟩ 0 ⟨by decide, by decide⟩ μ hμ h)
def f_X10_mostAlike (z1 : Int) (z2 : Int) (μ : GM) : Option (Int × GM) :=
  k_X10_mostAlike_5 FU z1 z2 0 0 μ
set_option maxHeartbeats 4000000 in
set_option maxRecDepth 100000 in
theorem w_X10_mostAlike_0 {G : GX} {u : Int × GM} (C : CX G 1 cX10_mostAlike 7 RX10) (hQ : gQI G (some .int) u) {z1 : Int} (hz1 : r32 z1) {z2 : Int} (hz2 : r32 z2) {μ : GM} (hμ : gRg μ) (h : f_X10_mostAlike z1 z2 μ = some u) : WM G 7 μ 0 [(0, gR G 31), (1, vI z1), (2, vI z2)] [] := by
  unfold f_X10_mostAlike at h
  refine o_iconst C dX10_mostAlike_0 ?_
  refine o_istore_n (lv2 := [(3, vI 0), (0, gR G 31), (1, vI z1), (2, vI z2)]) C dX10_mostAlike_1 rfl (by decide) rfl ?_
  refine o_iconst C dX10_mostAlike_2 ?_
  refine o_istore (lv2 := [(4, vI 0), (3, vI 0), (0, gR G 31), (1, vI z1), (2, vI z2)]) C dX10_mostAlike_3 (by decide) rfl ?_
  exact WM.sub [2, 3, 4, 1, 0] rfl (w_X10_mostAlike_5 C hQ FU z1 hz1 z2 hz2 0 ⟨by decide, by decide⟩ 0 ⟨by decide, by decide⟩ μ hμ h)
theorem c_X10_mostAlike {z1 : Int} (hz1 : r32 z1) {z2 : Int} (hz2 : r32 z2) {μ : GM} (hμ : gRg μ) {u : Int × GM} (h : f_X10_mostAlike z1 z2 μ = some u) : MtI 1 yX10_mostAlike cX10_mostAlike 7 (some .int) (fun ad => [.ref (ad 31), vI z1, vI z2]) μ u := MtI.of pf_X10_mostAlike (fun _ => Nat.le_of_ble_eq_true rfl) (fun G C hQ => w_X10_mostAlike_0 C hQ hz1 hz2 hμ h)
def k_X10_nextTest_20 : Nat → Int → Int → Int → Int → GM → Option (Int × GM)
  | 0, _, _, _, _, _ => none
  | n + 1, z1, z2, z3, z4, μ =>
    if z4 < (μ.2 1 0) then
      bd (f_X10_isSeen z4 μ) fun x1 μ2 =>
      if x1 = 0 then
        bd (f_X10_mostAlike z1 z4 μ2) fun x3 μ4 =>
        if z2 = (-10000009) then
          lt (w32 (z4 + 1)) fun x5 =>
          k_X10_nextTest_20 n z1 z4 x3 x5 μ4
        else
          if x3 < z3 then
            lt (w32 (z4 + 1)) fun x7 =>
            k_X10_nextTest_20 n z1 z4 x3 x7 μ4
          else
            lt (w32 (z4 + 1)) fun x6 =>
            k_X10_nextTest_20 n z1 z2 z3 x6 μ4
      else
        lt (w32 (z4 + 1)) fun x8 =>
        k_X10_nextTest_20 n z1 z2 z3 x8 μ2
    else
      some (z2, μ)
set_option maxHeartbeats 4000000 in
set_option maxRecDepth 100000 in
theorem w_X10_nextTest_20 {G : GX} {u : Int × GM} (C : CX G 6 cX10_nextTest 6 RX10) (hQ : gQI G (some .int) u) : ∀ (n : Nat) (z1 : Int) (hz1 : r32 z1) (z2 : Int) (hz2 : r32 z2) (z3 : Int) (hz3 : r32 z3) (z4 : Int) (hz4 : r32 z4) (μ : GM) (hμ : gRg μ), k_X10_nextTest_20 n z1 z2 z3 z4 μ = some u → WM G 6 μ 20 [(0, gR G 31), (1, vI z1), (2, vI z2), (3, vI z3), (4, vI z4)] [] := by
  intro n
  induction n with
  | zero =>
    intro z1 hz1 z2 hz2 z3 hz3 z4 hz4 μ hμ h
    cases h
  | succ n ih =>
    intro z1 hz1 z2 hz2 z3 hz3 z4 hz4 μ hμ h
    rw [k_X10_nextTest_20] at h
    refine o_iload C 4 dX10_nextTest_20 rfl ?_
    refine o_aload_n C 0 dX10_nextTest_22 rfl rfl ?_
    refine o_getR (j := 0) C kt_31 rfl rfl (Nat.le_of_ble_eq_true rfl) lkf_RX10_33 dX10_nextTest_23 ?_
    refine o_getI (j := 0) C kt_1 rfl rfl (Nat.le_of_ble_eq_true rfl) lkf_RX10_58 dX10_nextTest_26 ?_
    refine o_icmp_ge (tgt := 77) C hz4 (hμ.fi kt_1 rfl (by decide)) dX10_nextTest_29 (by decide) h (fun _ h => ?_) (fun _ h => ?_)
    · refine o_iload_n C 2 dX10_nextTest_77 rfl rfl ?_
      exact o_iret C hQ dX10_nextTest_78 h hz2 hμ
    · refine o_aload_n C 0 dX10_nextTest_32 rfl rfl ?_
      refine o_iload C 4 dX10_nextTest_33 rfl ?_
      refine o_cVI C [vI z4] mb_X10_isSeen (by decide) (fun _ hu => c_X10_isSeen hz4 hμ hu) rfl (Nat.le_of_ble_eq_true rfl) h mi_X10_isSeen me_X10_isSeen lkm_RX10_63 kt_31 rfl rfl rfl dX10_nextTest_35 (fun x1 μ2 hx1 hμ2 h => ?_)
      refine o_if_eq (tgt := 44) C hx1 dX10_nextTest_38 (by decide) h (fun _ h => ?_) (fun _ h => ?_)
      · refine o_aload_n C 0 dX10_nextTest_44 rfl rfl ?_
        refine o_iload_n C 1 dX10_nextTest_45 rfl rfl ?_
        refine o_iload C 4 dX10_nextTest_46 rfl ?_
        refine o_cVI C [vI z1, vI z4] mb_X10_mostAlike (by decide) (fun _ hu => c_X10_mostAlike hz1 hz4 hμ2 hu) rfl (Nat.le_of_ble_eq_true rfl) h mi_X10_mostAlike me_X10_mostAlike lkm_RX10_112 kt_31 rfl rfl rfl dX10_nextTest_48 (fun x3 μ4 hx3 hμ4 h => ?_)
        refine o_istore (lv2 := [(5, vI x3), (0, gR G 31), (1, vI z1), (2, vI z2), (3, vI z3), (4, vI z4)]) C dX10_nextTest_51 (by decide) rfl ?_
        refine o_iload_n C 3 dX10_nextTest_53 rfl rfl ?_
        refine o_ldc (v := (-10000009)) C lkc_RX10_111 rfl dX10_nextTest_54 ?_
        refine o_icmp_eq (tgt := 65) C hz2 ⟨by decide, by decide⟩ dX10_nextTest_56 (by decide) h (fun _ h => ?_) (fun _ h => ?_)
        · refine o_iload C 5 dX10_nextTest_65 rfl ?_
          refine o_istore_n (lv2 := [(2, vI z4), (5, vI x3), (0, gR G 31), (1, vI z1), (3, vI z3), (4, vI z4)]) C dX10_nextTest_67 rfl (by decide) rfl ?_
          refine o_iload C 1 dX10_nextTest_68 rfl ?_
          refine o_istore_n (lv2 := [(3, vI x3), (2, vI z4), (5, vI x3), (0, gR G 31), (1, vI z1), (4, vI z4)]) C dX10_nextTest_70 rfl (by decide) rfl ?_
          refine o_iinc (lv2 := fun x5 => [(4, vI x5), (3, vI x3), (2, vI z4), (5, vI x3), (0, gR G 31), (1, vI z1)]) C 5 dX10_nextTest_71 rfl (by decide) (fun _ => rfl) h (fun x5 hx5 h => ?_)
          refine o_goto (tgt := 20) C dX10_nextTest_74 (by decide) ?_
          exact WM.sub [4, 5, 2, 1, 0] rfl (ih z1 hz1 z4 hz4 x3 hx3 x5 hx5 μ4 hμ4 h)
        · refine o_iload C 0 dX10_nextTest_59 rfl ?_
          refine o_iload_n C 4 dX10_nextTest_61 rfl rfl ?_
          refine o_icmp_ge (tgt := 71) C hx3 hz3 dX10_nextTest_62 (by decide) h (fun _ h => ?_) (fun _ h => ?_)
          · refine o_iinc (lv2 := fun x6 => [(4, vI x6), (5, vI x3), (0, gR G 31), (1, vI z1), (2, vI z2), (3, vI z3)]) C 5 dX10_nextTest_71 rfl (by decide) (fun _ => rfl) h (fun x6 hx6 h => ?_)
            refine o_goto (tgt := 20) C dX10_nextTest_74 (by decide) ?_
            exact WM.sub [2, 3, 4, 5, 0] rfl (ih z1 hz1 z2 hz2 z3 hz3 x6 hx6 μ4 hμ4 h)
          · refine o_iload C 5 dX10_nextTest_65 rfl ?_
            refine o_istore_n (lv2 := [(2, vI z4), (5, vI x3), (0, gR G 31), (1, vI z1), (3, vI z3), (4, vI z4)]) C dX10_nextTest_67 rfl (by decide) rfl ?_
            refine o_iload C 1 dX10_nextTest_68 rfl ?_
            refine o_istore_n (lv2 := [(3, vI x3), (2, vI z4), (5, vI x3), (0, gR G 31), (1, vI z1), (4, vI z4)]) C dX10_nextTest_70 rfl (by decide) rfl ?_
            refine o_iinc (lv2 := fun x7 => [(4, vI x7), (3, vI x3), (2, vI z4), (5, vI x3), (0, gR G 31), (1, vI z1)]) C 5 dX10_nextTest_71 rfl (by decide) (fun _ => rfl) h (fun x7 hx7 h => ?_)
            refine o_goto (tgt := 20) C dX10_nextTest_74 (by decide) ?_
            exact WM.sub [4, 5, 2, 1, 0] rfl (ih z1 hz1 z4 hz4 x3 hx3 x7 hx7 μ4 hμ4 h)
      · refine o_goto (tgt := 71) C dX10_nextTest_41 (by decide) ?_
        refine o_iinc (lv2 := fun x8 => [(4, vI x8), (0, gR G 31), (1, vI z1), (2, vI z2), (3, vI z3)]) C 4 dX10_nextTest_71 rfl (by decide) (fun _ => rfl) h (fun x8 hx8 h => ?_)
        refine o_goto (tgt := 20) C dX10_nextTest_74 (by decide) ?_
        exact WM.sub [1, 2, 3, 4, 0] rfl (ih z1 hz1 z2 hz2 z3 hz3 x8 hx8 μ2 hμ2 h)
def f_X10_nextTest (μ : GM) : Option (Int × GM) :=
  bd (f_X10_thatAreLeft μ) fun x1 μ2 =>
  if x1 = 0 then
    some ((-10000009), μ2)
  else
    k_X10_nextTest_20 FU x1 (-10000009) 0 0 μ2
set_option maxHeartbeats 4000000 in
set_option maxRecDepth 100000 in
theorem w_X10_nextTest_0 {G : GX} {u : Int × GM} (C : CX G 6 cX10_nextTest 6 RX10) (hQ : gQI G (some .int) u) {μ : GM} (hμ : gRg μ) (h : f_X10_nextTest μ = some u) : WM G 6 μ 0 [(0, gR G 31)] [] := by
  unfold f_X10_nextTest at h
  refine o_aload_n C 0 dX10_nextTest_0 rfl rfl ?_
  refine o_cVI C [] mb_X10_thatAreLeft (by decide) (fun _ hu => c_X10_thatAreLeft hμ hu) rfl (Nat.le_of_ble_eq_true rfl) h mi_X10_thatAreLeft me_X10_thatAreLeft lkm_RX10_107 kt_31 rfl rfl rfl dX10_nextTest_1 (fun x1 μ2 hx1 hμ2 h => ?_)
  refine o_istore_n (lv2 := [(1, vI x1), (0, gR G 31)]) C dX10_nextTest_4 rfl (by decide) rfl ?_
  refine o_ldc (v := (-10000009)) C lkc_RX10_111 rfl dX10_nextTest_5 ?_
  refine o_istore_n (lv2 := [(2, vI (-10000009)), (1, vI x1), (0, gR G 31)]) C dX10_nextTest_7 rfl (by decide) rfl ?_
  refine o_iconst C dX10_nextTest_8 ?_
  refine o_istore_n (lv2 := [(3, vI 0), (2, vI (-10000009)), (1, vI x1), (0, gR G 31)]) C dX10_nextTest_9 rfl (by decide) rfl ?_
  refine o_iload_n C 2 dX10_nextTest_10 rfl rfl ?_
  refine o_if_ne (tgt := 17) C hx1 dX10_nextTest_11 (by decide) h (fun _ h => ?_) (fun _ h => ?_)
  · refine o_iconst C dX10_nextTest_17 ?_
    refine o_istore (lv2 := [(4, vI 0), (3, vI 0), (2, vI (-10000009)), (1, vI x1), (0, gR G 31)]) C dX10_nextTest_18 (by decide) rfl ?_
    exact WM.sub [4, 3, 2, 1, 0] rfl (w_X10_nextTest_20 C hQ FU x1 hx1 (-10000009) ⟨by decide, by decide⟩ 0 ⟨by decide, by decide⟩ 0 ⟨by decide, by decide⟩ μ2 hμ2 h)
  · refine o_ldc (v := (-10000009)) C lkc_RX10_111 rfl dX10_nextTest_14 ?_
    exact o_iret C hQ dX10_nextTest_16 h ⟨by decide, by decide⟩ hμ2
theorem c_X10_nextTest {μ : GM} (hμ : gRg μ) {u : Int × GM} (h : f_X10_nextTest μ = some u) : MtI 6 yX10_nextTest cX10_nextTest 6 (some .int) (fun ad => [.ref (ad 31)]) μ u := MtI.of pf_X10_nextTest (fun _ => Nat.le_of_ble_eq_true rfl) (fun G C hQ => w_X10_nextTest_0 C hQ hμ h)
def f_X4_append (z1 : Int) (μ : GM) : Option (Int × GM) :=
  lm (gF μ 42 2 (w32 ((μ.2 42 2) + 1))) fun μ1 =>
  ck (0 ≤ (μ.2 42 2) ∧ (μ.2 42 2) < 200) (lm (gA μ1 43 (μ.2 42 2) z1) fun μ2 =>
  some ((μ2.2 42 2), μ2))
set_option maxHeartbeats 4000000 in
set_option maxRecDepth 100000 in
theorem w_X4_append_0 {G : GX} {u : Int × GM} (C : CX G 0 cX4_append 2 RX4) (hQ : gQI G (some .int) u) {z1 : Int} (hz1 : r32 z1) {μ : GM} (hμ : gRg μ) (h : f_X4_append z1 μ = some u) : WM G 2 μ 0 [(0, gR G 42), (1, vI z1)] [] := by
  unfold f_X4_append at h
  refine o_aload_n C 0 dX4_append_0 rfl rfl ?_
  refine o_getR (j := 3) C kt_42 rfl rfl (Nat.le_of_ble_eq_true rfl) lkf_RX4_15 dX4_append_1 ?_
  refine o_aload_n C 0 dX4_append_4 rfl rfl ?_
  refine o_dupr C dX4_append_5 ?_
  refine o_getI (j := 2) C kt_42 rfl rfl (Nat.le_of_ble_eq_true rfl) lkf_RX4_9 dX4_append_6 ?_
  refine o_dupx1ri C dX4_append_9 ?_
  refine o_iconst C dX4_append_10 ?_
  refine o_iadd C dX4_append_11 ?_
  refine o_putI (j := 2) C kt_42 rfl rfl tyX4_ok nmX4 (Nat.le_of_ble_eq_true rfl) lkf_RX4_9 rfl rfl (r32_w _) hμ dX4_append_12 h (fun μ1 hμ1 h => ?_)
  refine o_iload_n C 1 dX4_append_15 rfl rfl ?_
  refine o_iast C kt_43 rfl (hμ.fi kt_42 rfl (by decide)) hz1 hμ1 dX4_append_16 h (fun μ2 hμ2 h => ?_)
  refine o_aload_n C 0 dX4_append_17 rfl rfl ?_
  refine o_getI (j := 2) C kt_42 rfl rfl (Nat.le_of_ble_eq_true rfl) lkf_RX4_9 dX4_append_18 ?_
  exact o_iret C hQ dX4_append_21 h (hμ2.fi kt_42 rfl (by decide)) hμ2
theorem c_X4_append {z1 : Int} (hz1 : r32 z1) {μ : GM} (hμ : gRg μ) {u : Int × GM} (h : f_X4_append z1 μ = some u) : MtI 0 yX4_append cX4_append 2 (some .int) (fun ad => [.ref (ad 42), vI z1]) μ u := MtI.of pf_X4_append (fun _ => Nat.le_of_ble_eq_true rfl) (fun G C hQ => w_X4_append_0 C hQ hz1 hμ h)
def f_X4_afterOne (z1 : Int) (μ : GM) : Option (Int × GM) :=
  if z1 = 33 then
    some (0, μ)
  else
    if z1 = 40 then
      lm (gF μ 42 4 (w32 ((μ.2 42 4) + 1))) fun μ2 =>
      some (0, μ2)
    else
      lm (gF μ 42 6 z1) fun μ1 =>
      if z1 = 104 then
        some (1, μ1)
      else
        if z1 = 113 then
          some (1, μ1)
        else
          if z1 = 103 then
            some (1, μ1)
          else
            if z1 = 100 then
              some (1, μ1)
            else
              if z1 = 102 then
                some (1, μ1)
              else
                some (7, μ1)
set_option maxHeartbeats 4000000 in
set_option maxRecDepth 100000 in
theorem w_X4_afterOne_0 {G : GX} {u : Int × GM} (C : CX G 0 cX4_afterOne 2 RX4) (hQ : gQI G (some .int) u) {z1 : Int} (hz1 : r32 z1) {μ : GM} (hμ : gRg μ) (h : f_X4_afterOne z1 μ = some u) : WM G 2 μ 0 [(0, gR G 42), (1, vI z1)] [] := by
  unfold f_X4_afterOne at h
  refine o_iload_n C 1 dX4_afterOne_0 rfl rfl ?_
  refine o_bipush (v := 33) C dX4_afterOne_1 (by decide) ?_
  refine o_icmp_ne (tgt := 8) C hz1 ⟨by decide, by decide⟩ dX4_afterOne_3 (by decide) h (fun _ h => ?_) (fun _ h => ?_)
  · refine o_iload_n C 1 dX4_afterOne_8 rfl rfl ?_
    refine o_bipush (v := 40) C dX4_afterOne_9 (by decide) ?_
    refine o_icmp_ne (tgt := 26) C hz1 ⟨by decide, by decide⟩ dX4_afterOne_11 (by decide) h (fun _ h => ?_) (fun _ h => ?_)
    · refine o_aload_n C 0 dX4_afterOne_26 rfl rfl ?_
      refine o_iload_n C 1 dX4_afterOne_27 rfl rfl ?_
      refine o_putI (j := 6) C kt_42 rfl rfl tyX4_ok nmX4 (Nat.le_of_ble_eq_true rfl) lkf_RX4_25 rfl rfl hz1 hμ dX4_afterOne_28 h (fun μ1 hμ1 h => ?_)
      refine o_iload_n C 1 dX4_afterOne_31 rfl rfl ?_
      refine o_bipush (v := 104) C dX4_afterOne_32 (by decide) ?_
      refine o_icmp_eq (tgt := 61) C hz1 ⟨by decide, by decide⟩ dX4_afterOne_34 (by decide) h (fun _ h => ?_) (fun _ h => ?_)
      · refine o_iconst C dX4_afterOne_61 ?_
        refine o_goto (tgt := 67) C dX4_afterOne_62 (by decide) ?_
        exact o_iret C hQ dX4_afterOne_67 h ⟨by decide, by decide⟩ hμ1
      · refine o_iload_n C 1 dX4_afterOne_37 rfl rfl ?_
        refine o_bipush (v := 113) C dX4_afterOne_38 (by decide) ?_
        refine o_icmp_eq (tgt := 61) C hz1 ⟨by decide, by decide⟩ dX4_afterOne_40 (by decide) h (fun _ h => ?_) (fun _ h => ?_)
        · refine o_iconst C dX4_afterOne_61 ?_
          refine o_goto (tgt := 67) C dX4_afterOne_62 (by decide) ?_
          exact o_iret C hQ dX4_afterOne_67 h ⟨by decide, by decide⟩ hμ1
        · refine o_iload_n C 1 dX4_afterOne_43 rfl rfl ?_
          refine o_bipush (v := 103) C dX4_afterOne_44 (by decide) ?_
          refine o_icmp_eq (tgt := 61) C hz1 ⟨by decide, by decide⟩ dX4_afterOne_46 (by decide) h (fun _ h => ?_) (fun _ h => ?_)
          · refine o_iconst C dX4_afterOne_61 ?_
            refine o_goto (tgt := 67) C dX4_afterOne_62 (by decide) ?_
            exact o_iret C hQ dX4_afterOne_67 h ⟨by decide, by decide⟩ hμ1
          · refine o_iload_n C 1 dX4_afterOne_49 rfl rfl ?_
            refine o_bipush (v := 100) C dX4_afterOne_50 (by decide) ?_
            refine o_icmp_eq (tgt := 61) C hz1 ⟨by decide, by decide⟩ dX4_afterOne_52 (by decide) h (fun _ h => ?_) (fun _ h => ?_)
            · refine o_iconst C dX4_afterOne_61 ?_
              refine o_goto (tgt := 67) C dX4_afterOne_62 (by decide) ?_
              exact o_iret C hQ dX4_afterOne_67 h ⟨by decide, by decide⟩ hμ1
            · refine o_iload_n C 1 dX4_afterOne_55 rfl rfl ?_
              refine o_bipush (v := 102) C dX4_afterOne_56 (by decide) ?_
              refine o_icmp_ne (tgt := 65) C hz1 ⟨by decide, by decide⟩ dX4_afterOne_58 (by decide) h (fun _ h => ?_) (fun _ h => ?_)
              · refine o_bipush (v := 7) C dX4_afterOne_65 (by decide) ?_
                exact o_iret C hQ dX4_afterOne_67 h ⟨by decide, by decide⟩ hμ1
              · refine o_iconst C dX4_afterOne_61 ?_
                refine o_goto (tgt := 67) C dX4_afterOne_62 (by decide) ?_
                exact o_iret C hQ dX4_afterOne_67 h ⟨by decide, by decide⟩ hμ1
    · refine o_aload_n C 0 dX4_afterOne_14 rfl rfl ?_
      refine o_dupr C dX4_afterOne_15 ?_
      refine o_getI (j := 4) C kt_42 rfl rfl (Nat.le_of_ble_eq_true rfl) lkf_RX4_19 dX4_afterOne_16 ?_
      refine o_iconst C dX4_afterOne_19 ?_
      refine o_iadd C dX4_afterOne_20 ?_
      refine o_putI (j := 4) C kt_42 rfl rfl tyX4_ok nmX4 (Nat.le_of_ble_eq_true rfl) lkf_RX4_19 rfl rfl (r32_w _) hμ dX4_afterOne_21 h (fun μ2 hμ2 h => ?_)
      refine o_iconst C dX4_afterOne_24 ?_
      exact o_iret C hQ dX4_afterOne_25 h ⟨by decide, by decide⟩ hμ2
  · refine o_iconst C dX4_afterOne_6 ?_
    exact o_iret C hQ dX4_afterOne_7 h ⟨by decide, by decide⟩ hμ
theorem c_X4_afterOne {z1 : Int} (hz1 : r32 z1) {μ : GM} (hμ : gRg μ) {u : Int × GM} (h : f_X4_afterOne z1 μ = some u) : MtI 0 yX4_afterOne cX4_afterOne 2 (some .int) (fun ad => [.ref (ad 42), vI z1]) μ u := MtI.of pf_X4_afterOne (fun _ => Nat.le_of_ble_eq_true rfl) (fun G C hQ => w_X4_afterOne_0 C hQ hz1 hμ h)
