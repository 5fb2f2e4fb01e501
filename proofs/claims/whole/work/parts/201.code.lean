def k_X6_fillMatrix_243 (kL211 : Int → Int → GM → Option (Int × GM)) (t : Nat) (a1 : Nat) (z2 : Int) (z4 : Int) (s0 : Int) (μ : GM) : Option (Int × GM) :=
  if s0 = 0 then
    lt (w32 (z4 + 1)) fun x1 =>
    kL211 z2 x1 μ
  else
    ck (0 ≤ z4 ∧ z4 < 2) (
    ck (0 ≤ (w32 ((μ.1 15 z4) * 7)) ∧ (w32 ((μ.1 15 z4) * 7)) < 36) (
    ck (0 ≤ z4 ∧ z4 < 2) (
    ck (0 ≤ (w32 ((μ.1 15 z4) * 7)) ∧ (w32 ((μ.1 15 z4) * 7)) < 36) (lm (gA μ a1 (w32 ((μ.1 15 z4) * 7)) (w64 ((μ.1 a1 (w32 ((μ.1 15 z4) * 7))) + (μ.1 17 z4)))) fun μ2 =>
    lt (w32 (z4 + 1)) fun x3 =>
    kL211 z2 x3 μ2))))
set_option maxHeartbeats 4000000 in
set_option maxRecDepth 100000 in
theorem w_X6_fillMatrix_243 {G : GX} {u : Int × GM} (C : CX G 1 cX6_fillMatrix 7 RX6) (hQ : gQV G none u) {t : Nat} (ht : gRt t) {a1 : Nat} (ha1 : gKT[a1]? = some (2, 36, 0, [])) {kL211 : Int → Int → GM → Option (Int × GM)} (hL211 : ∀ (z2 : Int) (hz2 : r32 z2) (z4 : Int) (hz4 : r32 z4) (μ : GM) (hμ : gRg μ), kL211 z2 z4 μ = some u → WM G 7 μ 211 [(0, gR G t), (1, gR G a1), (2, vI z2), (4, vI z4)] []) {z2 : Int} (hz2 : r32 z2) {z4 : Int} (hz4 : r32 z4) {s0 : Int} (hs0 : r32 s0) {μ : GM} (hμ : gRg μ) (h : k_X6_fillMatrix_243 kL211 t a1 z2 z4 s0 μ = some u) : WM G 7 μ 243 [(0, gR G t), (1, gR G a1), (2, vI z2), (4, vI z4)] [vI s0] := by
  unfold k_X6_fillMatrix_243 at h
  refine o_istore (lv2 := [(5, vI s0), (0, gR G t), (1, gR G a1), (2, vI z2), (4, vI z4)]) C dX6_fillMatrix_243 (by decide) rfl ?_
  refine o_iload C 0 dX6_fillMatrix_245 rfl ?_
  refine o_if_eq (tgt := 285) C hs0 dX6_fillMatrix_247 (by decide) h (fun _ h => ?_) (fun _ h => ?_)
  · refine o_iinc (lv2 := fun x1 => [(4, vI x1), (5, vI s0), (0, gR G t), (1, gR G a1), (2, vI z2)]) C 4 dX6_fillMatrix_285 rfl (by decide) (fun _ => rfl) h (fun x1 hx1 h => ?_)
    refine o_goto (tgt := 211) C dX6_fillMatrix_288 (by decide) ?_
    exact WM.sub [2, 3, 4, 0] rfl (hL211 z2 hz2 x1 hx1 μ hμ h)
  · refine o_aload_n C 2 dX6_fillMatrix_250 rfl rfl ?_
    refine o_aload_n C 1 dX6_fillMatrix_251 rfl rfl ?_
    refine o_getR (j := 0) C (ktR_0 ht) rfl rfl (Nat.le_of_ble_eq_true rfl) lkf_RX6_26 dX6_fillMatrix_252 ?_
    refine o_getR (j := 6) C kt_1 rfl rfl (Nat.le_of_ble_eq_true rfl) lkf_RX6_98 dX6_fillMatrix_255 ?_
    refine o_getR (j := 1) C kt_14 rfl rfl (Nat.le_of_ble_eq_true rfl) lkf_RX6_105 dX6_fillMatrix_258 ?_
    refine o_iload C 4 dX6_fillMatrix_261 rfl ?_
    refine o_iald C kt_15 rfl hz4 dX6_fillMatrix_263 h (fun h => ?_)
    refine o_bipush (v := 7) C dX6_fillMatrix_264 (by decide) ?_
    refine o_imul C dX6_fillMatrix_266 ?_
    refine o_dup2ri C dX6_fillMatrix_267 ?_
    refine o_lald C ha1 rfl (r32_w _) dX6_fillMatrix_268 h (fun h => ?_)
    refine o_aload_n C 1 dX6_fillMatrix_269 rfl rfl ?_
    refine o_getR (j := 0) C (ktR_0 ht) rfl rfl (Nat.le_of_ble_eq_true rfl) lkf_RX6_26 dX6_fillMatrix_270 ?_
    refine o_getR (j := 6) C kt_1 rfl rfl (Nat.le_of_ble_eq_true rfl) lkf_RX6_98 dX6_fillMatrix_273 ?_
    refine o_getR (j := 3) C kt_14 rfl rfl (Nat.le_of_ble_eq_true rfl) lkf_RX6_118 dX6_fillMatrix_276 ?_
    refine o_iload C 4 dX6_fillMatrix_279 rfl ?_
    refine o_iald C kt_17 rfl hz4 dX6_fillMatrix_281 h (fun h => ?_)
    refine o_i2l C (hμ.i kt_17 (by decide) _) dX6_fillMatrix_282 ?_
    refine o_ladd C dX6_fillMatrix_283 ?_
    refine o_last C ha1 rfl (r32_w _) (r64_w _) hμ dX6_fillMatrix_284 h (fun μ2 hμ2 h => ?_)
    refine o_iinc (lv2 := fun x3 => [(4, vI x3), (5, vI s0), (0, gR G t), (1, gR G a1), (2, vI z2)]) C 4 dX6_fillMatrix_285 rfl (by decide) (fun _ => rfl) h (fun x3 hx3 h => ?_)
    refine o_goto (tgt := 211) C dX6_fillMatrix_288 (by decide) ?_
    exact WM.sub [2, 3, 4, 0] rfl (hL211 z2 hz2 x3 hx3 μ2 hμ2 h)
def k_X6_fillMatrix_211 (t : Nat) (a1 : Nat) : Nat → Int → Int → GM → Option (Int × GM)
  | 0, _, _, _ => none
  | n + 1, z2, z4, μ =>
    if z4 < (μ.2 14 0) then
      if (gand (gshr z2 (w32 (3 + z4))) 1) = 1 then
        k_X6_fillMatrix_243 (k_X6_fillMatrix_211 t a1 n) t a1 z2 z4 1 μ
      else
        k_X6_fillMatrix_243 (k_X6_fillMatrix_211 t a1 n) t a1 z2 z4 0 μ
    else
      some (0, μ)
set_option maxHeartbeats 4000000 in
set_option maxRecDepth 100000 in
theorem w_X6_fillMatrix_211 {G : GX} {u : Int × GM} (C : CX G 1 cX6_fillMatrix 7 RX6) (hQ : gQV G none u) {t : Nat} (ht : gRt t) {a1 : Nat} (ha1 : gKT[a1]? = some (2, 36, 0, [])) : ∀ (n : Nat) (z2 : Int) (hz2 : r32 z2) (z4 : Int) (hz4 : r32 z4) (μ : GM) (hμ : gRg μ), k_X6_fillMatrix_211 t a1 n z2 z4 μ = some u → WM G 7 μ 211 [(0, gR G t), (1, gR G a1), (2, vI z2), (4, vI z4)] [] := by
  intro n
  induction n with
  | zero =>
    intro z2 hz2 z4 hz4 μ hμ h
    cases h
  | succ n ih =>
    intro z2 hz2 z4 hz4 μ hμ h
    rw [k_X6_fillMatrix_211] at h
    refine o_iload C 3 dX6_fillMatrix_211 rfl ?_
    refine o_aload_n C 0 dX6_fillMatrix_213 rfl rfl ?_
    refine o_getR (j := 0) C (ktR_0 ht) rfl rfl (Nat.le_of_ble_eq_true rfl) lkf_RX6_26 dX6_fillMatrix_214 ?_
    refine o_getR (j := 6) C kt_1 rfl rfl (Nat.le_of_ble_eq_true rfl) lkf_RX6_98 dX6_fillMatrix_217 ?_
    refine o_getI (j := 0) C kt_14 rfl rfl (Nat.le_of_ble_eq_true rfl) lkf_RX6_102 dX6_fillMatrix_220 ?_
    refine o_icmp_ge (tgt := 291) C hz4 (hμ.fi kt_14 rfl (by decide)) dX6_fillMatrix_223 (by decide) h (fun _ h => ?_) (fun _ h => ?_)
    · exact o_vret C hQ dX6_fillMatrix_291 h hμ
    · refine o_iload_n C 2 dX6_fillMatrix_226 rfl rfl ?_
      refine o_iconst C dX6_fillMatrix_227 ?_
      refine o_iload C 3 dX6_fillMatrix_228 rfl ?_
      refine o_iadd C dX6_fillMatrix_230 ?_
      refine o_ishr C dX6_fillMatrix_231 ?_
      refine o_iconst C dX6_fillMatrix_232 ?_
      refine o_iand C dX6_fillMatrix_233 ?_
      refine o_iconst C dX6_fillMatrix_234 ?_
      refine o_icmp_ne (tgt := 242) C (r32_toInt _) ⟨by decide, by decide⟩ dX6_fillMatrix_235 (by decide) h (fun _ h => ?_) (fun _ h => ?_)
      · refine o_iconst C dX6_fillMatrix_242 ?_
        exact WM.sub [0, 1, 2, 3] rfl (w_X6_fillMatrix_243 C hQ ht ha1 ih hz2 hz4 ⟨by decide, by decide⟩ hμ h)
      · refine o_iconst C dX6_fillMatrix_238 ?_
        refine o_goto (tgt := 243) C dX6_fillMatrix_239 (by decide) ?_
        exact WM.sub [0, 1, 2, 3] rfl (w_X6_fillMatrix_243 C hQ ht ha1 ih hz2 hz4 ⟨by decide, by decide⟩ hμ h)
def k_X6_fillMatrix_160 (kL130 : Int → Int → GM → Option (Int × GM)) (t : Nat) (a1 : Nat) (z2 : Int) (z4 : Int) (s0 : Int) (μ : GM) : Option (Int × GM) :=
  if s0 = 0 then
    lt (w32 (z4 + 1)) fun x1 =>
    kL130 z2 x1 μ
  else
    ck (0 ≤ z4 ∧ z4 < 3) (
    ck (0 ≤ (w32 ((μ.1 10 z4) * 7)) ∧ (w32 ((μ.1 10 z4) * 7)) < 36) (
    ck (0 ≤ z4 ∧ z4 < 3) (
    ck (0 ≤ (w32 ((μ.1 10 z4) * 7)) ∧ (w32 ((μ.1 10 z4) * 7)) < 36) (lm (gA μ a1 (w32 ((μ.1 10 z4) * 7)) (w64 ((μ.1 a1 (w32 ((μ.1 10 z4) * 7))) + (μ.1 13 z4)))) fun μ2 =>
    lt (w32 (z4 + 1)) fun x3 =>
    kL130 z2 x3 μ2))))
set_option maxHeartbeats 4000000 in
set_option maxRecDepth 100000 in
theorem w_X6_fillMatrix_160 {G : GX} {u : Int × GM} (C : CX G 1 cX6_fillMatrix 7 RX6) (hQ : gQV G none u) {t : Nat} (ht : gRt t) {a1 : Nat} (ha1 : gKT[a1]? = some (2, 36, 0, [])) {kL130 : Int → Int → GM → Option (Int × GM)} (hL130 : ∀ (z2 : Int) (hz2 : r32 z2) (z4 : Int) (hz4 : r32 z4) (μ : GM) (hμ : gRg μ), kL130 z2 z4 μ = some u → WM G 7 μ 130 [(0, gR G t), (1, gR G a1), (2, vI z2), (4, vI z4)] []) {z2 : Int} (hz2 : r32 z2) {z4 : Int} (hz4 : r32 z4) {s0 : Int} (hs0 : r32 s0) {μ : GM} (hμ : gRg μ) (h : k_X6_fillMatrix_160 kL130 t a1 z2 z4 s0 μ = some u) : WM G 7 μ 160 [(0, gR G t), (1, gR G a1), (2, vI z2), (4, vI z4)] [vI s0] := by
  unfold k_X6_fillMatrix_160 at h
  refine o_istore (lv2 := [(5, vI s0), (0, gR G t), (1, gR G a1), (2, vI z2), (4, vI z4)]) C dX6_fillMatrix_160 (by decide) rfl ?_
  refine o_iload C 0 dX6_fillMatrix_162 rfl ?_
  refine o_if_eq (tgt := 202) C hs0 dX6_fillMatrix_164 (by decide) h (fun _ h => ?_) (fun _ h => ?_)
  · refine o_iinc (lv2 := fun x1 => [(4, vI x1), (5, vI s0), (0, gR G t), (1, gR G a1), (2, vI z2)]) C 4 dX6_fillMatrix_202 rfl (by decide) (fun _ => rfl) h (fun x1 hx1 h => ?_)
    refine o_goto (tgt := 130) C dX6_fillMatrix_205 (by decide) ?_
    exact WM.sub [2, 3, 4, 0] rfl (hL130 z2 hz2 x1 hx1 μ hμ h)
  · refine o_aload_n C 2 dX6_fillMatrix_167 rfl rfl ?_
    refine o_aload_n C 1 dX6_fillMatrix_168 rfl rfl ?_
    refine o_getR (j := 0) C (ktR_0 ht) rfl rfl (Nat.le_of_ble_eq_true rfl) lkf_RX6_26 dX6_fillMatrix_169 ?_
    refine o_getR (j := 5) C kt_1 rfl rfl (Nat.le_of_ble_eq_true rfl) lkf_RX6_79 dX6_fillMatrix_172 ?_
    refine o_getR (j := 1) C kt_9 rfl rfl (Nat.le_of_ble_eq_true rfl) lkf_RX6_88 dX6_fillMatrix_175 ?_
    refine o_iload C 4 dX6_fillMatrix_178 rfl ?_
    refine o_iald C kt_10 rfl hz4 dX6_fillMatrix_180 h (fun h => ?_)
    refine o_bipush (v := 7) C dX6_fillMatrix_181 (by decide) ?_
    refine o_imul C dX6_fillMatrix_183 ?_
    refine o_dup2ri C dX6_fillMatrix_184 ?_
    refine o_lald C ha1 rfl (r32_w _) dX6_fillMatrix_185 h (fun h => ?_)
    refine o_aload_n C 1 dX6_fillMatrix_186 rfl rfl ?_
    refine o_getR (j := 0) C (ktR_0 ht) rfl rfl (Nat.le_of_ble_eq_true rfl) lkf_RX6_26 dX6_fillMatrix_187 ?_
    refine o_getR (j := 5) C kt_1 rfl rfl (Nat.le_of_ble_eq_true rfl) lkf_RX6_79 dX6_fillMatrix_190 ?_
    refine o_getR (j := 4) C kt_9 rfl rfl (Nat.le_of_ble_eq_true rfl) lkf_RX6_115 dX6_fillMatrix_193 ?_
    refine o_iload C 4 dX6_fillMatrix_196 rfl ?_
    refine o_iald C kt_13 rfl hz4 dX6_fillMatrix_198 h (fun h => ?_)
    refine o_i2l C (hμ.i kt_13 (by decide) _) dX6_fillMatrix_199 ?_
    refine o_ladd C dX6_fillMatrix_200 ?_
    refine o_last C ha1 rfl (r32_w _) (r64_w _) hμ dX6_fillMatrix_201 h (fun μ2 hμ2 h => ?_)
    refine o_iinc (lv2 := fun x3 => [(4, vI x3), (5, vI s0), (0, gR G t), (1, gR G a1), (2, vI z2)]) C 4 dX6_fillMatrix_202 rfl (by decide) (fun _ => rfl) h (fun x3 hx3 h => ?_)
    refine o_goto (tgt := 130) C dX6_fillMatrix_205 (by decide) ?_
    exact WM.sub [2, 3, 4, 0] rfl (hL130 z2 hz2 x3 hx3 μ2 hμ2 h)
def k_X6_fillMatrix_130 (t : Nat) (a1 : Nat) : Nat → Int → Int → GM → Option (Int × GM)
  | 0, _, _, _ => none
  | n + 1, z2, z4, μ =>
    if z4 < (μ.2 9 0) then
      if (gand (gshr z2 z4) 1) = 1 then
        k_X6_fillMatrix_160 (k_X6_fillMatrix_130 t a1 n) t a1 z2 z4 1 μ
      else
        k_X6_fillMatrix_160 (k_X6_fillMatrix_130 t a1 n) t a1 z2 z4 0 μ
    else
      k_X6_fillMatrix_211 t a1 FU z2 0 μ
set_option maxHeartbeats 4000000 in
set_option maxRecDepth 100000 in
theorem w_X6_fillMatrix_130 {G : GX} {u : Int × GM} (C : CX G 1 cX6_fillMatrix 7 RX6) (hQ : gQV G none u) {t : Nat} (ht : gRt t) {a1 : Nat} (ha1 : gKT[a1]? = some (2, 36, 0, [])) : ∀ (n : Nat) (z2 : Int) (hz2 : r32 z2) (z4 : Int) (hz4 : r32 z4) (μ : GM) (hμ : gRg μ), k_X6_fillMatrix_130 t a1 n z2 z4 μ = some u → WM G 7 μ 130 [(0, gR G t), (1, gR G a1), (2, vI z2), (4, vI z4)] [] := by
  intro n
  induction n with
  | zero =>
    intro z2 hz2 z4 hz4 μ hμ h
    cases h
  | succ n ih =>
    intro z2 hz2 z4 hz4 μ hμ h
    rw [k_X6_fillMatrix_130] at h
    refine o_iload C 3 dX6_fillMatrix_130 rfl ?_
    refine o_aload_n C 0 dX6_fillMatrix_132 rfl rfl ?_
    refine o_getR (j := 0) C (ktR_0 ht) rfl rfl (Nat.le_of_ble_eq_true rfl) lkf_RX6_26 dX6_fillMatrix_133 ?_
    refine o_getR (j := 5) C kt_1 rfl rfl (Nat.le_of_ble_eq_true rfl) lkf_RX6_79 dX6_fillMatrix_136 ?_
    refine o_getI (j := 0) C kt_9 rfl rfl (Nat.le_of_ble_eq_true rfl) lkf_RX6_83 dX6_fillMatrix_139 ?_
    refine o_icmp_ge (tgt := 208) C hz4 (hμ.fi kt_9 rfl (by decide)) dX6_fillMatrix_142 (by decide) h (fun _ h => ?_) (fun _ h => ?_)
    · refine o_iconst C dX6_fillMatrix_208 ?_
      refine o_istore (lv2 := [(4, vI 0), (0, gR G t), (1, gR G a1), (2, vI z2)]) C dX6_fillMatrix_209 (by decide) rfl ?_
      exact WM.sub [1, 2, 3, 0] rfl (w_X6_fillMatrix_211 C hQ ht ha1 FU z2 hz2 0 ⟨by decide, by decide⟩ μ hμ h)
    · refine o_iload_n C 2 dX6_fillMatrix_145 rfl rfl ?_
      refine o_iload C 3 dX6_fillMatrix_146 rfl ?_
      refine o_ishr C dX6_fillMatrix_148 ?_
      refine o_iconst C dX6_fillMatrix_149 ?_
      refine o_iand C dX6_fillMatrix_150 ?_
      refine o_iconst C dX6_fillMatrix_151 ?_
      refine o_icmp_ne (tgt := 159) C (r32_toInt _) ⟨by decide, by decide⟩ dX6_fillMatrix_152 (by decide) h (fun _ h => ?_) (fun _ h => ?_)
      · refine o_iconst C dX6_fillMatrix_159 ?_
        exact WM.sub [0, 1, 2, 3] rfl (w_X6_fillMatrix_160 C hQ ht ha1 ih hz2 hz4 ⟨by decide, by decide⟩ hμ h)
      · refine o_iconst C dX6_fillMatrix_155 ?_
        refine o_goto (tgt := 160) C dX6_fillMatrix_156 (by decide) ?_
        exact WM.sub [0, 1, 2, 3] rfl (w_X6_fillMatrix_160 C hQ ht ha1 ih hz2 hz4 ⟨by decide, by decide⟩ hμ h)
def k_X6_fillMatrix_16 (t : Nat) (a1 : Nat) : Nat → Int → Int → GM → Option (Int × GM)
  | 0, _, _, _ => none
  | n + 1, z2, z4, μ =>
    if z4 < (μ.2 5 0) then
      ck (0 ≤ z4 ∧ z4 < 12) (
      lt (μ.1 6 z4) fun x1 =>
      ck (0 ≤ z4 ∧ z4 < 12) (
      lt (μ.1 7 z4) fun x2 =>
      ck (0 ≤ (w32 (x1 * 7)) ∧ (w32 (x1 * 7)) < 36) (
      ck (0 ≤ z4 ∧ z4 < 12) (
      ck (0 ≤ (w32 (x1 * 7)) ∧ (w32 (x1 * 7)) < 36) (lm (gA μ a1 (w32 (x1 * 7)) (w64 ((μ.1 a1 (w32 (x1 * 7))) + (μ.1 8 z4)))) fun μ3 =>
      ck (0 ≤ (w32 (x2 * 7)) ∧ (w32 (x2 * 7)) < 36) (
      ck (0 ≤ z4 ∧ z4 < 12) (
      ck (0 ≤ (w32 (x2 * 7)) ∧ (w32 (x2 * 7)) < 36) (lm (gA μ3 a1 (w32 (x2 * 7)) (w64 ((μ3.1 a1 (w32 (x2 * 7))) + (μ3.1 8 z4)))) fun μ4 =>
      ck (0 ≤ (w32 ((w32 (x1 * 6)) + x2)) ∧ (w32 ((w32 (x1 * 6)) + x2)) < 36) (
      ck (0 ≤ z4 ∧ z4 < 12) (
      ck (0 ≤ (w32 ((w32 (x1 * 6)) + x2)) ∧ (w32 ((w32 (x1 * 6)) + x2)) < 36) (lm (gA μ4 a1 (w32 ((w32 (x1 * 6)) + x2)) (w64 ((μ4.1 a1 (w32 ((w32 (x1 * 6)) + x2))) - (μ4.1 8 z4)))) fun μ5 =>
      ck (0 ≤ (w32 ((w32 (x2 * 6)) + x1)) ∧ (w32 ((w32 (x2 * 6)) + x1)) < 36) (
      ck (0 ≤ z4 ∧ z4 < 12) (
      ck (0 ≤ (w32 ((w32 (x2 * 6)) + x1)) ∧ (w32 ((w32 (x2 * 6)) + x1)) < 36) (lm (gA μ5 a1 (w32 ((w32 (x2 * 6)) + x1)) (w64 ((μ5.1 a1 (w32 ((w32 (x2 * 6)) + x1))) - (μ5.1 8 z4)))) fun μ6 =>
      lt (w32 (z4 + 1)) fun x7 =>
      k_X6_fillMatrix_16 t a1 n z2 x7 μ6))))))))))))))
    else
      k_X6_fillMatrix_130 t a1 FU z2 0 μ
set_option maxHeartbeats 4000000 in
set_option maxRecDepth 100000 in
theorem w_X6_fillMatrix_16 {G : GX} {u : Int × GM} (C : CX G 1 cX6_fillMatrix 7 RX6) (hQ : gQV G none u) {t : Nat} (ht : gRt t) {a1 : Nat} (ha1 : gKT[a1]? = some (2, 36, 0, [])) : ∀ (n : Nat) (z2 : Int) (hz2 : r32 z2) (z4 : Int) (hz4 : r32 z4) (μ : GM) (hμ : gRg μ), k_X6_fillMatrix_16 t a1 n z2 z4 μ = some u → WM G 7 μ 16 [(0, gR G t), (1, gR G a1), (2, vI z2), (3, gR G 5), (4, vI z4)] [] := by
  intro n
  induction n with
  | zero =>
    intro z2 hz2 z4 hz4 μ hμ h
    cases h
  | succ n ih =>
    intro z2 hz2 z4 hz4 μ hμ h
    rw [k_X6_fillMatrix_16] at h
    refine o_iload C 4 dX6_fillMatrix_16 rfl ?_
    refine o_aload_n C 3 dX6_fillMatrix_18 rfl rfl ?_
    refine o_getI (j := 0) C kt_5 rfl rfl (Nat.le_of_ble_eq_true rfl) lkf_RX6_142 dX6_fillMatrix_19 ?_
    refine o_icmp_ge (tgt := 127) C hz4 (hμ.fi kt_5 rfl (by decide)) dX6_fillMatrix_22 (by decide) h (fun _ h => ?_) (fun _ h => ?_)
    · refine o_iconst C dX6_fillMatrix_127 ?_
      refine o_istore (lv2 := [(4, vI 0), (0, gR G t), (1, gR G a1), (2, vI z2), (3, gR G 5)]) C dX6_fillMatrix_128 (by decide) rfl ?_
      exact WM.sub [1, 2, 3, 0] rfl (w_X6_fillMatrix_130 C hQ ht ha1 FU z2 hz2 0 ⟨by decide, by decide⟩ μ hμ h)
    · refine o_aload_n C 3 dX6_fillMatrix_25 rfl rfl ?_
      refine o_getR (j := 1) C kt_5 rfl rfl (Nat.le_of_ble_eq_true rfl) lkf_RX6_145 dX6_fillMatrix_26 ?_
      refine o_iload C 4 dX6_fillMatrix_29 rfl ?_
      refine o_iald C kt_6 rfl hz4 dX6_fillMatrix_31 h (fun h => ?_)
      refine o_lt h (hμ.i kt_6 (by decide) _) (fun x1 hx1 h => ?_)
      refine o_istore (lv2 := [(5, vI x1), (0, gR G t), (1, gR G a1), (2, vI z2), (3, gR G 5), (4, vI z4)]) C dX6_fillMatrix_32 (by decide) rfl ?_
      refine o_aload_n C 4 dX6_fillMatrix_34 rfl rfl ?_
      refine o_getR (j := 2) C kt_5 rfl rfl (Nat.le_of_ble_eq_true rfl) lkf_RX6_148 dX6_fillMatrix_35 ?_
      refine o_iload C 5 dX6_fillMatrix_38 rfl ?_
      refine o_iald C kt_7 rfl hz4 dX6_fillMatrix_40 h (fun h => ?_)
      refine o_lt h (hμ.i kt_7 (by decide) _) (fun x2 hx2 h => ?_)
      refine o_istore (lv2 := [(6, vI x2), (5, vI x1), (0, gR G t), (1, gR G a1), (2, vI z2), (3, gR G 5), (4, vI z4)]) C dX6_fillMatrix_41 (by decide) rfl ?_
      refine o_aload_n C 3 dX6_fillMatrix_43 rfl rfl ?_
      refine o_iload C 1 dX6_fillMatrix_44 rfl ?_
      refine o_bipush (v := 7) C dX6_fillMatrix_46 (by decide) ?_
      refine o_imul C dX6_fillMatrix_48 ?_
      refine o_dup2ri C dX6_fillMatrix_49 ?_
      refine o_lald C ha1 rfl (r32_w _) dX6_fillMatrix_50 h (fun h => ?_)
      refine o_aload_n C 5 dX6_fillMatrix_51 rfl rfl ?_
      refine o_getR (j := 3) C kt_5 rfl rfl (Nat.le_of_ble_eq_true rfl) lkf_RX6_151 dX6_fillMatrix_52 ?_
      refine o_iload C 6 dX6_fillMatrix_55 rfl ?_
      refine o_iald C kt_8 rfl hz4 dX6_fillMatrix_57 h (fun h => ?_)
      refine o_i2l C (hμ.i kt_8 (by decide) _) dX6_fillMatrix_58 ?_
      refine o_ladd C dX6_fillMatrix_59 ?_
      refine o_last C ha1 rfl (r32_w _) (r64_w _) hμ dX6_fillMatrix_60 h (fun μ3 hμ3 h => ?_)
      refine o_aload_n C 3 dX6_fillMatrix_61 rfl rfl ?_
      refine o_iload C 0 dX6_fillMatrix_62 rfl ?_
      refine o_bipush (v := 7) C dX6_fillMatrix_64 (by decide) ?_
      refine o_imul C dX6_fillMatrix_66 ?_
      refine o_dup2ri C dX6_fillMatrix_67 ?_
      refine o_lald C ha1 rfl (r32_w _) dX6_fillMatrix_68 h (fun h => ?_)
      refine o_aload_n C 5 dX6_fillMatrix_69 rfl rfl ?_
      refine o_getR (j := 3) C kt_5 rfl rfl (Nat.le_of_ble_eq_true rfl) lkf_RX6_151 dX6_fillMatrix_70 ?_
      refine o_iload C 6 dX6_fillMatrix_73 rfl ?_
      refine o_iald C kt_8 rfl hz4 dX6_fillMatrix_75 h (fun h => ?_)
      refine o_i2l C (hμ3.i kt_8 (by decide) _) dX6_fillMatrix_76 ?_
      refine o_ladd C dX6_fillMatrix_77 ?_
      refine o_last C ha1 rfl (r32_w _) (r64_w _) hμ3 dX6_fillMatrix_78 h (fun μ4 hμ4 h => ?_)
      refine o_aload_n C 3 dX6_fillMatrix_79 rfl rfl ?_
      refine o_iload C 1 dX6_fillMatrix_80 rfl ?_
      refine o_bipush (v := 6) C dX6_fillMatrix_82 (by decide) ?_
      refine o_imul C dX6_fillMatrix_84 ?_
      refine o_iload C 0 dX6_fillMatrix_85 rfl ?_
      refine o_iadd C dX6_fillMatrix_87 ?_
      refine o_dup2ri C dX6_fillMatrix_88 ?_
      refine o_lald C ha1 rfl (r32_w _) dX6_fillMatrix_89 h (fun h => ?_)
      refine o_aload_n C 5 dX6_fillMatrix_90 rfl rfl ?_
      refine o_getR (j := 3) C kt_5 rfl rfl (Nat.le_of_ble_eq_true rfl) lkf_RX6_151 dX6_fillMatrix_91 ?_
      refine o_iload C 6 dX6_fillMatrix_94 rfl ?_
      refine o_iald C kt_8 rfl hz4 dX6_fillMatrix_96 h (fun h => ?_)
      refine o_i2l C (hμ4.i kt_8 (by decide) _) dX6_fillMatrix_97 ?_
      refine o_lsub C dX6_fillMatrix_98 ?_
      refine o_last C ha1 rfl (r32_w _) (r64_w _) hμ4 dX6_fillMatrix_99 h (fun μ5 hμ5 h => ?_)
      refine o_aload_n C 3 dX6_fillMatrix_100 rfl rfl ?_
      refine o_iload C 0 dX6_fillMatrix_101 rfl ?_
      refine o_bipush (v := 6) C dX6_fillMatrix_103 (by decide) ?_
      refine o_imul C dX6_fillMatrix_105 ?_
      refine o_iload C 1 dX6_fillMatrix_106 rfl ?_
      refine o_iadd C dX6_fillMatrix_108 ?_
      refine o_dup2ri C dX6_fillMatrix_109 ?_
      refine o_lald C ha1 rfl (r32_w _) dX6_fillMatrix_110 h (fun h => ?_)
      refine o_aload_n C 5 dX6_fillMatrix_111 rfl rfl ?_
      refine o_getR (j := 3) C kt_5 rfl rfl (Nat.le_of_ble_eq_true rfl) lkf_RX6_151 dX6_fillMatrix_112 ?_
      refine o_iload C 6 dX6_fillMatrix_115 rfl ?_
      refine o_iald C kt_8 rfl hz4 dX6_fillMatrix_117 h (fun h => ?_)
      refine o_i2l C (hμ5.i kt_8 (by decide) _) dX6_fillMatrix_118 ?_
      refine o_lsub C dX6_fillMatrix_119 ?_
      refine o_last C ha1 rfl (r32_w _) (r64_w _) hμ5 dX6_fillMatrix_120 h (fun μ6 hμ6 h => ?_)
      refine o_iinc (lv2 := fun x7 => [(4, vI x7), (6, vI x2), (5, vI x1), (0, gR G t), (1, gR G a1), (2, vI z2), (3, gR G 5)]) C 6 dX6_fillMatrix_121 rfl (by decide) (fun _ => rfl) h (fun x7 hx7 h => ?_)
      refine o_goto (tgt := 16) C dX6_fillMatrix_124 (by decide) ?_
      exact WM.sub [3, 4, 5, 6, 0] rfl (ih z2 hz2 x7 hx7 μ6 hμ6 h)
def f_X6_fillMatrix (t : Nat) (a1 : Nat) (z2 : Int) (μ : GM) : Option (Int × GM) :=
  bd (f_J7_fill_d0a16 a1 0 μ) fun _x1 μ2 =>
  k_X6_fillMatrix_16 t a1 FU z2 0 μ2
set_option maxHeartbeats 4000000 in
set_option maxRecDepth 100000 in
theorem w_X6_fillMatrix_0 {G : GX} {u : Int × GM} (C : CX G 1 cX6_fillMatrix 7 RX6) (hQ : gQV G none u) {t : Nat} (ht : gRt t) {a1 : Nat} (ha1 : gKT[a1]? = some (2, 36, 0, [])) {z2 : Int} (hz2 : r32 z2) {μ : GM} (hμ : gRg μ) (h : f_X6_fillMatrix t a1 z2 μ = some u) : WM G 7 μ 0 [(0, gR G t), (1, gR G a1), (2, vI z2)] [] := by
  unfold f_X6_fillMatrix at h
  refine o_aload_n C 1 dX6_fillMatrix_0 rfl rfl ?_
  refine o_lconst (v := 0) C dX6_fillMatrix_1 rfl ?_
  refine o_cSV C [gR G a1, vJ 0] mb_J7_fill_d0a16 (by decide) (fun _ hu => c_J7_fill_d0a16 (kt_gen ha1) ⟨by decide, by decide⟩ hμ hu) rfl (Nat.le_of_ble_eq_true rfl) h ms_J7_fill_d0a16 lkm_RX6_135 rfl rfl dX6_fillMatrix_2 (fun _x1 μ2 hμ2 h => ?_)
  refine o_aload_n C 0 dX6_fillMatrix_5 rfl rfl ?_
  refine o_getR (j := 0) C (ktR_0 ht) rfl rfl (Nat.le_of_ble_eq_true rfl) lkf_RX6_26 dX6_fillMatrix_6 ?_
  refine o_getR (j := 4) C kt_1 rfl rfl (Nat.le_of_ble_eq_true rfl) lkf_RX6_138 dX6_fillMatrix_9 ?_
  refine o_astore_n (lv2 := [(3, gR G 5), (0, gR G t), (1, gR G a1), (2, vI z2)]) C dX6_fillMatrix_12 rfl (by decide) rfl ?_
  refine o_iconst C dX6_fillMatrix_13 ?_
  refine o_istore (lv2 := [(4, vI 0), (3, gR G 5), (0, gR G t), (1, gR G a1), (2, vI z2)]) C dX6_fillMatrix_14 (by decide) rfl ?_
  exact WM.sub [2, 3, 4, 1, 0] rfl (w_X6_fillMatrix_16 C hQ ht ha1 FU z2 hz2 0 ⟨by decide, by decide⟩ μ2 hμ2 h)
theorem c_X6_fillMatrix {t : Nat} (ht : gRt t) {a1 : Nat} (ha1 : gKT[a1]? = some (2, 36, 0, [])) {z2 : Int} (hz2 : r32 z2) {μ : GM} (hμ : gRg μ) {u : Int × GM} (h : f_X6_fillMatrix t a1 z2 μ = some u) : MtV 1 yX6_fillMatrix cX6_fillMatrix 7 none (fun ad => [.ref (ad t), .ref (ad a1), vI z2]) μ u := MtV.of pf_X6_fillMatrix (fun _ => Nat.le_of_ble_eq_true rfl) (fun G C hQ => w_X6_fillMatrix_0 C hQ ht ha1 hz2 hμ h)
def k_X6_eliminate_57 (kL27 : Int → Int → Int → Int → Int → GM → Option (Int × GM)) (t : Nat) (a1 : Nat) : Nat → Int → Int → Int → Int → Int → Int → Int → GM → Option (Int × GM)
  | 0, _, _, _, _, _, _, _, _ => none
  | n + 1, z2, z3, z5, z6, z8, z9, z11, μ =>
    if z11 < z5 then
      if z11 = z2 then
        lt (w32 (z11 + 1)) fun x6 =>
        k_X6_eliminate_57 kL27 t a1 n z2 z3 z5 z6 z8 z9 x6 μ
      else
        lt (w32 ((w32 (z8 * 6)) + z11)) fun x3 =>
        ck (0 ≤ x3 ∧ x3 < 36) (
        ck (0 ≤ (w32 ((w32 (z2 * 6)) + z11)) ∧ (w32 ((w32 (z2 * 6)) + z11)) < 36) (
        ck (z3 ≠ 0) (
        ck (0 ≤ x3 ∧ x3 < 36) (lm (gA μ a1 x3 (w64 (Int.tdiv (w64 ((w64 (z6 * (μ.1 a1 x3))) - (w64 (z9 * (μ.1 a1 (w32 ((w32 (z2 * 6)) + z11))))))) z3))) fun μ4 =>
        lt (w32 (z11 + 1)) fun x5 =>
        k_X6_eliminate_57 kL27 t a1 n z2 z3 z5 z6 z8 z9 x5 μ4))))
    else
      ck (0 ≤ (w32 ((w32 (z8 * 6)) + z2)) ∧ (w32 ((w32 (z8 * 6)) + z2)) < 36) (lm (gA μ a1 (w32 ((w32 (z8 * 6)) + z2)) (w64 (-z9))) fun μ1 =>
      lt (w32 (z8 + 1)) fun x2 =>
      kL27 z2 z3 z5 z6 x2 μ1)
set_option maxHeartbeats 4000000 in
set_option maxRecDepth 100000 in
theorem w_X6_eliminate_57 {G : GX} {u : Int × GM} (C : CX G 0 cX6_eliminate 13 RX6) (hQ : gQV G none u) {t : Nat} (ht : gRt t) {a1 : Nat} (ha1 : gKT[a1]? = some (2, 36, 0, [])) {kL27 : Int → Int → Int → Int → Int → GM → Option (Int × GM)} (hL27 : ∀ (z2 : Int) (hz2 : r32 z2) (z3 : Int) (hz3 : r64 z3) (z5 : Int) (hz5 : r32 z5) (z6 : Int) (hz6 : r64 z6) (z8 : Int) (hz8 : r32 z8) (μ : GM) (hμ : gRg μ), kL27 z2 z3 z5 z6 z8 μ = some u → WM G 13 μ 27 [(1, gR G a1), (2, vI z2), (3, vJ z3), (5, vI z5), (6, vJ z6), (8, vI z8)] []) : ∀ (n : Nat) (z2 : Int) (hz2 : r32 z2) (z3 : Int) (hz3 : r64 z3) (z5 : Int) (hz5 : r32 z5) (z6 : Int) (hz6 : r64 z6) (z8 : Int) (hz8 : r32 z8) (z9 : Int) (hz9 : r64 z9) (z11 : Int) (hz11 : r32 z11) (μ : GM) (hμ : gRg μ), k_X6_eliminate_57 kL27 t a1 n z2 z3 z5 z6 z8 z9 z11 μ = some u → WM G 13 μ 57 [(1, gR G a1), (2, vI z2), (3, vJ z3), (5, vI z5), (6, vJ z6), (8, vI z8), (9, vJ z9), (11, vI z11)] [] := by
  intro n
  induction n with
  | zero =>
    intro z2 hz2 z3 hz3 z5 hz5 z6 hz6 z8 hz8 z9 hz9 z11 hz11 μ hμ h
    cases h
  | succ n ih =>
    intro z2 hz2 z3 hz3 z5 hz5 z6 hz6 z8 hz8 z9 hz9 z11 hz11 μ hμ h
    rw [k_X6_eliminate_57] at h
    refine o_iload C 7 dX6_eliminate_57 rfl ?_
    refine o_iload C 3 dX6_eliminate_59 rfl ?_
    refine o_icmp_ge (tgt := 115) C hz11 hz5 dX6_eliminate_61 (by decide) h (fun _ h => ?_) (fun _ h => ?_)
    · refine o_aload_n C 0 dX6_eliminate_115 rfl rfl ?_
      refine o_iload C 5 dX6_eliminate_116 rfl ?_
      refine o_bipush (v := 6) C dX6_eliminate_118 (by decide) ?_
      refine o_imul C dX6_eliminate_120 ?_
      refine o_iload_n C 1 dX6_eliminate_121 rfl rfl ?_
      refine o_iadd C dX6_eliminate_122 ?_
      refine o_lload C 6 dX6_eliminate_123 rfl ?_
      refine o_lneg C dX6_eliminate_125 ?_
      refine o_last C ha1 rfl (r32_w _) (r64_w _) hμ dX6_eliminate_126 h (fun μ1 hμ1 h => ?_)
      refine o_iinc (lv2 := fun x2 => [(8, vI x2), (1, gR G a1), (2, vI z2), (3, vJ z3), (5, vI z5), (6, vJ z6), (9, vJ z9), (11, vI z11)]) C 5 dX6_eliminate_127 rfl (by decide) (fun _ => rfl) h (fun x2 hx2 h => ?_)
      refine o_goto (tgt := 27) C dX6_eliminate_130 (by decide) ?_
      exact WM.sub [1, 2, 3, 4, 5, 0] rfl (hL27 z2 hz2 z3 hz3 z5 hz5 z6 hz6 x2 hx2 μ1 hμ1 h)
    · refine o_iload C 7 dX6_eliminate_64 rfl ?_
      refine o_iload_n C 1 dX6_eliminate_66 rfl rfl ?_
      refine o_icmp_ne (tgt := 73) C hz11 hz2 dX6_eliminate_67 (by decide) h (fun _ h => ?_) (fun _ h => ?_)
      · refine o_iload C 5 dX6_eliminate_73 rfl ?_
        refine o_bipush (v := 6) C dX6_eliminate_75 (by decide) ?_
        refine o_imul C dX6_eliminate_77 ?_
        refine o_iload C 7 dX6_eliminate_78 rfl ?_
        refine o_iadd C dX6_eliminate_80 ?_
        refine o_lt h (r32_w _) (fun x3 hx3 h => ?_)
        refine o_istore (lv2 := [(12, vI x3), (1, gR G a1), (2, vI z2), (3, vJ z3), (5, vI z5), (6, vJ z6), (8, vI z8), (9, vJ z9), (11, vI z11)]) C dX6_eliminate_81 (by decide) rfl ?_
        refine o_aload_n C 1 dX6_eliminate_83 rfl rfl ?_
        refine o_iload C 0 dX6_eliminate_84 rfl ?_
        refine o_lload C 5 dX6_eliminate_86 rfl ?_
        refine o_aload_n C 1 dX6_eliminate_88 rfl rfl ?_
        refine o_iload C 0 dX6_eliminate_89 rfl ?_
        refine o_lald C ha1 rfl hx3 dX6_eliminate_91 h (fun h => ?_)
        refine o_lmul C dX6_eliminate_92 ?_
        refine o_lload C 7 dX6_eliminate_93 rfl ?_
        refine o_aload_n C 1 dX6_eliminate_95 rfl rfl ?_
        refine o_iload_n C 2 dX6_eliminate_96 rfl rfl ?_
        refine o_bipush (v := 6) C dX6_eliminate_97 (by decide) ?_
        refine o_imul C dX6_eliminate_99 ?_
        refine o_iload C 8 dX6_eliminate_100 rfl ?_
        refine o_iadd C dX6_eliminate_102 ?_
        refine o_lald C ha1 rfl (r32_w _) dX6_eliminate_103 h (fun h => ?_)
        refine o_lmul C dX6_eliminate_104 ?_
        refine o_lsub C dX6_eliminate_105 ?_
        refine o_lload_n C 3 dX6_eliminate_106 rfl rfl ?_
        refine o_ldiv C (r64_w _) hz3 dX6_eliminate_107 h (fun h => ?_)
        refine o_last C ha1 rfl hx3 (r64_w _) hμ dX6_eliminate_108 h (fun μ4 hμ4 h => ?_)
        refine o_iinc (lv2 := fun x5 => [(11, vI x5), (12, vI x3), (1, gR G a1), (2, vI z2), (3, vJ z3), (5, vI z5), (6, vJ z6), (8, vI z8), (9, vJ z9)]) C 8 dX6_eliminate_109 rfl (by decide) (fun _ => rfl) h (fun x5 hx5 h => ?_)
        refine o_goto (tgt := 57) C dX6_eliminate_112 (by decide) ?_
        exact WM.sub [2, 3, 4, 5, 6, 7, 8, 0] rfl (ih z2 hz2 z3 hz3 z5 hz5 z6 hz6 z8 hz8 z9 hz9 x5 hx5 μ4 hμ4 h)
      · refine o_goto (tgt := 109) C dX6_eliminate_70 (by decide) ?_
        refine o_iinc (lv2 := fun x6 => [(11, vI x6), (1, gR G a1), (2, vI z2), (3, vJ z3), (5, vI z5), (6, vJ z6), (8, vI z8), (9, vJ z9)]) C 7 dX6_eliminate_109 rfl (by decide) (fun _ => rfl) h (fun x6 hx6 h => ?_)
        refine o_goto (tgt := 57) C dX6_eliminate_112 (by decide) ?_
        exact WM.sub [1, 2, 3, 4, 5, 6, 7, 0] rfl (ih z2 hz2 z3 hz3 z5 hz5 z6 hz6 z8 hz8 z9 hz9 x6 hx6 μ hμ h)
def k_X6_eliminate_27 (t : Nat) (a1 : Nat) : Nat → Int → Int → Int → Int → Int → GM → Option (Int × GM)
  | 0, _, _, _, _, _, _ => none
  | n + 1, z2, z3, z5, z6, z8, μ =>
    if z8 < z5 then
      if z8 = z2 then
        lt (w32 (z8 + 1)) fun x3 =>
        k_X6_eliminate_27 t a1 n z2 z3 z5 z6 x3 μ
      else
        ck (0 ≤ (w32 ((w32 (z8 * 6)) + z2)) ∧ (w32 ((w32 (z8 * 6)) + z2)) < 36) (
        lt (μ.1 a1 (w32 ((w32 (z8 * 6)) + z2))) fun x2 =>
        k_X6_eliminate_57 (k_X6_eliminate_27 t a1 n) t a1 FU z2 z3 z5 z6 z8 x2 0 μ)
    else
      ck (0 ≤ (w32 (z2 * 7)) ∧ (w32 (z2 * 7)) < 36) (lm (gA μ a1 (w32 (z2 * 7)) z3) fun μ1 =>
      some (0, μ1))
set_option maxHeartbeats 4000000 in
set_option maxRecDepth 100000 in
theorem w_X6_eliminate_27 {G : GX} {u : Int × GM} (C : CX G 0 cX6_eliminate 13 RX6) (hQ : gQV G none u) {t : Nat} (ht : gRt t) {a1 : Nat} (ha1 : gKT[a1]? = some (2, 36, 0, [])) : ∀ (n : Nat) (z2 : Int) (hz2 : r32 z2) (z3 : Int) (hz3 : r64 z3) (z5 : Int) (hz5 : r32 z5) (z6 : Int) (hz6 : r64 z6) (z8 : Int) (hz8 : r32 z8) (μ : GM) (hμ : gRg μ), k_X6_eliminate_27 t a1 n z2 z3 z5 z6 z8 μ = some u → WM G 13 μ 27 [(1, gR G a1), (2, vI z2), (3, vJ z3), (5, vI z5), (6, vJ z6), (8, vI z8)] [] := by
  intro n
  induction n with
  | zero =>
    intro z2 hz2 z3 hz3 z5 hz5 z6 hz6 z8 hz8 μ hμ h
    cases h
  | succ n ih =>
    intro z2 hz2 z3 hz3 z5 hz5 z6 hz6 z8 hz8 μ hμ h
    rw [k_X6_eliminate_27] at h
    refine o_iload C 5 dX6_eliminate_27 rfl ?_
    refine o_iload C 3 dX6_eliminate_29 rfl ?_
    refine o_icmp_ge (tgt := 133) C hz8 hz5 dX6_eliminate_31 (by decide) h (fun _ h => ?_) (fun _ h => ?_)
    · refine o_aload_n C 0 dX6_eliminate_133 rfl rfl ?_
      refine o_iload_n C 1 dX6_eliminate_134 rfl rfl ?_
      refine o_bipush (v := 7) C dX6_eliminate_135 (by decide) ?_
      refine o_imul C dX6_eliminate_137 ?_
      refine o_lload_n C 2 dX6_eliminate_138 rfl rfl ?_
      refine o_last C ha1 rfl (r32_w _) hz3 hμ dX6_eliminate_139 h (fun μ1 hμ1 h => ?_)
      exact o_vret C hQ dX6_eliminate_140 h hμ1
    · refine o_iload C 5 dX6_eliminate_34 rfl ?_
      refine o_iload_n C 1 dX6_eliminate_36 rfl rfl ?_
      refine o_icmp_ne (tgt := 43) C hz8 hz2 dX6_eliminate_37 (by decide) h (fun _ h => ?_) (fun _ h => ?_)
      · refine o_aload_n C 0 dX6_eliminate_43 rfl rfl ?_
        refine o_iload C 5 dX6_eliminate_44 rfl ?_
        refine o_bipush (v := 6) C dX6_eliminate_46 (by decide) ?_
        refine o_imul C dX6_eliminate_48 ?_
        refine o_iload_n C 1 dX6_eliminate_49 rfl rfl ?_
        refine o_iadd C dX6_eliminate_50 ?_
        refine o_lald C ha1 rfl (r32_w _) dX6_eliminate_51 h (fun h => ?_)
        refine o_ltl h (hμ.l ha1 _) (fun x2 hx2 h => ?_)
        refine o_lstore (lv2 := [(9, vJ x2), (1, gR G a1), (2, vI z2), (3, vJ z3), (5, vI z5), (6, vJ z6), (8, vI z8)]) C dX6_eliminate_52 (by decide) rfl ?_
        refine o_iconst C dX6_eliminate_54 ?_
        refine o_istore (lv2 := [(11, vI 0), (9, vJ x2), (1, gR G a1), (2, vI z2), (3, vJ z3), (5, vI z5), (6, vJ z6), (8, vI z8)]) C dX6_eliminate_55 (by decide) rfl ?_
        exact WM.sub [2, 3, 4, 5, 6, 7, 1, 0] rfl (w_X6_eliminate_57 C hQ ht ha1 ih FU z2 hz2 z3 hz3 z5 hz5 z6 hz6 z8 hz8 x2 hx2 0 ⟨by decide, by decide⟩ μ hμ h)
      · refine o_goto (tgt := 127) C dX6_eliminate_40 (by decide) ?_
        refine o_iinc (lv2 := fun x3 => [(8, vI x3), (1, gR G a1), (2, vI z2), (3, vJ z3), (5, vI z5), (6, vJ z6)]) C 5 dX6_eliminate_127 rfl (by decide) (fun _ => rfl) h (fun x3 hx3 h => ?_)
        refine o_goto (tgt := 27) C dX6_eliminate_130 (by decide) ?_
        exact WM.sub [1, 2, 3, 4, 5, 0] rfl (ih z2 hz2 z3 hz3 z5 hz5 z6 hz6 x3 hx3 μ hμ h)
def f_X6_eliminate (t : Nat) (a1 : Nat) (z2 : Int) (z3 : Int) (μ : GM) : Option (Int × GM) :=
  if z3 = 0 then
    some (0, μ)
  else
    lt (μ.2 1 0) fun x1 =>
    ck (0 ≤ (w32 (z2 * 7)) ∧ (w32 (z2 * 7)) < 36) (
    lt (μ.1 a1 (w32 (z2 * 7))) fun x2 =>
    k_X6_eliminate_27 t a1 FU z2 z3 x1 x2 0 μ)
set_option maxHeartbeats 4000000 in
set_option maxRecDepth 100000 in
theorem w_X6_eliminate_0 {G : GX} {u : Int × GM} (C : CX G 0 cX6_eliminate 13 RX6) (hQ : gQV G none u) {t : Nat} (ht : gRt t) {a1 : Nat} (ha1 : gKT[a1]? = some (2, 36, 0, [])) {z2 : Int} (hz2 : r32 z2) {z3 : Int} (hz3 : r64 z3) {μ : GM} (hμ : gRg μ) (h : f_X6_eliminate t a1 z2 z3 μ = some u) : WM G 13 μ 0 [(0, gR G t), (1, gR G a1), (2, vI z2), (3, vJ z3)] [] := by
  unfold f_X6_eliminate at h
  refine o_lload_n C 3 dX6_eliminate_0 rfl rfl ?_
  refine o_lconst (v := 0) C dX6_eliminate_1 rfl ?_
  refine o_lcmp_ne (tgt := 7) C hz3 ⟨by decide, by decide⟩ dX6_eliminate_2 dX6_eliminate_3 (by decide) h (fun _ h => ?_) (fun _ h => ?_)
  · refine o_aload_n C 0 dX6_eliminate_7 rfl rfl ?_
    refine o_getR (j := 0) C (ktR_0 ht) rfl rfl (Nat.le_of_ble_eq_true rfl) lkf_RX6_26 dX6_eliminate_8 ?_
    refine o_getI (j := 0) C kt_1 rfl rfl (Nat.le_of_ble_eq_true rfl) lkf_RX6_58 dX6_eliminate_11 ?_
    refine o_lt h (hμ.fi kt_1 rfl (by decide)) (fun x1 hx1 h => ?_)
    refine o_istore (lv2 := [(5, vI x1), (0, gR G t), (1, gR G a1), (2, vI z2), (3, vJ z3)]) C dX6_eliminate_14 (by decide) rfl ?_
    refine o_aload_n C 2 dX6_eliminate_16 rfl rfl ?_
    refine o_iload_n C 3 dX6_eliminate_17 rfl rfl ?_
    refine o_bipush (v := 7) C dX6_eliminate_18 (by decide) ?_
    refine o_imul C dX6_eliminate_20 ?_
    refine o_lald C ha1 rfl (r32_w _) dX6_eliminate_21 h (fun h => ?_)
    refine o_ltl h (hμ.l ha1 _) (fun x2 hx2 h => ?_)
    refine o_lstore (lv2 := [(6, vJ x2), (5, vI x1), (0, gR G t), (1, gR G a1), (2, vI z2), (3, vJ z3)]) C dX6_eliminate_22 (by decide) rfl ?_
    refine o_iconst C dX6_eliminate_24 ?_
    refine o_istore (lv2 := [(8, vI 0), (6, vJ x2), (5, vI x1), (0, gR G t), (1, gR G a1), (2, vI z2), (3, vJ z3)]) C dX6_eliminate_25 (by decide) rfl ?_
    exact WM.sub [4, 5, 6, 2, 1, 0] rfl (w_X6_eliminate_27 C hQ ht ha1 FU z2 hz2 z3 hz3 x1 hx1 x2 hx2 0 ⟨by decide, by decide⟩ μ hμ h)
  · exact o_vret C hQ dX6_eliminate_6 h hμ
theorem c_X6_eliminate {t : Nat} (ht : gRt t) {a1 : Nat} (ha1 : gKT[a1]? = some (2, 36, 0, [])) {z2 : Int} (hz2 : r32 z2) {z3 : Int} (hz3 : r64 z3) {μ : GM} (hμ : gRg μ) {u : Int × GM} (h : f_X6_eliminate t a1 z2 z3 μ = some u) : MtV 0 yX6_eliminate cX6_eliminate 13 none (fun ad => [.ref (ad t), .ref (ad a1), vI z2, vJ z3]) μ u := MtV.of pf_X6_eliminate (fun _ => Nat.le_of_ble_eq_true rfl) (fun G C hQ => w_X6_eliminate_0 C hQ ht ha1 hz2 hz3 hμ h)
def k_X6_invert_73 (t : Nat) (z1 : Int) (z2 : Int) (z4 : Int) (μ : GM) : Option (Int × GM) :=
  ck (0 ≤ z2 ∧ z2 < (gSl t : Int)) (lm (gA μ (t + 3) z2 z4) fun μ1 =>
  ck (0 ≤ z2 ∧ z2 < (gSl t : Int)) (lm (gA μ1 (t + 1) z2 z1) fun μ2 =>
  some (0, μ2)))
set_option maxHeartbeats 4000000 in
set_option maxRecDepth 100000 in
theorem w_X6_invert_73 {G : GX} {u : Int × GM} (C : CX G 2 cX6_invert 9 RX6) (hQ : gQV G none u) {t : Nat} (ht : gRt t) {z1 : Int} (hz1 : r32 z1) {z2 : Int} (hz2 : r32 z2) {z4 : Int} (hz4 : r64 z4) {μ : GM} (hμ : gRg μ) (h : k_X6_invert_73 t z1 z2 z4 μ = some u) : WM G 9 μ 73 [(0, gR G t), (1, vI z1), (2, vI z2), (4, vJ z4)] [] := by
  unfold k_X6_invert_73 at h
  refine o_aload_n C 0 dX6_invert_73 rfl rfl ?_
  refine o_getR (j := 4) C (ktR_0 ht) rfl rfl (Nat.le_of_ble_eq_true rfl) lkf_RX6_48 dX6_invert_74 ?_
  refine o_iload_n C 2 dX6_invert_77 rfl rfl ?_
  refine o_lload C 3 dX6_invert_78 rfl ?_
  refine o_last C (ktR_3 ht) rfl hz2 hz4 hμ dX6_invert_80 h (fun μ1 hμ1 h => ?_)
  refine o_aload_n C 0 dX6_invert_81 rfl rfl ?_
  refine o_getR (j := 2) C (ktR_0 ht) rfl rfl (Nat.le_of_ble_eq_true rfl) lkf_RX6_39 dX6_invert_82 ?_
  refine o_iload_n C 2 dX6_invert_85 rfl rfl ?_
  refine o_iload_n C 1 dX6_invert_86 rfl rfl ?_
  refine o_iast C (ktR_1 ht) rfl hz2 hz1 hμ1 dX6_invert_87 h (fun μ2 hμ2 h => ?_)
  exact o_vret C hQ dX6_invert_88 h hμ2
def k_X6_invert_19 (t : Nat) : Nat → Int → Int → Nat → Int → Int → GM → Option (Int × GM)
  | 0, _, _, _, _, _, _ => none
  | n + 1, z1, z2, b3, z4, z6, μ =>
    if z6 < (μ.2 1 0) then
      if z4 = 0 then
        k_X6_invert_73 t z1 z2 z4 μ
      else
        ck (0 ≤ (w32 (z6 * 7)) ∧ (w32 (z6 * 7)) < 36) (
        lt (μ.1 b3 (w32 (z6 * 7))) fun x1 =>
        if x1 = 0 then
          lt (w32 (z6 + 1)) fun x2 =>
          k_X6_invert_19 t n z1 z2 b3 x1 x2 μ
        else
          bd (f_X6_eliminate t b3 z6 z4 μ) fun _x3 μ4 =>
          lt (w32 (z6 + 1)) fun x5 =>
          k_X6_invert_19 t n z1 z2 b3 x1 x5 μ4)
    else
      k_X6_invert_73 t z1 z2 z4 μ
set_option maxHeartbeats 4000000 in
set_option maxRecDepth 100000 in
theorem w_X6_invert_19 {G : GX} {u : Int × GM} (C : CX G 2 cX6_invert 9 RX6) (hQ : gQV G none u) {t : Nat} (ht : gRt t) : ∀ (n : Nat) (z1 : Int) (hz1 : r32 z1) (z2 : Int) (hz2 : r32 z2) (b3 : Nat) (hb3 : gKT[b3]? = some (2, 36, 0, [])) (z4 : Int) (hz4 : r64 z4) (z6 : Int) (hz6 : r32 z6) (μ : GM) (hμ : gRg μ), k_X6_invert_19 t n z1 z2 b3 z4 z6 μ = some u → WM G 9 μ 19 [(0, gR G t), (1, vI z1), (2, vI z2), (3, gR G b3), (4, vJ z4), (6, vI z6)] [] := by
  intro n
  induction n with
  | zero =>
    intro z1 hz1 z2 hz2 b3 hb3 z4 hz4 z6 hz6 μ hμ h
    cases h
  | succ n ih =>
    intro z1 hz1 z2 hz2 b3 hb3 z4 hz4 z6 hz6 μ hμ h
    rw [k_X6_invert_19] at h
    refine o_iload C 5 dX6_invert_19 rfl ?_
    refine o_aload_n C 0 dX6_invert_21 rfl rfl ?_
    refine o_getR (j := 0) C (ktR_0 ht) rfl rfl (Nat.le_of_ble_eq_true rfl) lkf_RX6_26 dX6_invert_22 ?_
    refine o_getI (j := 0) C kt_1 rfl rfl (Nat.le_of_ble_eq_true rfl) lkf_RX6_58 dX6_invert_25 ?_
    refine o_icmp_ge (tgt := 73) C hz6 (hμ.fi kt_1 rfl (by decide)) dX6_invert_28 (by decide) h (fun _ h => ?_) (fun _ h => ?_)
    · exact WM.sub [0, 1, 2, 4] rfl (w_X6_invert_73 C hQ ht hz1 hz2 hz4 hμ h)
    · refine o_lload C 4 dX6_invert_31 rfl ?_
      refine o_lconst (v := 0) C dX6_invert_33 rfl ?_
      refine o_lcmp_eq (tgt := 73) C hz4 ⟨by decide, by decide⟩ dX6_invert_34 dX6_invert_35 (by decide) h (fun _ h => ?_) (fun _ h => ?_)
      · exact WM.sub [0, 1, 2, 4] rfl (w_X6_invert_73 C hQ ht hz1 hz2 hz4 hμ h)
      · refine o_aload_n C 3 dX6_invert_38 rfl rfl ?_
        refine o_iload C 5 dX6_invert_39 rfl ?_
        refine o_bipush (v := 7) C dX6_invert_41 (by decide) ?_
        refine o_imul C dX6_invert_43 ?_
        refine o_lald C hb3 rfl (r32_w _) dX6_invert_44 h (fun h => ?_)
        refine o_ltl h (hμ.l hb3 _) (fun x1 hx1 h => ?_)
        refine o_lstore (lv2 := [(7, vJ x1), (0, gR G t), (1, vI z1), (2, vI z2), (3, gR G b3), (4, vJ z4), (6, vI z6)]) C dX6_invert_45 (by decide) rfl ?_
        refine o_lload C 0 dX6_invert_47 rfl ?_
        refine o_lconst (v := 0) C dX6_invert_49 rfl ?_
        refine o_lcmp_eq (tgt := 63) C hx1 ⟨by decide, by decide⟩ dX6_invert_50 dX6_invert_51 (by decide) h (fun _ h => ?_) (fun _ h => ?_)
        · refine o_lload C 0 dX6_invert_63 rfl ?_
          refine o_lstore (lv2 := [(4, vJ x1), (7, vJ x1), (0, gR G t), (1, vI z1), (2, vI z2), (3, gR G b3), (6, vI z6)]) C dX6_invert_65 (by decide) rfl ?_
          refine o_iinc (lv2 := fun x2 => [(6, vI x2), (4, vJ x1), (7, vJ x1), (0, gR G t), (1, vI z1), (2, vI z2), (3, gR G b3)]) C 6 dX6_invert_67 rfl (by decide) (fun _ => rfl) h (fun x2 hx2 h => ?_)
          refine o_goto (tgt := 19) C dX6_invert_70 (by decide) ?_
          exact WM.sub [3, 4, 5, 6, 1, 0] rfl (ih z1 hz1 z2 hz2 b3 hb3 x1 hx1 x2 hx2 μ hμ h)
        · refine o_aload_n C 1 dX6_invert_54 rfl rfl ?_
          refine o_aload_n C 4 dX6_invert_55 rfl rfl ?_
          refine o_iload C 6 dX6_invert_56 rfl ?_
          refine o_lload C 5 dX6_invert_58 rfl ?_
          refine o_cVV C [gR G b3, vI z6, vJ z4] mb_X6_eliminate (by decide) (fun _ hu => c_X6_eliminate ht hb3 hz6 hz4 hμ hu) rfl (Nat.le_of_ble_eq_true rfl) h mi_X6_eliminate me_X6_eliminate lkm_RX6_131 (ktR_0 ht) rfl rfl rfl dX6_invert_60 (fun _x3 μ4 hμ4 h => ?_)
          refine o_lload C 0 dX6_invert_63 rfl ?_
          refine o_lstore (lv2 := [(4, vJ x1), (7, vJ x1), (0, gR G t), (1, vI z1), (2, vI z2), (3, gR G b3), (6, vI z6)]) C dX6_invert_65 (by decide) rfl ?_
          refine o_iinc (lv2 := fun x5 => [(6, vI x5), (4, vJ x1), (7, vJ x1), (0, gR G t), (1, vI z1), (2, vI z2), (3, gR G b3)]) C 6 dX6_invert_67 rfl (by decide) (fun _ => rfl) h (fun x5 hx5 h => ?_)
          refine o_goto (tgt := 19) C dX6_invert_70 (by decide) ?_
          exact WM.sub [3, 4, 5, 6, 1, 0] rfl (ih z1 hz1 z2 hz2 b3 hb3 x1 hx1 x5 hx5 μ4 hμ4 h)
def f_X6_invert (t : Nat) (z1 : Int) (z2 : Int) (μ : GM) : Option (Int × GM) :=
  ck (0 ≤ z2 ∧ z2 < (gSl t : Int)) (
  bd (f_X6_fillMatrix t ((t + 6) + Int.toNat z2) z1 μ) fun _x2 μ3 =>
  k_X6_invert_19 t FU z1 z2 ((t + 6) + Int.toNat z2) 1 0 μ3)
set_option maxHeartbeats 4000000 in
set_option maxRecDepth 100000 in
theorem w_X6_invert_0 {G : GX} {u : Int × GM} (C : CX G 2 cX6_invert 9 RX6) (hQ : gQV G none u) {t : Nat} (ht : gRt t) {z1 : Int} (hz1 : r32 z1) {z2 : Int} (hz2 : r32 z2) {μ : GM} (hμ : gRg μ) (h : f_X6_invert t z1 z2 μ = some u) : WM G 9 μ 0 [(0, gR G t), (1, vI z1), (2, vI z2)] [] := by
  unfold f_X6_invert at h
  refine o_aload_n C 0 dX6_invert_0 rfl rfl ?_
  refine o_getR (j := 3) C (ktR_0 ht) rfl rfl (Nat.le_of_ble_eq_true rfl) lkf_RX6_45 dX6_invert_1 ?_
  refine o_iload_n C 2 dX6_invert_4 rfl rfl ?_
  refine o_aald4 C (ktR_2 ht) rfl hz2 dX6_invert_5 h (fun hb1 h => ?_)
  refine o_astore_n (lv2 := [(3, gR G ((t + 6) + Int.toNat z2)), (0, gR G t), (1, vI z1), (2, vI z2)]) C dX6_invert_6 rfl (by decide) rfl ?_
  refine o_aload_n C 1 dX6_invert_7 rfl rfl ?_
  refine o_aload_n C 0 dX6_invert_8 rfl rfl ?_
  refine o_iload_n C 2 dX6_invert_9 rfl rfl ?_
  refine o_cVV C [gR G ((t + 6) + Int.toNat z2), vI z1] mb_X6_fillMatrix (by decide) (fun _ hu => c_X6_fillMatrix ht (ktR_row ht rfl hb1) hz1 hμ hu) rfl (Nat.le_of_ble_eq_true rfl) h mi_X6_fillMatrix me_X6_fillMatrix lkm_RX6_127 (ktR_0 ht) rfl rfl rfl dX6_invert_10 (fun _x2 μ3 hμ3 h => ?_)
  refine o_lconst (v := 1) C dX6_invert_13 rfl ?_
  refine o_lstore (lv2 := [(4, vJ 1), (3, gR G ((t + 6) + Int.toNat z2)), (0, gR G t), (1, vI z1), (2, vI z2)]) C dX6_invert_14 (by decide) rfl ?_
  refine o_iconst C dX6_invert_16 ?_
  refine o_istore (lv2 := [(6, vI 0), (4, vJ 1), (3, gR G ((t + 6) + Int.toNat z2)), (0, gR G t), (1, vI z1), (2, vI z2)]) C dX6_invert_17 (by decide) rfl ?_
  exact WM.sub [3, 4, 5, 2, 1, 0] rfl (w_X6_invert_19 C hQ ht FU z1 hz1 z2 hz2 ((t + 6) + Int.toNat z2) (ktR_row ht rfl hb1) 1 ⟨by decide, by decide⟩ 0 ⟨by decide, by decide⟩ μ3 hμ3 h)
theorem c_X6_invert {t : Nat} (ht : gRt t) {z1 : Int} (hz1 : r32 z1) {z2 : Int} (hz2 : r32 z2) {μ : GM} (hμ : gRg μ) {u : Int × GM} (h : f_X6_invert t z1 z2 μ = some u) : MtV 2 yX6_invert cX6_invert 9 none (fun ad => [.ref (ad t), vI z1, vI z2]) μ u := MtV.of pf_X6_invert (fun _ => Nat.le_of_ble_eq_true rfl) (fun G C hQ => w_X6_invert_0 C hQ ht hz1 hz2 hμ h)
def k_X6_gatherSources_225 (t : Nat) (a2 : Nat) : Nat → Int → GM → Option (Int × GM)
  | 0, _, _ => none
  | n + 1, z5, μ =>
    if z5 < (μ.2 18 0) then
      ck (0 ≤ z5 ∧ z5 < 3) (
      ck (0 ≤ (μ.1 19 z5) ∧ (μ.1 19 z5) < 6) (
      ck (0 ≤ z5 ∧ z5 < 3) (
      ck (0 ≤ (μ.1 19 z5) ∧ (μ.1 19 z5) < 6) (lm (gA μ (t + 4) (μ.1 19 z5) (w64 ((μ.1 (t + 4) (μ.1 19 z5)) - (μ.1 a2 z5)))) fun μ1 =>
      lt (w32 (z5 + 1)) fun x2 =>
      k_X6_gatherSources_225 t a2 n x2 μ1))))
    else
      some (0, μ)
set_option maxHeartbeats 4000000 in
set_option maxRecDepth 100000 in
theorem w_X6_gatherSources_225 {G : GX} {u : Int × GM} (C : CX G 0 cX6_gatherSources 7 RX6) (hQ : gQV G none u) {t : Nat} (ht : gRt t) {a2 : Nat} (ha2 : gKT[a2]? = some (0, 3, 0, [])) : ∀ (n : Nat) (z5 : Int) (hz5 : r32 z5) (μ : GM) (hμ : gRg μ), k_X6_gatherSources_225 t a2 n z5 μ = some u → WM G 7 μ 225 [(0, gR G t), (2, gR G a2), (5, vI z5)] [] := by
  intro n
  induction n with
  | zero =>
    intro z5 hz5 μ hμ h
    cases h
  | succ n ih =>
    intro z5 hz5 μ hμ h
    rw [k_X6_gatherSources_225] at h
    refine o_iload C 2 dX6_gatherSources_225 rfl ?_
    refine o_aload_n C 0 dX6_gatherSources_227 rfl rfl ?_
    refine o_getR (j := 0) C (ktR_0 ht) rfl rfl (Nat.le_of_ble_eq_true rfl) lkf_RX6_26 dX6_gatherSources_228 ?_
    refine o_getR (j := 7) C kt_1 rfl rfl (Nat.le_of_ble_eq_true rfl) lkf_RX6_119 dX6_gatherSources_231 ?_
    refine o_getI (j := 0) C kt_18 rfl rfl (Nat.le_of_ble_eq_true rfl) lkf_RX6_123 dX6_gatherSources_234 ?_
    refine o_icmp_ge (tgt := 272) C hz5 (hμ.fi kt_18 rfl (by decide)) dX6_gatherSources_237 (by decide) h (fun _ h => ?_) (fun _ h => ?_)
    · exact o_vret C hQ dX6_gatherSources_272 h hμ
    · refine o_aload_n C 0 dX6_gatherSources_240 rfl rfl ?_
      refine o_getR (j := 5) C (ktR_0 ht) rfl rfl (Nat.le_of_ble_eq_true rfl) lkf_RX6_9 dX6_gatherSources_241 ?_
      refine o_aload_n C 0 dX6_gatherSources_244 rfl rfl ?_
      refine o_getR (j := 0) C (ktR_0 ht) rfl rfl (Nat.le_of_ble_eq_true rfl) lkf_RX6_26 dX6_gatherSources_245 ?_
      refine o_getR (j := 7) C kt_1 rfl rfl (Nat.le_of_ble_eq_true rfl) lkf_RX6_119 dX6_gatherSources_248 ?_
      refine o_getR (j := 1) C kt_18 rfl rfl (Nat.le_of_ble_eq_true rfl) lkf_RX6_126 dX6_gatherSources_251 ?_
      refine o_iload C 2 dX6_gatherSources_254 rfl ?_
      refine o_iald C kt_19 rfl hz5 dX6_gatherSources_256 h (fun h => ?_)
      refine o_dup2ri C dX6_gatherSources_257 ?_
      refine o_lald C (ktR_4 ht) rfl (hμ.i kt_19 (by decide) _) dX6_gatherSources_258 h (fun h => ?_)
      refine o_aload_n C 1 dX6_gatherSources_259 rfl rfl ?_
      refine o_iload C 2 dX6_gatherSources_260 rfl ?_
      refine o_iald C ha2 rfl hz5 dX6_gatherSources_262 h (fun h => ?_)
      refine o_i2l C (hμ.i ha2 (by decide) _) dX6_gatherSources_263 ?_
      refine o_lsub C dX6_gatherSources_264 ?_
      refine o_last C (ktR_4 ht) rfl (hμ.i kt_19 (by decide) _) (r64_w _) hμ dX6_gatherSources_265 h (fun μ1 hμ1 h => ?_)
      refine o_iinc (lv2 := fun x2 => [(5, vI x2), (0, gR G t), (2, gR G a2)]) C 2 dX6_gatherSources_266 rfl (by decide) (fun _ => rfl) h (fun x2 hx2 h => ?_)
      refine o_goto (tgt := 225) C dX6_gatherSources_269 (by decide) ?_
      exact WM.sub [1, 2, 0] rfl (ih x2 hx2 μ1 hμ1 h)
def k_X6_gatherSources_175 (kL148 : Int → Int → GM → Option (Int × GM)) (t : Nat) (a2 : Nat) (z1 : Int) (z5 : Int) (s0 : Int) (μ : GM) : Option (Int × GM) :=
  if s0 = 0 then
    lt (w32 (z5 + 1)) fun x1 =>
    kL148 z1 x1 μ
  else
    ck (0 ≤ z5 ∧ z5 < 2) (
    ck (0 ≤ (μ.1 15 z5) ∧ (μ.1 15 z5) < 6) (
    ck (0 ≤ z5 ∧ z5 < 2) (
    ck (0 ≤ z5 ∧ z5 < 2) (
    ck (0 ≤ (μ.1 15 z5) ∧ (μ.1 15 z5) < 6) (lm (gA μ (t + 4) (μ.1 15 z5) (w64 ((μ.1 (t + 4) (μ.1 15 z5)) + (w32 ((μ.1 17 z5) * (μ.1 16 z5)))))) fun μ2 =>
    lt (w32 (z5 + 1)) fun x3 =>
    kL148 z1 x3 μ2)))))
set_option maxHeartbeats 4000000 in
set_option maxRecDepth 100000 in
theorem w_X6_gatherSources_175 {G : GX} {u : Int × GM} (C : CX G 0 cX6_gatherSources 7 RX6) (hQ : gQV G none u) {t : Nat} (ht : gRt t) {a2 : Nat} (ha2 : gKT[a2]? = some (0, 3, 0, [])) {kL148 : Int → Int → GM → Option (Int × GM)} (hL148 : ∀ (z1 : Int) (hz1 : r32 z1) (z5 : Int) (hz5 : r32 z5) (μ : GM) (hμ : gRg μ), kL148 z1 z5 μ = some u → WM G 7 μ 148 [(0, gR G t), (1, vI z1), (2, gR G a2), (4, gR G 14), (5, vI z5)] []) {z1 : Int} (hz1 : r32 z1) {z5 : Int} (hz5 : r32 z5) {s0 : Int} (hs0 : r32 s0) {μ : GM} (hμ : gRg μ) (h : k_X6_gatherSources_175 kL148 t a2 z1 z5 s0 μ = some u) : WM G 7 μ 175 [(0, gR G t), (1, vI z1), (2, gR G a2), (4, gR G 14), (5, vI z5)] [vI s0] := by
  unfold k_X6_gatherSources_175 at h
  refine o_istore (lv2 := [(6, vI s0), (0, gR G t), (1, vI z1), (2, gR G a2), (4, gR G 14), (5, vI z5)]) C dX6_gatherSources_175 (by decide) rfl ?_
  refine o_iload C 0 dX6_gatherSources_177 rfl ?_
  refine o_if_eq (tgt := 216) C hs0 dX6_gatherSources_179 (by decide) h (fun _ h => ?_) (fun _ h => ?_)
  · refine o_iinc (lv2 := fun x1 => [(5, vI x1), (6, vI s0), (0, gR G t), (1, vI z1), (2, gR G a2), (4, gR G 14)]) C 5 dX6_gatherSources_216 rfl (by decide) (fun _ => rfl) h (fun x1 hx1 h => ?_)
    refine o_goto (tgt := 148) C dX6_gatherSources_219 (by decide) ?_
    exact WM.sub [2, 3, 4, 5, 0] rfl (hL148 z1 hz1 x1 hx1 μ hμ h)
  · refine o_aload_n C 1 dX6_gatherSources_182 rfl rfl ?_
    refine o_getR (j := 5) C (ktR_0 ht) rfl rfl (Nat.le_of_ble_eq_true rfl) lkf_RX6_9 dX6_gatherSources_183 ?_
    refine o_aload C 4 dX6_gatherSources_186 rfl ?_
    refine o_getR (j := 1) C kt_14 rfl rfl (Nat.le_of_ble_eq_true rfl) lkf_RX6_105 dX6_gatherSources_188 ?_
    refine o_iload C 5 dX6_gatherSources_191 rfl ?_
    refine o_iald C kt_15 rfl hz5 dX6_gatherSources_193 h (fun h => ?_)
    refine o_dup2ri C dX6_gatherSources_194 ?_
    refine o_lald C (ktR_4 ht) rfl (hμ.i kt_15 (by decide) _) dX6_gatherSources_195 h (fun h => ?_)
    refine o_aload C 4 dX6_gatherSources_196 rfl ?_
    refine o_getR (j := 3) C kt_14 rfl rfl (Nat.le_of_ble_eq_true rfl) lkf_RX6_118 dX6_gatherSources_198 ?_
    refine o_iload C 5 dX6_gatherSources_201 rfl ?_
    refine o_iald C kt_17 rfl hz5 dX6_gatherSources_203 h (fun h => ?_)
    refine o_aload C 4 dX6_gatherSources_204 rfl ?_
    refine o_getR (j := 2) C kt_14 rfl rfl (Nat.le_of_ble_eq_true rfl) lkf_RX6_106 dX6_gatherSources_206 ?_
    refine o_iload C 5 dX6_gatherSources_209 rfl ?_
    refine o_iald C kt_16 rfl hz5 dX6_gatherSources_211 h (fun h => ?_)
    refine o_imul C dX6_gatherSources_212 ?_
    refine o_i2l C (r32_w _) dX6_gatherSources_213 ?_
    refine o_ladd C dX6_gatherSources_214 ?_
    refine o_last C (ktR_4 ht) rfl (hμ.i kt_15 (by decide) _) (r64_w _) hμ dX6_gatherSources_215 h (fun μ2 hμ2 h => ?_)
    refine o_iinc (lv2 := fun x3 => [(5, vI x3), (6, vI s0), (0, gR G t), (1, vI z1), (2, gR G a2), (4, gR G 14)]) C 5 dX6_gatherSources_216 rfl (by decide) (fun _ => rfl) h (fun x3 hx3 h => ?_)
    refine o_goto (tgt := 148) C dX6_gatherSources_219 (by decide) ?_
    exact WM.sub [2, 3, 4, 5, 0] rfl (hL148 z1 hz1 x3 hx3 μ2 hμ2 h)
def k_X6_gatherSources_148 (t : Nat) (a2 : Nat) : Nat → Int → Int → GM → Option (Int × GM)
  | 0, _, _, _ => none
  | n + 1, z1, z5, μ =>
    if z5 < (μ.2 14 0) then
      if (gand (gshr z1 (w32 (3 + z5))) 1) = 1 then
        k_X6_gatherSources_175 (k_X6_gatherSources_148 t a2 n) t a2 z1 z5 1 μ
      else
        k_X6_gatherSources_175 (k_X6_gatherSources_148 t a2 n) t a2 z1 z5 0 μ
    else
      k_X6_gatherSources_225 t a2 FU 0 μ
set_option maxHeartbeats 4000000 in
set_option maxRecDepth 100000 in
theorem w_X6_gatherSources_148 {G : GX} {u : Int × GM} (C : CX G 0 cX6_gatherSources 7 RX6) (hQ : gQV G none u) {t : Nat} (ht : gRt t) {a2 : Nat} (ha2 : gKT[a2]? = some (0, 3, 0, [])) : ∀ (n : Nat) (z1 : Int) (hz1 : r32 z1) (z5 : Int) (hz5 : r32 z5) (μ : GM) (hμ : gRg μ), k_X6_gatherSources_148 t a2 n z1 z5 μ = some u → WM G 7 μ 148 [(0, gR G t), (1, vI z1), (2, gR G a2), (4, gR G 14), (5, vI z5)] [] := by
  intro n
  induction n with
  | zero =>
    intro z1 hz1 z5 hz5 μ hμ h
    cases h
  | succ n ih =>
    intro z1 hz1 z5 hz5 μ hμ h
    rw [k_X6_gatherSources_148] at h
    refine o_iload C 4 dX6_gatherSources_148 rfl ?_
    refine o_aload C 3 dX6_gatherSources_150 rfl ?_
    refine o_getI (j := 0) C kt_14 rfl rfl (Nat.le_of_ble_eq_true rfl) lkf_RX6_102 dX6_gatherSources_152 ?_
    refine o_icmp_ge (tgt := 222) C hz5 (hμ.fi kt_14 rfl (by decide)) dX6_gatherSources_155 (by decide) h (fun _ h => ?_) (fun _ h => ?_)
    · refine o_iconst C dX6_gatherSources_222 ?_
      refine o_istore (lv2 := [(5, vI 0), (0, gR G t), (1, vI z1), (2, gR G a2), (4, gR G 14)]) C dX6_gatherSources_223 (by decide) rfl ?_
      exact WM.sub [1, 3, 0] rfl (w_X6_gatherSources_225 C hQ ht ha2 FU 0 ⟨by decide, by decide⟩ μ hμ h)
    · refine o_iload_n C 1 dX6_gatherSources_158 rfl rfl ?_
      refine o_iconst C dX6_gatherSources_159 ?_
      refine o_iload C 4 dX6_gatherSources_160 rfl ?_
      refine o_iadd C dX6_gatherSources_162 ?_
      refine o_ishr C dX6_gatherSources_163 ?_
      refine o_iconst C dX6_gatherSources_164 ?_
      refine o_iand C dX6_gatherSources_165 ?_
      refine o_iconst C dX6_gatherSources_166 ?_
      refine o_icmp_ne (tgt := 174) C (r32_toInt _) ⟨by decide, by decide⟩ dX6_gatherSources_167 (by decide) h (fun _ h => ?_) (fun _ h => ?_)
      · refine o_iconst C dX6_gatherSources_174 ?_
        exact WM.sub [0, 1, 2, 3, 4] rfl (w_X6_gatherSources_175 C hQ ht ha2 ih hz1 hz5 ⟨by decide, by decide⟩ hμ h)
      · refine o_iconst C dX6_gatherSources_170 ?_
        refine o_goto (tgt := 175) C dX6_gatherSources_171 (by decide) ?_
        exact WM.sub [0, 1, 2, 3, 4] rfl (w_X6_gatherSources_175 C hQ ht ha2 ih hz1 hz5 ⟨by decide, by decide⟩ hμ h)
def k_X6_gatherSources_102 (kL46 : Int → Int → GM → Option (Int × GM)) (t : Nat) (a2 : Nat) (z1 : Int) (z4 : Int) (s0 : Int) (μ : GM) : Option (Int × GM) :=
  ck (0 ≤ z4 ∧ z4 < 3) (
  ck (0 ≤ (μ.1 10 z4) ∧ (μ.1 10 z4) < 6) (
  ck (0 ≤ z4 ∧ z4 < 3) (
  ck (0 ≤ (μ.1 10 z4) ∧ (μ.1 10 z4) < 6) (lm (gA μ (t + 4) (μ.1 10 z4) (w64 ((μ.1 (t + 4) (μ.1 10 z4)) + (w32 ((μ.1 13 z4) * s0))))) fun μ1 =>
  lt (w32 (z4 + 1)) fun x2 =>
  kL46 z1 x2 μ1))))
set_option maxHeartbeats 4000000 in
set_option maxRecDepth 100000 in
theorem w_X6_gatherSources_102 {G : GX} {u : Int × GM} (C : CX G 0 cX6_gatherSources 7 RX6) (hQ : gQV G none u) {t : Nat} (ht : gRt t) {a2 : Nat} (ha2 : gKT[a2]? = some (0, 3, 0, [])) {kL46 : Int → Int → GM → Option (Int × GM)} (hL46 : ∀ (z1 : Int) (hz1 : r32 z1) (z4 : Int) (hz4 : r32 z4) (μ : GM) (hμ : gRg μ), kL46 z1 z4 μ = some u → WM G 7 μ 46 [(0, gR G t), (1, vI z1), (2, gR G a2), (3, gR G 9), (4, vI z4)] []) {z1 : Int} (hz1 : r32 z1) {z4 : Int} (hz4 : r32 z4) {s0 : Int} (hs0 : r32 s0) {μ : GM} (hμ : gRg μ) (h : k_X6_gatherSources_102 kL46 t a2 z1 z4 s0 μ = some u) : WM G 7 μ 102 [(0, gR G t), (1, vI z1), (2, gR G a2), (3, gR G 9), (4, vI z4)] [vI s0] := by
  unfold k_X6_gatherSources_102 at h
  refine o_istore (lv2 := [(6, vI s0), (0, gR G t), (1, vI z1), (2, gR G a2), (3, gR G 9), (4, vI z4)]) C dX6_gatherSources_102 (by decide) rfl ?_
  refine o_aload_n C 1 dX6_gatherSources_104 rfl rfl ?_
  refine o_getR (j := 5) C (ktR_0 ht) rfl rfl (Nat.le_of_ble_eq_true rfl) lkf_RX6_9 dX6_gatherSources_105 ?_
  refine o_aload_n C 4 dX6_gatherSources_108 rfl rfl ?_
  refine o_getR (j := 1) C kt_9 rfl rfl (Nat.le_of_ble_eq_true rfl) lkf_RX6_88 dX6_gatherSources_109 ?_
  refine o_iload C 5 dX6_gatherSources_112 rfl ?_
  refine o_iald C kt_10 rfl hz4 dX6_gatherSources_114 h (fun h => ?_)
  refine o_dup2ri C dX6_gatherSources_115 ?_
  refine o_lald C (ktR_4 ht) rfl (hμ.i kt_10 (by decide) _) dX6_gatherSources_116 h (fun h => ?_)
  refine o_aload_n C 4 dX6_gatherSources_117 rfl rfl ?_
  refine o_getR (j := 4) C kt_9 rfl rfl (Nat.le_of_ble_eq_true rfl) lkf_RX6_115 dX6_gatherSources_118 ?_
  refine o_iload C 5 dX6_gatherSources_121 rfl ?_
  refine o_iald C kt_13 rfl hz4 dX6_gatherSources_123 h (fun h => ?_)
  refine o_iload C 0 dX6_gatherSources_124 rfl ?_
  refine o_imul C dX6_gatherSources_126 ?_
  refine o_i2l C (r32_w _) dX6_gatherSources_127 ?_
  refine o_ladd C dX6_gatherSources_128 ?_
  refine o_last C (ktR_4 ht) rfl (hμ.i kt_10 (by decide) _) (r64_w _) hμ dX6_gatherSources_129 h (fun μ1 hμ1 h => ?_)
  refine o_iinc (lv2 := fun x2 => [(4, vI x2), (6, vI s0), (0, gR G t), (1, vI z1), (2, gR G a2), (3, gR G 9)]) C 5 dX6_gatherSources_130 rfl (by decide) (fun _ => rfl) h (fun x2 hx2 h => ?_)
  refine o_goto (tgt := 46) C dX6_gatherSources_133 (by decide) ?_
  exact WM.sub [2, 3, 4, 5, 0] rfl (hL46 z1 hz1 x2 hx2 μ1 hμ1 h)
def k_X6_gatherSources_70 (kL46 : Int → Int → GM → Option (Int × GM)) (t : Nat) (a2 : Nat) (z1 : Int) (z4 : Int) (s0 : Int) (μ : GM) : Option (Int × GM) :=
  if s0 = 0 then
    ck (0 ≤ z4 ∧ z4 < 3) (
    ck (0 ≤ z4 ∧ z4 < 3) (
    k_X6_gatherSources_102 kL46 t a2 z1 z4 (w32 ((μ.1 11 z4) - (μ.1 12 z4))) μ))
  else
    ck (0 ≤ z4 ∧ z4 < 3) (
    k_X6_gatherSources_102 kL46 t a2 z1 z4 (μ.1 11 z4) μ)
set_option maxHeartbeats 4000000 in
set_option maxRecDepth 100000 in
theorem w_X6_gatherSources_70 {G : GX} {u : Int × GM} (C : CX G 0 cX6_gatherSources 7 RX6) (hQ : gQV G none u) {t : Nat} (ht : gRt t) {a2 : Nat} (ha2 : gKT[a2]? = some (0, 3, 0, [])) {kL46 : Int → Int → GM → Option (Int × GM)} (hL46 : ∀ (z1 : Int) (hz1 : r32 z1) (z4 : Int) (hz4 : r32 z4) (μ : GM) (hμ : gRg μ), kL46 z1 z4 μ = some u → WM G 7 μ 46 [(0, gR G t), (1, vI z1), (2, gR G a2), (3, gR G 9), (4, vI z4)] []) {z1 : Int} (hz1 : r32 z1) {z4 : Int} (hz4 : r32 z4) {s0 : Int} (hs0 : r32 s0) {μ : GM} (hμ : gRg μ) (h : k_X6_gatherSources_70 kL46 t a2 z1 z4 s0 μ = some u) : WM G 7 μ 70 [(0, gR G t), (1, vI z1), (2, gR G a2), (3, gR G 9), (4, vI z4)] [vI s0] := by
  unfold k_X6_gatherSources_70 at h
  refine o_istore (lv2 := [(5, vI s0), (0, gR G t), (1, vI z1), (2, gR G a2), (3, gR G 9), (4, vI z4)]) C dX6_gatherSources_70 (by decide) rfl ?_
  refine o_iload C 0 dX6_gatherSources_72 rfl ?_
  refine o_if_eq (tgt := 87) C hs0 dX6_gatherSources_74 (by decide) h (fun _ h => ?_) (fun _ h => ?_)
  · refine o_aload_n C 4 dX6_gatherSources_87 rfl rfl ?_
    refine o_getR (j := 2) C kt_9 rfl rfl (Nat.le_of_ble_eq_true rfl) lkf_RX6_112 dX6_gatherSources_88 ?_
    refine o_iload C 5 dX6_gatherSources_91 rfl ?_
    refine o_iald C kt_11 rfl hz4 dX6_gatherSources_93 h (fun h => ?_)
    refine o_aload_n C 4 dX6_gatherSources_94 rfl rfl ?_
    refine o_getR (j := 3) C kt_9 rfl rfl (Nat.le_of_ble_eq_true rfl) lkf_RX6_95 dX6_gatherSources_95 ?_
    refine o_iload C 5 dX6_gatherSources_98 rfl ?_
    refine o_iald C kt_12 rfl hz4 dX6_gatherSources_100 h (fun h => ?_)
    refine o_isub C dX6_gatherSources_101 ?_
    exact WM.sub [1, 2, 3, 4, 5] rfl (w_X6_gatherSources_102 C hQ ht ha2 hL46 hz1 hz4 (r32_w _) hμ h)
  · refine o_aload_n C 4 dX6_gatherSources_77 rfl rfl ?_
    refine o_getR (j := 2) C kt_9 rfl rfl (Nat.le_of_ble_eq_true rfl) lkf_RX6_112 dX6_gatherSources_78 ?_
    refine o_iload C 5 dX6_gatherSources_81 rfl ?_
    refine o_iald C kt_11 rfl hz4 dX6_gatherSources_83 h (fun h => ?_)
    refine o_goto (tgt := 102) C dX6_gatherSources_84 (by decide) ?_
    exact WM.sub [1, 2, 3, 4, 5] rfl (w_X6_gatherSources_102 C hQ ht ha2 hL46 hz1 hz4 (hμ.i kt_11 (by decide) _) hμ h)
def k_X6_gatherSources_46 (t : Nat) (a2 : Nat) : Nat → Int → Int → GM → Option (Int × GM)
  | 0, _, _, _ => none
  | n + 1, z1, z4, μ =>
    if z4 < (μ.2 9 0) then
      if (gand (gshr z1 z4) 1) = 1 then
        k_X6_gatherSources_70 (k_X6_gatherSources_46 t a2 n) t a2 z1 z4 1 μ
      else
        k_X6_gatherSources_70 (k_X6_gatherSources_46 t a2 n) t a2 z1 z4 0 μ
    else
      k_X6_gatherSources_148 t a2 FU z1 0 μ
set_option maxHeartbeats 4000000 in
set_option maxRecDepth 100000 in
theorem w_X6_gatherSources_46 {G : GX} {u : Int × GM} (C : CX G 0 cX6_gatherSources 7 RX6) (hQ : gQV G none u) {t : Nat} (ht : gRt t) {a2 : Nat} (ha2 : gKT[a2]? = some (0, 3, 0, [])) : ∀ (n : Nat) (z1 : Int) (hz1 : r32 z1) (z4 : Int) (hz4 : r32 z4) (μ : GM) (hμ : gRg μ), k_X6_gatherSources_46 t a2 n z1 z4 μ = some u → WM G 7 μ 46 [(0, gR G t), (1, vI z1), (2, gR G a2), (3, gR G 9), (4, vI z4)] [] := by
  intro n
  induction n with
  | zero =>
    intro z1 hz1 z4 hz4 μ hμ h
    cases h
  | succ n ih =>
    intro z1 hz1 z4 hz4 μ hμ h
    rw [k_X6_gatherSources_46] at h
    refine o_iload C 4 dX6_gatherSources_46 rfl ?_
    refine o_aload_n C 3 dX6_gatherSources_48 rfl rfl ?_
    refine o_getI (j := 0) C kt_9 rfl rfl (Nat.le_of_ble_eq_true rfl) lkf_RX6_83 dX6_gatherSources_49 ?_
    refine o_icmp_ge (tgt := 136) C hz4 (hμ.fi kt_9 rfl (by decide)) dX6_gatherSources_52 (by decide) h (fun _ h => ?_) (fun _ h => ?_)
    · refine o_aload_n C 0 dX6_gatherSources_136 rfl rfl ?_
      refine o_getR (j := 0) C (ktR_0 ht) rfl rfl (Nat.le_of_ble_eq_true rfl) lkf_RX6_26 dX6_gatherSources_137 ?_
      refine o_getR (j := 6) C kt_1 rfl rfl (Nat.le_of_ble_eq_true rfl) lkf_RX6_98 dX6_gatherSources_140 ?_
      refine o_astore (lv2 := [(4, gR G 14), (0, gR G t), (1, vI z1), (2, gR G a2), (3, gR G 9)]) C dX6_gatherSources_143 (by decide) rfl ?_
      refine o_iconst C dX6_gatherSources_145 ?_
      refine o_istore (lv2 := [(5, vI 0), (4, gR G 14), (0, gR G t), (1, vI z1), (2, gR G a2), (3, gR G 9)]) C dX6_gatherSources_146 (by decide) rfl ?_
      exact WM.sub [2, 3, 4, 1, 0] rfl (w_X6_gatherSources_148 C hQ ht ha2 FU z1 hz1 0 ⟨by decide, by decide⟩ μ hμ h)
    · refine o_iload_n C 1 dX6_gatherSources_55 rfl rfl ?_
      refine o_iload C 4 dX6_gatherSources_56 rfl ?_
      refine o_ishr C dX6_gatherSources_58 ?_
      refine o_iconst C dX6_gatherSources_59 ?_
      refine o_iand C dX6_gatherSources_60 ?_
      refine o_iconst C dX6_gatherSources_61 ?_
      refine o_icmp_ne (tgt := 69) C (r32_toInt _) ⟨by decide, by decide⟩ dX6_gatherSources_62 (by decide) h (fun _ h => ?_) (fun _ h => ?_)
      · refine o_iconst C dX6_gatherSources_69 ?_
        exact WM.sub [0, 1, 2, 3, 4] rfl (w_X6_gatherSources_70 C hQ ht ha2 ih hz1 hz4 ⟨by decide, by decide⟩ hμ h)
      · refine o_iconst C dX6_gatherSources_65 ?_
        refine o_goto (tgt := 70) C dX6_gatherSources_66 (by decide) ?_
        exact WM.sub [0, 1, 2, 3, 4] rfl (w_X6_gatherSources_70 C hQ ht ha2 ih hz1 hz4 ⟨by decide, by decide⟩ hμ h)
def k_X6_gatherSources_2 (t : Nat) (a2 : Nat) : Nat → Int → Int → GM → Option (Int × GM)
  | 0, _, _, _ => none
  | n + 1, z1, z3, μ =>
    if z3 < (μ.2 1 0) then
      ck (0 ≤ z3 ∧ z3 < 6) (
      ck (0 ≤ z3 ∧ z3 < 6) (lm (gA μ (t + 4) z3 (μ.1 3 z3)) fun μ1 =>
      lt (w32 (z3 + 1)) fun x2 =>
      k_X6_gatherSources_2 t a2 n z1 x2 μ1))
    else
      k_X6_gatherSources_46 t a2 FU z1 0 μ
set_option maxHeartbeats 4000000 in
set_option maxRecDepth 100000 in
theorem w_X6_gatherSources_2 {G : GX} {u : Int × GM} (C : CX G 0 cX6_gatherSources 7 RX6) (hQ : gQV G none u) {t : Nat} (ht : gRt t) {a2 : Nat} (ha2 : gKT[a2]? = some (0, 3, 0, [])) : ∀ (n : Nat) (z1 : Int) (hz1 : r32 z1) (z3 : Int) (hz3 : r32 z3) (μ : GM) (hμ : gRg μ), k_X6_gatherSources_2 t a2 n z1 z3 μ = some u → WM G 7 μ 2 [(0, gR G t), (1, vI z1), (2, gR G a2), (3, vI z3)] [] := by
  intro n
  induction n with
  | zero =>
    intro z1 hz1 z3 hz3 μ hμ h
    cases h
  | succ n ih =>
    intro z1 hz1 z3 hz3 μ hμ h
    rw [k_X6_gatherSources_2] at h
    refine o_iload_n C 3 dX6_gatherSources_2 rfl rfl ?_
    refine o_aload_n C 0 dX6_gatherSources_3 rfl rfl ?_
    refine o_getR (j := 0) C (ktR_0 ht) rfl rfl (Nat.le_of_ble_eq_true rfl) lkf_RX6_26 dX6_gatherSources_4 ?_
    refine o_getI (j := 0) C kt_1 rfl rfl (Nat.le_of_ble_eq_true rfl) lkf_RX6_58 dX6_gatherSources_7 ?_
    refine o_icmp_ge (tgt := 35) C hz3 (hμ.fi kt_1 rfl (by decide)) dX6_gatherSources_10 (by decide) h (fun _ h => ?_) (fun _ h => ?_)
    · refine o_aload_n C 0 dX6_gatherSources_35 rfl rfl ?_
      refine o_getR (j := 0) C (ktR_0 ht) rfl rfl (Nat.le_of_ble_eq_true rfl) lkf_RX6_26 dX6_gatherSources_36 ?_
      refine o_getR (j := 5) C kt_1 rfl rfl (Nat.le_of_ble_eq_true rfl) lkf_RX6_79 dX6_gatherSources_39 ?_
      refine o_astore_n (lv2 := [(3, gR G 9), (0, gR G t), (1, vI z1), (2, gR G a2)]) C dX6_gatherSources_42 rfl (by decide) rfl ?_
      refine o_iconst C dX6_gatherSources_43 ?_
      refine o_istore (lv2 := [(4, vI 0), (3, gR G 9), (0, gR G t), (1, vI z1), (2, gR G a2)]) C dX6_gatherSources_44 (by decide) rfl ?_
      exact WM.sub [2, 3, 4, 1, 0] rfl (w_X6_gatherSources_46 C hQ ht ha2 FU z1 hz1 0 ⟨by decide, by decide⟩ μ hμ h)
    · refine o_aload_n C 0 dX6_gatherSources_13 rfl rfl ?_
      refine o_getR (j := 5) C (ktR_0 ht) rfl rfl (Nat.le_of_ble_eq_true rfl) lkf_RX6_9 dX6_gatherSources_14 ?_
      refine o_iload_n C 3 dX6_gatherSources_17 rfl rfl ?_
      refine o_aload_n C 0 dX6_gatherSources_18 rfl rfl ?_
      refine o_getR (j := 0) C (ktR_0 ht) rfl rfl (Nat.le_of_ble_eq_true rfl) lkf_RX6_26 dX6_gatherSources_19 ?_
      refine o_getR (j := 2) C kt_1 rfl rfl (Nat.le_of_ble_eq_true rfl) lkf_RX6_109 dX6_gatherSources_22 ?_
      refine o_iload_n C 3 dX6_gatherSources_25 rfl rfl ?_
      refine o_iald C kt_3 rfl hz3 dX6_gatherSources_26 h (fun h => ?_)
      refine o_i2l C (hμ.i kt_3 (by decide) _) dX6_gatherSources_27 ?_
      refine o_last C (ktR_4 ht) rfl hz3 (r32_r64 (hμ.i kt_3 (by decide) _)) hμ dX6_gatherSources_28 h (fun μ1 hμ1 h => ?_)
      refine o_iinc (lv2 := fun x2 => [(3, vI x2), (0, gR G t), (1, vI z1), (2, gR G a2)]) C 3 dX6_gatherSources_29 rfl (by decide) (fun _ => rfl) h (fun x2 hx2 h => ?_)
      refine o_goto (tgt := 2) C dX6_gatherSources_32 (by decide) ?_
      exact WM.sub [1, 2, 3, 0] rfl (ih z1 hz1 x2 hx2 μ1 hμ1 h)
def f_X6_gatherSources (t : Nat) (a2 : Nat) (z1 : Int) (μ : GM) : Option (Int × GM) :=
  k_X6_gatherSources_2 t a2 FU z1 0 μ
set_option maxHeartbeats 4000000 in
set_option maxRecDepth 100000 in
theorem w_X6_gatherSources_0 {G : GX} {u : Int × GM} (C : CX G 0 cX6_gatherSources 7 RX6) (hQ : gQV G none u) {t : Nat} (ht : gRt t) {a2 : Nat} (ha2 : gKT[a2]? = some (0, 3, 0, [])) {z1 : Int} (hz1 : r32 z1) {μ : GM} (hμ : gRg μ) (h : f_X6_gatherSources t a2 z1 μ = some u) : WM G 7 μ 0 [(0, gR G t), (1, vI z1), (2, gR G a2)] [] := by
  unfold f_X6_gatherSources at h
  refine o_iconst C dX6_gatherSources_0 ?_
  refine o_istore_n (lv2 := [(3, vI 0), (0, gR G t), (1, vI z1), (2, gR G a2)]) C dX6_gatherSources_1 rfl (by decide) rfl ?_
  exact WM.sub [1, 2, 3, 0] rfl (w_X6_gatherSources_2 C hQ ht ha2 FU z1 hz1 0 ⟨by decide, by decide⟩ μ hμ h)
theorem c_X6_gatherSources {t : Nat} (ht : gRt t) {a2 : Nat} (ha2 : gKT[a2]? = some (0, 3, 0, [])) {z1 : Int} (hz1 : r32 z1) {μ : GM} (hμ : gRg μ) {u : Int × GM} (h : f_X6_gatherSources t a2 z1 μ = some u) : MtV 0 yX6_gatherSources cX6_gatherSources 7 none (fun ad => [.ref (ad t), vI z1, .ref (ad a2)]) μ u := MtV.of pf_X6_gatherSources (fun _ => Nat.le_of_ble_eq_true rfl) (fun G C hQ => w_X6_gatherSources_0 C hQ ht ha2 hz1 hμ h)
def k_X6_solve_5 (t : Nat) (a1 : Nat) : Nat → Int → Int → Int → GM → Option (Int × GM)
  | 0, _, _, _, _ => none
  | n + 1, z2, z3, z5, μ =>
    if z5 < (μ.2 1 0) then
      ck (0 ≤ (w32 ((w32 (z2 * 6)) + z5)) ∧ (w32 ((w32 (z2 * 6)) + z5)) < 36) (
      ck (0 ≤ z5 ∧ z5 < 6) (
      lt (w64 (z3 + (w64 ((μ.1 a1 (w32 ((w32 (z2 * 6)) + z5))) * (μ.1 (t + 4) z5))))) fun x1 =>
      lt (w32 (z5 + 1)) fun x2 =>
      k_X6_solve_5 t a1 n z2 x1 x2 μ))
    else
      some (z3, μ)
set_option maxHeartbeats 4000000 in
set_option maxRecDepth 100000 in
theorem w_X6_solve_5 {G : GX} {u : Int × GM} (C : CX G 0 cX6_solve 6 RX6) (hQ : gQL G (some .long) u) {t : Nat} (ht : gRt t) {a1 : Nat} (ha1 : gKT[a1]? = some (2, 36, 0, [])) : ∀ (n : Nat) (z2 : Int) (hz2 : r32 z2) (z3 : Int) (hz3 : r64 z3) (z5 : Int) (hz5 : r32 z5) (μ : GM) (hμ : gRg μ), k_X6_solve_5 t a1 n z2 z3 z5 μ = some u → WM G 6 μ 5 [(0, gR G t), (1, gR G a1), (2, vI z2), (3, vJ z3), (5, vI z5)] [] := by
  intro n
  induction n with
  | zero =>
    intro z2 hz2 z3 hz3 z5 hz5 μ hμ h
    cases h
  | succ n ih =>
    intro z2 hz2 z3 hz3 z5 hz5 μ hμ h
    rw [k_X6_solve_5] at h
    refine o_iload C 4 dX6_solve_5 rfl ?_
    refine o_aload_n C 0 dX6_solve_7 rfl rfl ?_
    refine o_getR (j := 0) C (ktR_0 ht) rfl rfl (Nat.le_of_ble_eq_true rfl) lkf_RX6_26 dX6_solve_8 ?_
    refine o_getI (j := 0) C kt_1 rfl rfl (Nat.le_of_ble_eq_true rfl) lkf_RX6_58 dX6_solve_11 ?_
    refine o_icmp_ge (tgt := 43) C hz5 (hμ.fi kt_1 rfl (by decide)) dX6_solve_14 (by decide) h (fun _ h => ?_) (fun _ h => ?_)
    · refine o_lload_n C 3 dX6_solve_43 rfl rfl ?_
      exact o_lret C hQ dX6_solve_44 h hz3 hμ
    · refine o_lload_n C 3 dX6_solve_17 rfl rfl ?_
      refine o_aload_n C 1 dX6_solve_18 rfl rfl ?_
      refine o_iload_n C 2 dX6_solve_19 rfl rfl ?_
      refine o_bipush (v := 6) C dX6_solve_20 (by decide) ?_
      refine o_imul C dX6_solve_22 ?_
      refine o_iload C 4 dX6_solve_23 rfl ?_
      refine o_iadd C dX6_solve_25 ?_
      refine o_lald C ha1 rfl (r32_w _) dX6_solve_26 h (fun h => ?_)
      refine o_aload_n C 0 dX6_solve_27 rfl rfl ?_
      refine o_getR (j := 5) C (ktR_0 ht) rfl rfl (Nat.le_of_ble_eq_true rfl) lkf_RX6_9 dX6_solve_28 ?_
      refine o_iload C 4 dX6_solve_31 rfl ?_
      refine o_lald C (ktR_4 ht) rfl hz5 dX6_solve_33 h (fun h => ?_)
      refine o_lmul C dX6_solve_34 ?_
      refine o_ladd C dX6_solve_35 ?_
      refine o_ltl h (r64_w _) (fun x1 hx1 h => ?_)
      refine o_lstore_n (lv2 := [(3, vJ x1), (0, gR G t), (1, gR G a1), (2, vI z2), (5, vI z5)]) C dX6_solve_36 rfl (by decide) rfl ?_
      refine o_iinc (lv2 := fun x2 => [(5, vI x2), (3, vJ x1), (0, gR G t), (1, gR G a1), (2, vI z2)]) C 4 dX6_solve_37 rfl (by decide) (fun _ => rfl) h (fun x2 hx2 h => ?_)
      refine o_goto (tgt := 5) C dX6_solve_40 (by decide) ?_
      exact WM.sub [2, 3, 4, 1, 0] rfl (ih z2 hz2 x1 hx1 x2 hx2 μ hμ h)
def f_X6_solve (t : Nat) (a1 : Nat) (z2 : Int) (μ : GM) : Option (Int × GM) :=
  k_X6_solve_5 t a1 FU z2 0 0 μ
set_option maxHeartbeats 4000000 in
set_option maxRecDepth 100000 in
theorem w_X6_solve_0 {G : GX} {u : Int × GM} (C : CX G 0 cX6_solve 6 RX6) (hQ : gQL G (some .long) u) {t : Nat} (ht : gRt t) {a1 : Nat} (ha1 : gKT[a1]? = some (2, 36, 0, [])) {z2 : Int} (hz2 : r32 z2) {μ : GM} (hμ : gRg μ) (h : f_X6_solve t a1 z2 μ = some u) : WM G 6 μ 0 [(0, gR G t), (1, gR G a1), (2, vI z2)] [] := by
  unfold f_X6_solve at h
  refine o_lconst (v := 0) C dX6_solve_0 rfl ?_
  refine o_lstore_n (lv2 := [(3, vJ 0), (0, gR G t), (1, gR G a1), (2, vI z2)]) C dX6_solve_1 rfl (by decide) rfl ?_
  refine o_iconst C dX6_solve_2 ?_
  refine o_istore (lv2 := [(5, vI 0), (3, vJ 0), (0, gR G t), (1, gR G a1), (2, vI z2)]) C dX6_solve_3 (by decide) rfl ?_
  exact WM.sub [2, 3, 4, 1, 0] rfl (w_X6_solve_5 C hQ ht ha1 FU z2 hz2 0 ⟨by decide, by decide⟩ 0 ⟨by decide, by decide⟩ μ hμ h)
theorem c_X6_solve {t : Nat} (ht : gRt t) {a1 : Nat} (ha1 : gKT[a1]? = some (2, 36, 0, [])) {z2 : Int} (hz2 : r32 z2) {μ : GM} (hμ : gRg μ) {u : Int × GM} (h : f_X6_solve t a1 z2 μ = some u) : MtL 0 yX6_solve cX6_solve 6 (some .long) (fun ad => [.ref (ad t), .ref (ad a1), vI z2]) μ u := MtL.of pf_X6_solve (fun _ => Nat.le_of_ble_eq_true rfl) (fun G C hQ => w_X6_solve_0 C hQ ht ha1 hz2 hμ h)
