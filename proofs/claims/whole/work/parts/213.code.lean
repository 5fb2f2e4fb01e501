def k_X12_lay_360 : Nat → Int → GM → Option (Int × GM)
  | 0, _, _ => none
  | n + 1, z2, μ =>
    if z2 < (μ.2 53 18) then
      ck (0 ≤ z2 ∧ z2 < 3) (
      ck (0 ≤ (μ.1 67 z2) ∧ (μ.1 67 z2) < 6) (
      ck (0 ≤ z2 ∧ z2 < 3) (
      ck (0 ≤ (μ.1 67 z2) ∧ (μ.1 67 z2) < 6) (lm (gA μ 75 (μ.1 67 z2) (w64 ((μ.1 75 (μ.1 67 z2)) - (μ.1 73 z2)))) fun μ1 =>
      lt (w32 (z2 + 1)) fun x2 =>
      k_X12_lay_360 n x2 μ1))))
    else
      some (0, μ)
set_option maxHeartbeats 4000000 in
set_option maxRecDepth 100000 in
theorem w_X12_lay_360 {G : GX} {u : Int × GM} (C : CX G 0 cX12_lay 5 RX12) (hQ : gQV G none u) : ∀ (n : Nat) (z2 : Int) (hz2 : r32 z2) (μ : GM) (hμ : gRg μ), k_X12_lay_360 n z2 μ = some u → WM G 5 μ 360 [(0, gR G 53), (2, vI z2)] [] := by
  intro n
  induction n with
  | zero =>
    intro z2 hz2 μ hμ h
    cases h
  | succ n ih =>
    intro z2 hz2 μ hμ h
    rw [k_X12_lay_360] at h
    refine o_iload_n C 1 dX12_lay_360 rfl rfl ?_
    refine o_aload_n C 0 dX12_lay_361 rfl rfl ?_
    refine o_getI (j := 18) C kt_53 rfl rfl (Nat.le_of_ble_eq_true rfl) lkf_RX12_144 dX12_lay_362 ?_
    refine o_icmp_ge (tgt := 395) C hz2 (hμ.fi kt_53 rfl (by decide)) dX12_lay_365 (by decide) h (fun _ h => ?_) (fun _ h => ?_)
    · exact o_vret C hQ dX12_lay_395 h hμ
    · refine o_aload_n C 0 dX12_lay_368 rfl rfl ?_
      refine o_getR (j := 29) C kt_53 rfl rfl (Nat.le_of_ble_eq_true rfl) lkf_RX12_74 dX12_lay_369 ?_
      refine o_aload_n C 0 dX12_lay_372 rfl rfl ?_
      refine o_getR (j := 19) C kt_53 rfl rfl (Nat.le_of_ble_eq_true rfl) lkf_RX12_49 dX12_lay_373 ?_
      refine o_iload_n C 1 dX12_lay_376 rfl rfl ?_
      refine o_iald C kt_67 rfl hz2 dX12_lay_377 h (fun h => ?_)
      refine o_dup2ri C dX12_lay_378 ?_
      refine o_lald C kt_75 rfl (hμ.i kt_67 (by decide) _) dX12_lay_379 h (fun h => ?_)
      refine o_aload_n C 0 dX12_lay_380 rfl rfl ?_
      refine o_getR (j := 27) C kt_53 rfl rfl (Nat.le_of_ble_eq_true rfl) lkf_RX12_68 dX12_lay_381 ?_
      refine o_iload_n C 1 dX12_lay_384 rfl rfl ?_
      refine o_iald C kt_73 rfl hz2 dX12_lay_385 h (fun h => ?_)
      refine o_i2l C (hμ.i kt_73 (by decide) _) dX12_lay_386 ?_
      refine o_lsub C dX12_lay_387 ?_
      refine o_last C kt_75 rfl (hμ.i kt_67 (by decide) _) (r64_w _) hμ dX12_lay_388 h (fun μ1 hμ1 h => ?_)
      refine o_iinc (lv2 := fun x2 => [(2, vI x2), (0, gR G 53)]) C 1 dX12_lay_389 rfl (by decide) (fun _ => rfl) h (fun x2 hx2 h => ?_)
      refine o_goto (tgt := 360) C dX12_lay_392 (by decide) ?_
      exact WM.sub [1, 0] rfl (ih x2 hx2 μ1 hμ1 h)
def k_X12_lay_281 : Nat → Int → Int → GM → Option (Int × GM)
  | 0, _, _, _ => none
  | n + 1, z1, z2, μ =>
    if z2 < (μ.2 53 14) then
      if (gand (gshr z1 (w32 (z2 + 3))) 1) = 1 then
        ck (0 ≤ z2 ∧ z2 < 2) (
        ck (0 ≤ (w32 (7 * (μ.1 64 z2))) ∧ (w32 (7 * (μ.1 64 z2))) < 36) (
        ck (0 ≤ z2 ∧ z2 < 2) (
        ck (0 ≤ (w32 (7 * (μ.1 64 z2))) ∧ (w32 (7 * (μ.1 64 z2))) < 36) (lm (gA μ 74 (w32 (7 * (μ.1 64 z2))) (w64 ((μ.1 74 (w32 (7 * (μ.1 64 z2)))) + (μ.1 66 z2)))) fun μ2 =>
        ck (0 ≤ z2 ∧ z2 < 2) (
        ck (0 ≤ (μ2.1 64 z2) ∧ (μ2.1 64 z2) < 6) (
        ck (0 ≤ z2 ∧ z2 < 2) (
        ck (0 ≤ z2 ∧ z2 < 2) (
        ck (0 ≤ (μ2.1 64 z2) ∧ (μ2.1 64 z2) < 6) (lm (gA μ2 75 (μ2.1 64 z2) (w64 ((μ2.1 75 (μ2.1 64 z2)) + (w32 ((μ2.1 66 z2) * (μ2.1 65 z2)))))) fun μ3 =>
        lt (w32 (z2 + 1)) fun x4 =>
        k_X12_lay_281 n z1 x4 μ3)))))))))
      else
        lt (w32 (z2 + 1)) fun x1 =>
        k_X12_lay_281 n z1 x1 μ
    else
      k_X12_lay_360 FU 0 μ
set_option maxHeartbeats 4000000 in
set_option maxRecDepth 100000 in
theorem w_X12_lay_281 {G : GX} {u : Int × GM} (C : CX G 0 cX12_lay 5 RX12) (hQ : gQV G none u) : ∀ (n : Nat) (z1 : Int) (hz1 : r32 z1) (z2 : Int) (hz2 : r32 z2) (μ : GM) (hμ : gRg μ), k_X12_lay_281 n z1 z2 μ = some u → WM G 5 μ 281 [(0, gR G 53), (1, vI z1), (2, vI z2)] [] := by
  intro n
  induction n with
  | zero =>
    intro z1 hz1 z2 hz2 μ hμ h
    cases h
  | succ n ih =>
    intro z1 hz1 z2 hz2 μ hμ h
    rw [k_X12_lay_281] at h
    refine o_iload_n C 2 dX12_lay_281 rfl rfl ?_
    refine o_aload_n C 0 dX12_lay_282 rfl rfl ?_
    refine o_getI (j := 14) C kt_53 rfl rfl (Nat.le_of_ble_eq_true rfl) lkf_RX12_172 dX12_lay_283 ?_
    refine o_icmp_ge (tgt := 358) C hz2 (hμ.fi kt_53 rfl (by decide)) dX12_lay_286 (by decide) h (fun _ h => ?_) (fun _ h => ?_)
    · refine o_iconst C dX12_lay_358 ?_
      refine o_istore_n (lv2 := [(2, vI 0), (0, gR G 53), (1, vI z1)]) C dX12_lay_359 rfl (by decide) rfl ?_
      exact WM.sub [1, 0] rfl (w_X12_lay_360 C hQ FU 0 ⟨by decide, by decide⟩ μ hμ h)
    · refine o_iload_n C 1 dX12_lay_289 rfl rfl ?_
      refine o_iload_n C 2 dX12_lay_290 rfl rfl ?_
      refine o_iconst C dX12_lay_291 ?_
      refine o_iadd C dX12_lay_292 ?_
      refine o_ishr C dX12_lay_293 ?_
      refine o_iconst C dX12_lay_294 ?_
      refine o_iand C dX12_lay_295 ?_
      refine o_iconst C dX12_lay_296 ?_
      refine o_icmp_ne (tgt := 352) C (r32_toInt _) ⟨by decide, by decide⟩ dX12_lay_297 (by decide) h (fun _ h => ?_) (fun _ h => ?_)
      · refine o_iinc (lv2 := fun x1 => [(2, vI x1), (0, gR G 53), (1, vI z1)]) C 2 dX12_lay_352 rfl (by decide) (fun _ => rfl) h (fun x1 hx1 h => ?_)
        refine o_goto (tgt := 281) C dX12_lay_355 (by decide) ?_
        exact WM.sub [1, 2, 0] rfl (ih z1 hz1 x1 hx1 μ hμ h)
      · refine o_aload_n C 0 dX12_lay_300 rfl rfl ?_
        refine o_getR (j := 28) C kt_53 rfl rfl (Nat.le_of_ble_eq_true rfl) lkf_RX12_71 dX12_lay_301 ?_
        refine o_bipush (v := 7) C dX12_lay_304 (by decide) ?_
        refine o_aload_n C 0 dX12_lay_306 rfl rfl ?_
        refine o_getR (j := 15) C kt_53 rfl rfl (Nat.le_of_ble_eq_true rfl) lkf_RX12_40 dX12_lay_307 ?_
        refine o_iload_n C 2 dX12_lay_310 rfl rfl ?_
        refine o_iald C kt_64 rfl hz2 dX12_lay_311 h (fun h => ?_)
        refine o_imul C dX12_lay_312 ?_
        refine o_dup2ri C dX12_lay_313 ?_
        refine o_lald C kt_74 rfl (r32_w _) dX12_lay_314 h (fun h => ?_)
        refine o_aload_n C 0 dX12_lay_315 rfl rfl ?_
        refine o_getR (j := 17) C kt_53 rfl rfl (Nat.le_of_ble_eq_true rfl) lkf_RX12_46 dX12_lay_316 ?_
        refine o_iload_n C 2 dX12_lay_319 rfl rfl ?_
        refine o_iald C kt_66 rfl hz2 dX12_lay_320 h (fun h => ?_)
        refine o_i2l C (hμ.i kt_66 (by decide) _) dX12_lay_321 ?_
        refine o_ladd C dX12_lay_322 ?_
        refine o_last C kt_74 rfl (r32_w _) (r64_w _) hμ dX12_lay_323 h (fun μ2 hμ2 h => ?_)
        refine o_aload_n C 0 dX12_lay_324 rfl rfl ?_
        refine o_getR (j := 29) C kt_53 rfl rfl (Nat.le_of_ble_eq_true rfl) lkf_RX12_74 dX12_lay_325 ?_
        refine o_aload_n C 0 dX12_lay_328 rfl rfl ?_
        refine o_getR (j := 15) C kt_53 rfl rfl (Nat.le_of_ble_eq_true rfl) lkf_RX12_40 dX12_lay_329 ?_
        refine o_iload_n C 2 dX12_lay_332 rfl rfl ?_
        refine o_iald C kt_64 rfl hz2 dX12_lay_333 h (fun h => ?_)
        refine o_dup2ri C dX12_lay_334 ?_
        refine o_lald C kt_75 rfl (hμ2.i kt_64 (by decide) _) dX12_lay_335 h (fun h => ?_)
        refine o_aload_n C 0 dX12_lay_336 rfl rfl ?_
        refine o_getR (j := 17) C kt_53 rfl rfl (Nat.le_of_ble_eq_true rfl) lkf_RX12_46 dX12_lay_337 ?_
        refine o_iload_n C 2 dX12_lay_340 rfl rfl ?_
        refine o_iald C kt_66 rfl hz2 dX12_lay_341 h (fun h => ?_)
        refine o_aload_n C 0 dX12_lay_342 rfl rfl ?_
        refine o_getR (j := 16) C kt_53 rfl rfl (Nat.le_of_ble_eq_true rfl) lkf_RX12_43 dX12_lay_343 ?_
        refine o_iload_n C 2 dX12_lay_346 rfl rfl ?_
        refine o_iald C kt_65 rfl hz2 dX12_lay_347 h (fun h => ?_)
        refine o_imul C dX12_lay_348 ?_
        refine o_i2l C (r32_w _) dX12_lay_349 ?_
        refine o_ladd C dX12_lay_350 ?_
        refine o_last C kt_75 rfl (hμ2.i kt_64 (by decide) _) (r64_w _) hμ2 dX12_lay_351 h (fun μ3 hμ3 h => ?_)
        refine o_iinc (lv2 := fun x4 => [(2, vI x4), (0, gR G 53), (1, vI z1)]) C 2 dX12_lay_352 rfl (by decide) (fun _ => rfl) h (fun x4 hx4 h => ?_)
        refine o_goto (tgt := 281) C dX12_lay_355 (by decide) ?_
        exact WM.sub [1, 2, 0] rfl (ih z1 hz1 x4 hx4 μ3 hμ3 h)
def k_X12_lay_166 : Nat → Int → Int → GM → Option (Int × GM)
  | 0, _, _, _ => none
  | n + 1, z1, z2, μ =>
    if z2 < (μ.2 53 9) then
      if (gand (gshr z1 z2) 1) = 1 then
        ck (0 ≤ z2 ∧ z2 < 3) (
        ck (0 ≤ (w32 (7 * (μ.1 60 z2))) ∧ (w32 (7 * (μ.1 60 z2))) < 36) (
        ck (0 ≤ z2 ∧ z2 < 3) (
        ck (0 ≤ (w32 (7 * (μ.1 60 z2))) ∧ (w32 (7 * (μ.1 60 z2))) < 36) (lm (gA μ 74 (w32 (7 * (μ.1 60 z2))) (w64 ((μ.1 74 (w32 (7 * (μ.1 60 z2)))) + (μ.1 63 z2)))) fun μ3 =>
        ck (0 ≤ z2 ∧ z2 < 3) (
        ck (0 ≤ (μ3.1 60 z2) ∧ (μ3.1 60 z2) < 6) (
        ck (0 ≤ z2 ∧ z2 < 3) (
        ck (0 ≤ z2 ∧ z2 < 3) (
        ck (0 ≤ (μ3.1 60 z2) ∧ (μ3.1 60 z2) < 6) (lm (gA μ3 75 (μ3.1 60 z2) (w64 ((μ3.1 75 (μ3.1 60 z2)) + (w32 ((μ3.1 63 z2) * (μ3.1 61 z2)))))) fun μ4 =>
        lt (w32 (z2 + 1)) fun x5 =>
        k_X12_lay_166 n z1 x5 μ4)))))))))
      else
        ck (0 ≤ z2 ∧ z2 < 3) (
        ck (0 ≤ (μ.1 60 z2) ∧ (μ.1 60 z2) < 6) (
        ck (0 ≤ z2 ∧ z2 < 3) (
        ck (0 ≤ z2 ∧ z2 < 3) (
        ck (0 ≤ z2 ∧ z2 < 3) (
        ck (0 ≤ (μ.1 60 z2) ∧ (μ.1 60 z2) < 6) (lm (gA μ 75 (μ.1 60 z2) (w64 ((μ.1 75 (μ.1 60 z2)) + (w32 ((μ.1 63 z2) * (w32 ((μ.1 61 z2) - (μ.1 62 z2)))))))) fun μ1 =>
        lt (w32 (z2 + 1)) fun x2 =>
        k_X12_lay_166 n z1 x2 μ1))))))
    else
      k_X12_lay_281 FU z1 0 μ
set_option maxHeartbeats 4000000 in
set_option maxRecDepth 100000 in
theorem w_X12_lay_166 {G : GX} {u : Int × GM} (C : CX G 0 cX12_lay 5 RX12) (hQ : gQV G none u) : ∀ (n : Nat) (z1 : Int) (hz1 : r32 z1) (z2 : Int) (hz2 : r32 z2) (μ : GM) (hμ : gRg μ), k_X12_lay_166 n z1 z2 μ = some u → WM G 5 μ 166 [(0, gR G 53), (1, vI z1), (2, vI z2)] [] := by
  intro n
  induction n with
  | zero =>
    intro z1 hz1 z2 hz2 μ hμ h
    cases h
  | succ n ih =>
    intro z1 hz1 z2 hz2 μ hμ h
    rw [k_X12_lay_166] at h
    refine o_iload_n C 2 dX12_lay_166 rfl rfl ?_
    refine o_aload_n C 0 dX12_lay_167 rfl rfl ?_
    refine o_getI (j := 9) C kt_53 rfl rfl (Nat.le_of_ble_eq_true rfl) lkf_RX12_169 dX12_lay_168 ?_
    refine o_icmp_ge (tgt := 279) C hz2 (hμ.fi kt_53 rfl (by decide)) dX12_lay_171 (by decide) h (fun _ h => ?_) (fun _ h => ?_)
    · refine o_iconst C dX12_lay_279 ?_
      refine o_istore_n (lv2 := [(2, vI 0), (0, gR G 53), (1, vI z1)]) C dX12_lay_280 rfl (by decide) rfl ?_
      exact WM.sub [1, 2, 0] rfl (w_X12_lay_281 C hQ FU z1 hz1 0 ⟨by decide, by decide⟩ μ hμ h)
    · refine o_iload_n C 1 dX12_lay_174 rfl rfl ?_
      refine o_iload_n C 2 dX12_lay_175 rfl rfl ?_
      refine o_ishr C dX12_lay_176 ?_
      refine o_iconst C dX12_lay_177 ?_
      refine o_iand C dX12_lay_178 ?_
      refine o_iconst C dX12_lay_179 ?_
      refine o_icmp_ne (tgt := 238) C (r32_toInt _) ⟨by decide, by decide⟩ dX12_lay_180 (by decide) h (fun _ h => ?_) (fun _ h => ?_)
      · refine o_aload_n C 0 dX12_lay_238 rfl rfl ?_
        refine o_getR (j := 29) C kt_53 rfl rfl (Nat.le_of_ble_eq_true rfl) lkf_RX12_74 dX12_lay_239 ?_
        refine o_aload_n C 0 dX12_lay_242 rfl rfl ?_
        refine o_getR (j := 10) C kt_53 rfl rfl (Nat.le_of_ble_eq_true rfl) lkf_RX12_28 dX12_lay_243 ?_
        refine o_iload_n C 2 dX12_lay_246 rfl rfl ?_
        refine o_iald C kt_60 rfl hz2 dX12_lay_247 h (fun h => ?_)
        refine o_dup2ri C dX12_lay_248 ?_
        refine o_lald C kt_75 rfl (hμ.i kt_60 (by decide) _) dX12_lay_249 h (fun h => ?_)
        refine o_aload_n C 0 dX12_lay_250 rfl rfl ?_
        refine o_getR (j := 13) C kt_53 rfl rfl (Nat.le_of_ble_eq_true rfl) lkf_RX12_37 dX12_lay_251 ?_
        refine o_iload_n C 2 dX12_lay_254 rfl rfl ?_
        refine o_iald C kt_63 rfl hz2 dX12_lay_255 h (fun h => ?_)
        refine o_aload_n C 0 dX12_lay_256 rfl rfl ?_
        refine o_getR (j := 11) C kt_53 rfl rfl (Nat.le_of_ble_eq_true rfl) lkf_RX12_31 dX12_lay_257 ?_
        refine o_iload_n C 2 dX12_lay_260 rfl rfl ?_
        refine o_iald C kt_61 rfl hz2 dX12_lay_261 h (fun h => ?_)
        refine o_aload_n C 0 dX12_lay_262 rfl rfl ?_
        refine o_getR (j := 12) C kt_53 rfl rfl (Nat.le_of_ble_eq_true rfl) lkf_RX12_34 dX12_lay_263 ?_
        refine o_iload_n C 2 dX12_lay_266 rfl rfl ?_
        refine o_iald C kt_62 rfl hz2 dX12_lay_267 h (fun h => ?_)
        refine o_isub C dX12_lay_268 ?_
        refine o_imul C dX12_lay_269 ?_
        refine o_i2l C (r32_w _) dX12_lay_270 ?_
        refine o_ladd C dX12_lay_271 ?_
        refine o_last C kt_75 rfl (hμ.i kt_60 (by decide) _) (r64_w _) hμ dX12_lay_272 h (fun μ1 hμ1 h => ?_)
        refine o_iinc (lv2 := fun x2 => [(2, vI x2), (0, gR G 53), (1, vI z1)]) C 2 dX12_lay_273 rfl (by decide) (fun _ => rfl) h (fun x2 hx2 h => ?_)
        refine o_goto (tgt := 166) C dX12_lay_276 (by decide) ?_
        exact WM.sub [1, 2, 0] rfl (ih z1 hz1 x2 hx2 μ1 hμ1 h)
      · refine o_aload_n C 0 dX12_lay_183 rfl rfl ?_
        refine o_getR (j := 28) C kt_53 rfl rfl (Nat.le_of_ble_eq_true rfl) lkf_RX12_71 dX12_lay_184 ?_
        refine o_bipush (v := 7) C dX12_lay_187 (by decide) ?_
        refine o_aload_n C 0 dX12_lay_189 rfl rfl ?_
        refine o_getR (j := 10) C kt_53 rfl rfl (Nat.le_of_ble_eq_true rfl) lkf_RX12_28 dX12_lay_190 ?_
        refine o_iload_n C 2 dX12_lay_193 rfl rfl ?_
        refine o_iald C kt_60 rfl hz2 dX12_lay_194 h (fun h => ?_)
        refine o_imul C dX12_lay_195 ?_
        refine o_dup2ri C dX12_lay_196 ?_
        refine o_lald C kt_74 rfl (r32_w _) dX12_lay_197 h (fun h => ?_)
        refine o_aload_n C 0 dX12_lay_198 rfl rfl ?_
        refine o_getR (j := 13) C kt_53 rfl rfl (Nat.le_of_ble_eq_true rfl) lkf_RX12_37 dX12_lay_199 ?_
        refine o_iload_n C 2 dX12_lay_202 rfl rfl ?_
        refine o_iald C kt_63 rfl hz2 dX12_lay_203 h (fun h => ?_)
        refine o_i2l C (hμ.i kt_63 (by decide) _) dX12_lay_204 ?_
        refine o_ladd C dX12_lay_205 ?_
        refine o_last C kt_74 rfl (r32_w _) (r64_w _) hμ dX12_lay_206 h (fun μ3 hμ3 h => ?_)
        refine o_aload_n C 0 dX12_lay_207 rfl rfl ?_
        refine o_getR (j := 29) C kt_53 rfl rfl (Nat.le_of_ble_eq_true rfl) lkf_RX12_74 dX12_lay_208 ?_
        refine o_aload_n C 0 dX12_lay_211 rfl rfl ?_
        refine o_getR (j := 10) C kt_53 rfl rfl (Nat.le_of_ble_eq_true rfl) lkf_RX12_28 dX12_lay_212 ?_
        refine o_iload_n C 2 dX12_lay_215 rfl rfl ?_
        refine o_iald C kt_60 rfl hz2 dX12_lay_216 h (fun h => ?_)
        refine o_dup2ri C dX12_lay_217 ?_
        refine o_lald C kt_75 rfl (hμ3.i kt_60 (by decide) _) dX12_lay_218 h (fun h => ?_)
        refine o_aload_n C 0 dX12_lay_219 rfl rfl ?_
        refine o_getR (j := 13) C kt_53 rfl rfl (Nat.le_of_ble_eq_true rfl) lkf_RX12_37 dX12_lay_220 ?_
        refine o_iload_n C 2 dX12_lay_223 rfl rfl ?_
        refine o_iald C kt_63 rfl hz2 dX12_lay_224 h (fun h => ?_)
        refine o_aload_n C 0 dX12_lay_225 rfl rfl ?_
        refine o_getR (j := 11) C kt_53 rfl rfl (Nat.le_of_ble_eq_true rfl) lkf_RX12_31 dX12_lay_226 ?_
        refine o_iload_n C 2 dX12_lay_229 rfl rfl ?_
        refine o_iald C kt_61 rfl hz2 dX12_lay_230 h (fun h => ?_)
        refine o_imul C dX12_lay_231 ?_
        refine o_i2l C (r32_w _) dX12_lay_232 ?_
        refine o_ladd C dX12_lay_233 ?_
        refine o_last C kt_75 rfl (hμ3.i kt_60 (by decide) _) (r64_w _) hμ3 dX12_lay_234 h (fun μ4 hμ4 h => ?_)
        refine o_goto (tgt := 273) C dX12_lay_235 (by decide) ?_
        refine o_iinc (lv2 := fun x5 => [(2, vI x5), (0, gR G 53), (1, vI z1)]) C 2 dX12_lay_273 rfl (by decide) (fun _ => rfl) h (fun x5 hx5 h => ?_)
        refine o_goto (tgt := 166) C dX12_lay_276 (by decide) ?_
        exact WM.sub [1, 2, 0] rfl (ih z1 hz1 x5 hx5 μ4 hμ4 h)
def k_X12_lay_52 : Nat → Int → Int → GM → Option (Int × GM)
  | 0, _, _, _ => none
  | n + 1, z1, z2, μ =>
    if z2 < (μ.2 53 5) then
      ck (0 ≤ z2 ∧ z2 < 12) (
      lt (μ.1 57 z2) fun x1 =>
      ck (0 ≤ z2 ∧ z2 < 12) (
      lt (μ.1 58 z2) fun x2 =>
      ck (0 ≤ (w32 (7 * x1)) ∧ (w32 (7 * x1)) < 36) (
      ck (0 ≤ z2 ∧ z2 < 12) (
      ck (0 ≤ (w32 (7 * x1)) ∧ (w32 (7 * x1)) < 36) (lm (gA μ 74 (w32 (7 * x1)) (w64 ((μ.1 74 (w32 (7 * x1))) + (μ.1 72 z2)))) fun μ3 =>
      ck (0 ≤ (w32 (7 * x2)) ∧ (w32 (7 * x2)) < 36) (
      ck (0 ≤ z2 ∧ z2 < 12) (
      ck (0 ≤ (w32 (7 * x2)) ∧ (w32 (7 * x2)) < 36) (lm (gA μ3 74 (w32 (7 * x2)) (w64 ((μ3.1 74 (w32 (7 * x2))) + (μ3.1 72 z2)))) fun μ4 =>
      ck (0 ≤ (w32 ((w32 (6 * x1)) + x2)) ∧ (w32 ((w32 (6 * x1)) + x2)) < 36) (
      ck (0 ≤ z2 ∧ z2 < 12) (
      ck (0 ≤ (w32 ((w32 (6 * x1)) + x2)) ∧ (w32 ((w32 (6 * x1)) + x2)) < 36) (lm (gA μ4 74 (w32 ((w32 (6 * x1)) + x2)) (w64 ((μ4.1 74 (w32 ((w32 (6 * x1)) + x2))) - (μ4.1 72 z2)))) fun μ5 =>
      ck (0 ≤ (w32 ((w32 (6 * x2)) + x1)) ∧ (w32 ((w32 (6 * x2)) + x1)) < 36) (
      ck (0 ≤ z2 ∧ z2 < 12) (
      ck (0 ≤ (w32 ((w32 (6 * x2)) + x1)) ∧ (w32 ((w32 (6 * x2)) + x1)) < 36) (lm (gA μ5 74 (w32 ((w32 (6 * x2)) + x1)) (w64 ((μ5.1 74 (w32 ((w32 (6 * x2)) + x1))) - (μ5.1 72 z2)))) fun μ6 =>
      lt (w32 (z2 + 1)) fun x7 =>
      k_X12_lay_52 n z1 x7 μ6))))))))))))))
    else
      k_X12_lay_166 FU z1 0 μ
set_option maxHeartbeats 4000000 in
set_option maxRecDepth 100000 in
theorem w_X12_lay_52 {G : GX} {u : Int × GM} (C : CX G 0 cX12_lay 5 RX12) (hQ : gQV G none u) : ∀ (n : Nat) (z1 : Int) (hz1 : r32 z1) (z2 : Int) (hz2 : r32 z2) (μ : GM) (hμ : gRg μ), k_X12_lay_52 n z1 z2 μ = some u → WM G 5 μ 52 [(0, gR G 53), (1, vI z1), (2, vI z2)] [] := by
  intro n
  induction n with
  | zero =>
    intro z1 hz1 z2 hz2 μ hμ h
    cases h
  | succ n ih =>
    intro z1 hz1 z2 hz2 μ hμ h
    rw [k_X12_lay_52] at h
    refine o_iload_n C 2 dX12_lay_52 rfl rfl ?_
    refine o_aload_n C 0 dX12_lay_53 rfl rfl ?_
    refine o_getI (j := 5) C kt_53 rfl rfl (Nat.le_of_ble_eq_true rfl) lkf_RX12_164 dX12_lay_54 ?_
    refine o_icmp_ge (tgt := 164) C hz2 (hμ.fi kt_53 rfl (by decide)) dX12_lay_57 (by decide) h (fun _ h => ?_) (fun _ h => ?_)
    · refine o_iconst C dX12_lay_164 ?_
      refine o_istore_n (lv2 := [(2, vI 0), (0, gR G 53), (1, vI z1)]) C dX12_lay_165 rfl (by decide) rfl ?_
      exact WM.sub [1, 2, 0] rfl (w_X12_lay_166 C hQ FU z1 hz1 0 ⟨by decide, by decide⟩ μ hμ h)
    · refine o_aload_n C 0 dX12_lay_60 rfl rfl ?_
      refine o_getR (j := 6) C kt_53 rfl rfl (Nat.le_of_ble_eq_true rfl) lkf_RX12_19 dX12_lay_61 ?_
      refine o_iload_n C 2 dX12_lay_64 rfl rfl ?_
      refine o_iald C kt_57 rfl hz2 dX12_lay_65 h (fun h => ?_)
      refine o_lt h (hμ.i kt_57 (by decide) _) (fun x1 hx1 h => ?_)
      refine o_istore_n (lv2 := [(3, vI x1), (0, gR G 53), (1, vI z1), (2, vI z2)]) C dX12_lay_66 rfl (by decide) rfl ?_
      refine o_aload_n C 1 dX12_lay_67 rfl rfl ?_
      refine o_getR (j := 7) C kt_53 rfl rfl (Nat.le_of_ble_eq_true rfl) lkf_RX12_22 dX12_lay_68 ?_
      refine o_iload_n C 3 dX12_lay_71 rfl rfl ?_
      refine o_iald C kt_58 rfl hz2 dX12_lay_72 h (fun h => ?_)
      refine o_lt h (hμ.i kt_58 (by decide) _) (fun x2 hx2 h => ?_)
      refine o_istore (lv2 := [(4, vI x2), (3, vI x1), (0, gR G 53), (1, vI z1), (2, vI z2)]) C dX12_lay_73 (by decide) rfl ?_
      refine o_aload_n C 2 dX12_lay_75 rfl rfl ?_
      refine o_getR (j := 28) C kt_53 rfl rfl (Nat.le_of_ble_eq_true rfl) lkf_RX12_71 dX12_lay_76 ?_
      refine o_bipush (v := 7) C dX12_lay_79 (by decide) ?_
      refine o_iload_n C 1 dX12_lay_81 rfl rfl ?_
      refine o_imul C dX12_lay_82 ?_
      refine o_dup2ri C dX12_lay_83 ?_
      refine o_lald C kt_74 rfl (r32_w _) dX12_lay_84 h (fun h => ?_)
      refine o_aload_n C 2 dX12_lay_85 rfl rfl ?_
      refine o_getR (j := 26) C kt_53 rfl rfl (Nat.le_of_ble_eq_true rfl) lkf_RX12_65 dX12_lay_86 ?_
      refine o_iload_n C 4 dX12_lay_89 rfl rfl ?_
      refine o_iald C kt_72 rfl hz2 dX12_lay_90 h (fun h => ?_)
      refine o_i2l C (hμ.i kt_72 (by decide) _) dX12_lay_91 ?_
      refine o_ladd C dX12_lay_92 ?_
      refine o_last C kt_74 rfl (r32_w _) (r64_w _) hμ dX12_lay_93 h (fun μ3 hμ3 h => ?_)
      refine o_aload_n C 2 dX12_lay_94 rfl rfl ?_
      refine o_getR (j := 28) C kt_53 rfl rfl (Nat.le_of_ble_eq_true rfl) lkf_RX12_71 dX12_lay_95 ?_
      refine o_bipush (v := 7) C dX12_lay_98 (by decide) ?_
      refine o_iload C 0 dX12_lay_100 rfl ?_
      refine o_imul C dX12_lay_102 ?_
      refine o_dup2ri C dX12_lay_103 ?_
      refine o_lald C kt_74 rfl (r32_w _) dX12_lay_104 h (fun h => ?_)
      refine o_aload_n C 2 dX12_lay_105 rfl rfl ?_
      refine o_getR (j := 26) C kt_53 rfl rfl (Nat.le_of_ble_eq_true rfl) lkf_RX12_65 dX12_lay_106 ?_
      refine o_iload_n C 4 dX12_lay_109 rfl rfl ?_
      refine o_iald C kt_72 rfl hz2 dX12_lay_110 h (fun h => ?_)
      refine o_i2l C (hμ3.i kt_72 (by decide) _) dX12_lay_111 ?_
      refine o_ladd C dX12_lay_112 ?_
      refine o_last C kt_74 rfl (r32_w _) (r64_w _) hμ3 dX12_lay_113 h (fun μ4 hμ4 h => ?_)
      refine o_aload_n C 2 dX12_lay_114 rfl rfl ?_
      refine o_getR (j := 28) C kt_53 rfl rfl (Nat.le_of_ble_eq_true rfl) lkf_RX12_71 dX12_lay_115 ?_
      refine o_bipush (v := 6) C dX12_lay_118 (by decide) ?_
      refine o_iload_n C 1 dX12_lay_120 rfl rfl ?_
      refine o_imul C dX12_lay_121 ?_
      refine o_iload C 0 dX12_lay_122 rfl ?_
      refine o_iadd C dX12_lay_124 ?_
      refine o_dup2ri C dX12_lay_125 ?_
      refine o_lald C kt_74 rfl (r32_w _) dX12_lay_126 h (fun h => ?_)
      refine o_aload_n C 2 dX12_lay_127 rfl rfl ?_
      refine o_getR (j := 26) C kt_53 rfl rfl (Nat.le_of_ble_eq_true rfl) lkf_RX12_65 dX12_lay_128 ?_
      refine o_iload_n C 4 dX12_lay_131 rfl rfl ?_
      refine o_iald C kt_72 rfl hz2 dX12_lay_132 h (fun h => ?_)
      refine o_i2l C (hμ4.i kt_72 (by decide) _) dX12_lay_133 ?_
      refine o_lsub C dX12_lay_134 ?_
      refine o_last C kt_74 rfl (r32_w _) (r64_w _) hμ4 dX12_lay_135 h (fun μ5 hμ5 h => ?_)
      refine o_aload_n C 2 dX12_lay_136 rfl rfl ?_
      refine o_getR (j := 28) C kt_53 rfl rfl (Nat.le_of_ble_eq_true rfl) lkf_RX12_71 dX12_lay_137 ?_
      refine o_bipush (v := 6) C dX12_lay_140 (by decide) ?_
      refine o_iload C 0 dX12_lay_142 rfl ?_
      refine o_imul C dX12_lay_144 ?_
      refine o_iload_n C 1 dX12_lay_145 rfl rfl ?_
      refine o_iadd C dX12_lay_146 ?_
      refine o_dup2ri C dX12_lay_147 ?_
      refine o_lald C kt_74 rfl (r32_w _) dX12_lay_148 h (fun h => ?_)
      refine o_aload_n C 2 dX12_lay_149 rfl rfl ?_
      refine o_getR (j := 26) C kt_53 rfl rfl (Nat.le_of_ble_eq_true rfl) lkf_RX12_65 dX12_lay_150 ?_
      refine o_iload_n C 4 dX12_lay_153 rfl rfl ?_
      refine o_iald C kt_72 rfl hz2 dX12_lay_154 h (fun h => ?_)
      refine o_i2l C (hμ5.i kt_72 (by decide) _) dX12_lay_155 ?_
      refine o_lsub C dX12_lay_156 ?_
      refine o_last C kt_74 rfl (r32_w _) (r64_w _) hμ5 dX12_lay_157 h (fun μ6 hμ6 h => ?_)
      refine o_iinc (lv2 := fun x7 => [(2, vI x7), (4, vI x2), (3, vI x1), (0, gR G 53), (1, vI z1)]) C 4 dX12_lay_158 rfl (by decide) (fun _ => rfl) h (fun x7 hx7 h => ?_)
      refine o_goto (tgt := 52) C dX12_lay_161 (by decide) ?_
      exact WM.sub [3, 4, 0] rfl (ih z1 hz1 x7 hx7 μ6 hμ6 h)
def k_X12_lay_23 : Nat → Int → Int → GM → Option (Int × GM)
  | 0, _, _, _ => none
  | n + 1, z1, z2, μ =>
    if z2 < (μ.2 53 1) then
      ck (0 ≤ z2 ∧ z2 < 6) (
      ck (0 ≤ z2 ∧ z2 < 6) (lm (gA μ 75 z2 (μ.1 55 z2)) fun μ1 =>
      lt (w32 (z2 + 1)) fun x2 =>
      k_X12_lay_23 n z1 x2 μ1))
    else
      k_X12_lay_52 FU z1 0 μ
set_option maxHeartbeats 4000000 in
set_option maxRecDepth 100000 in
theorem w_X12_lay_23 {G : GX} {u : Int × GM} (C : CX G 0 cX12_lay 5 RX12) (hQ : gQV G none u) : ∀ (n : Nat) (z1 : Int) (hz1 : r32 z1) (z2 : Int) (hz2 : r32 z2) (μ : GM) (hμ : gRg μ), k_X12_lay_23 n z1 z2 μ = some u → WM G 5 μ 23 [(0, gR G 53), (1, vI z1), (2, vI z2)] [] := by
  intro n
  induction n with
  | zero =>
    intro z1 hz1 z2 hz2 μ hμ h
    cases h
  | succ n ih =>
    intro z1 hz1 z2 hz2 μ hμ h
    rw [k_X12_lay_23] at h
    refine o_iload_n C 2 dX12_lay_23 rfl rfl ?_
    refine o_aload_n C 0 dX12_lay_24 rfl rfl ?_
    refine o_getI (j := 1) C kt_53 rfl rfl (Nat.le_of_ble_eq_true rfl) lkf_RX12_137 dX12_lay_25 ?_
    refine o_icmp_ge (tgt := 50) C hz2 (hμ.fi kt_53 rfl (by decide)) dX12_lay_28 (by decide) h (fun _ h => ?_) (fun _ h => ?_)
    · refine o_iconst C dX12_lay_50 ?_
      refine o_istore_n (lv2 := [(2, vI 0), (0, gR G 53), (1, vI z1)]) C dX12_lay_51 rfl (by decide) rfl ?_
      exact WM.sub [1, 2, 0] rfl (w_X12_lay_52 C hQ FU z1 hz1 0 ⟨by decide, by decide⟩ μ hμ h)
    · refine o_aload_n C 0 dX12_lay_31 rfl rfl ?_
      refine o_getR (j := 29) C kt_53 rfl rfl (Nat.le_of_ble_eq_true rfl) lkf_RX12_74 dX12_lay_32 ?_
      refine o_iload_n C 2 dX12_lay_35 rfl rfl ?_
      refine o_aload_n C 0 dX12_lay_36 rfl rfl ?_
      refine o_getR (j := 3) C kt_53 rfl rfl (Nat.le_of_ble_eq_true rfl) lkf_RX12_13 dX12_lay_37 ?_
      refine o_iload_n C 2 dX12_lay_40 rfl rfl ?_
      refine o_iald C kt_55 rfl hz2 dX12_lay_41 h (fun h => ?_)
      refine o_i2l C (hμ.i kt_55 (by decide) _) dX12_lay_42 ?_
      refine o_last C kt_75 rfl hz2 (r32_r64 (hμ.i kt_55 (by decide) _)) hμ dX12_lay_43 h (fun μ1 hμ1 h => ?_)
      refine o_iinc (lv2 := fun x2 => [(2, vI x2), (0, gR G 53), (1, vI z1)]) C 2 dX12_lay_44 rfl (by decide) (fun _ => rfl) h (fun x2 hx2 h => ?_)
      refine o_goto (tgt := 23) C dX12_lay_47 (by decide) ?_
      exact WM.sub [1, 2, 0] rfl (ih z1 hz1 x2 hx2 μ1 hμ1 h)
def k_X12_lay_2 : Nat → Int → Int → GM → Option (Int × GM)
  | 0, _, _, _ => none
  | n + 1, z1, z2, μ =>
    if z2 < 36 then
      ck (0 ≤ z2 ∧ z2 < 36) (lm (gA μ 74 z2 0) fun μ1 =>
      lt (w32 (z2 + 1)) fun x2 =>
      k_X12_lay_2 n z1 x2 μ1)
    else
      k_X12_lay_23 FU z1 0 μ
set_option maxHeartbeats 4000000 in
set_option maxRecDepth 100000 in
theorem w_X12_lay_2 {G : GX} {u : Int × GM} (C : CX G 0 cX12_lay 5 RX12) (hQ : gQV G none u) : ∀ (n : Nat) (z1 : Int) (hz1 : r32 z1) (z2 : Int) (hz2 : r32 z2) (μ : GM) (hμ : gRg μ), k_X12_lay_2 n z1 z2 μ = some u → WM G 5 μ 2 [(0, gR G 53), (1, vI z1), (2, vI z2)] [] := by
  intro n
  induction n with
  | zero =>
    intro z1 hz1 z2 hz2 μ hμ h
    cases h
  | succ n ih =>
    intro z1 hz1 z2 hz2 μ hμ h
    rw [k_X12_lay_2] at h
    refine o_iload_n C 2 dX12_lay_2 rfl rfl ?_
    refine o_bipush (v := 36) C dX12_lay_3 (by decide) ?_
    refine o_icmp_ge (tgt := 21) C hz2 ⟨by decide, by decide⟩ dX12_lay_5 (by decide) h (fun _ h => ?_) (fun _ h => ?_)
    · refine o_iconst C dX12_lay_21 ?_
      refine o_istore_n (lv2 := [(2, vI 0), (0, gR G 53), (1, vI z1)]) C dX12_lay_22 rfl (by decide) rfl ?_
      exact WM.sub [1, 2, 0] rfl (w_X12_lay_23 C hQ FU z1 hz1 0 ⟨by decide, by decide⟩ μ hμ h)
    · refine o_aload_n C 0 dX12_lay_8 rfl rfl ?_
      refine o_getR (j := 28) C kt_53 rfl rfl (Nat.le_of_ble_eq_true rfl) lkf_RX12_71 dX12_lay_9 ?_
      refine o_iload_n C 2 dX12_lay_12 rfl rfl ?_
      refine o_lconst (v := 0) C dX12_lay_13 rfl ?_
      refine o_last C kt_74 rfl hz2 ⟨by decide, by decide⟩ hμ dX12_lay_14 h (fun μ1 hμ1 h => ?_)
      refine o_iinc (lv2 := fun x2 => [(2, vI x2), (0, gR G 53), (1, vI z1)]) C 2 dX12_lay_15 rfl (by decide) (fun _ => rfl) h (fun x2 hx2 h => ?_)
      refine o_goto (tgt := 2) C dX12_lay_18 (by decide) ?_
      exact WM.sub [1, 2, 0] rfl (ih z1 hz1 x2 hx2 μ1 hμ1 h)
def f_X12_lay (z1 : Int) (μ : GM) : Option (Int × GM) :=
  k_X12_lay_2 FU z1 0 μ
set_option maxHeartbeats 4000000 in
set_option maxRecDepth 100000 in
theorem w_X12_lay_0 {G : GX} {u : Int × GM} (C : CX G 0 cX12_lay 5 RX12) (hQ : gQV G none u) {z1 : Int} (hz1 : r32 z1) {μ : GM} (hμ : gRg μ) (h : f_X12_lay z1 μ = some u) : WM G 5 μ 0 [(0, gR G 53), (1, vI z1)] [] := by
  unfold f_X12_lay at h
  refine o_iconst C dX12_lay_0 ?_
  refine o_istore_n (lv2 := [(2, vI 0), (0, gR G 53), (1, vI z1)]) C dX12_lay_1 rfl (by decide) rfl ?_
  exact WM.sub [1, 2, 0] rfl (w_X12_lay_2 C hQ FU z1 hz1 0 ⟨by decide, by decide⟩ μ hμ h)
theorem c_X12_lay {z1 : Int} (hz1 : r32 z1) {μ : GM} (hμ : gRg μ) {u : Int × GM} (h : f_X12_lay z1 μ = some u) : MtV 0 yX12_lay cX12_lay 5 none (fun ad => [.ref (ad 53), vI z1]) μ u := MtV.of pf_X12_lay (fun _ => Nat.le_of_ble_eq_true rfl) (fun G C hQ => w_X12_lay_0 C hQ hz1 hμ h)
def k_X12_fits_139 (kL79 : Int → Int → Int → GM → Option (Int × GM)) (z1 : Int) (z3 : Int) (s0 : Int) (s1 : Int) (μ : GM) : Option (Int × GM) :=
  if s0 = s1 then
    lt (w32 (z3 + 1)) fun x2 =>
    kL79 z1 1 x2 μ
  else
    lt (w32 (z3 + 1)) fun x1 =>
    kL79 z1 0 x1 μ
set_option maxHeartbeats 4000000 in
set_option maxRecDepth 100000 in
theorem w_X12_fits_139 {G : GX} {u : Int × GM} (C : CX G 0 cX12_fits 4 RX12) (hQ : gQI G (some .boolean) u) {kL79 : Int → Int → Int → GM → Option (Int × GM)} (hL79 : ∀ (z1 : Int) (hz1 : r32 z1) (z2 : Int) (hz2 : r32 z2) (z3 : Int) (hz3 : r32 z3) (μ : GM) (hμ : gRg μ), kL79 z1 z2 z3 μ = some u → WM G 4 μ 79 [(0, gR G 53), (1, vI z1), (2, vI z2), (3, vI z3)] []) {z1 : Int} (hz1 : r32 z1) {z3 : Int} (hz3 : r32 z3) {s0 : Int} (hs0 : r32 s0) {s1 : Int} (hs1 : r32 s1) {μ : GM} (hμ : gRg μ) (h : k_X12_fits_139 kL79 z1 z3 s0 s1 μ = some u) : WM G 4 μ 139 [(0, gR G 53), (1, vI z1), (3, vI z3)] [vI s1, vI s0] := by
  unfold k_X12_fits_139 at h
  refine o_icmp_ne (tgt := 146) C hs0 hs1 dX12_fits_139 (by decide) h (fun _ h => ?_) (fun _ h => ?_)
  · refine o_iconst C dX12_fits_146 ?_
    refine o_istore_n (lv2 := [(2, vI 0), (0, gR G 53), (1, vI z1), (3, vI z3)]) C dX12_fits_147 rfl (by decide) rfl ?_
    refine o_iinc (lv2 := fun x1 => [(3, vI x1), (2, vI 0), (0, gR G 53), (1, vI z1)]) C 3 dX12_fits_148 rfl (by decide) (fun _ => rfl) h (fun x1 hx1 h => ?_)
    refine o_goto (tgt := 79) C dX12_fits_151 (by decide) ?_
    exact WM.sub [2, 3, 1, 0] rfl (hL79 z1 hz1 0 ⟨by decide, by decide⟩ x1 hx1 μ hμ h)
  · refine o_iconst C dX12_fits_142 ?_
    refine o_goto (tgt := 147) C dX12_fits_143 (by decide) ?_
    refine o_istore_n (lv2 := [(2, vI 1), (0, gR G 53), (1, vI z1), (3, vI z3)]) C dX12_fits_147 rfl (by decide) rfl ?_
    refine o_iinc (lv2 := fun x2 => [(3, vI x2), (2, vI 1), (0, gR G 53), (1, vI z1)]) C 3 dX12_fits_148 rfl (by decide) (fun _ => rfl) h (fun x2 hx2 h => ?_)
    refine o_goto (tgt := 79) C dX12_fits_151 (by decide) ?_
    exact WM.sub [2, 3, 1, 0] rfl (hL79 z1 hz1 1 ⟨by decide, by decide⟩ x2 hx2 μ hμ h)
def k_X12_fits_123 (kL79 : Int → Int → Int → GM → Option (Int × GM)) (z1 : Int) (z3 : Int) (s0 : Int) (μ : GM) : Option (Int × GM) :=
  if (gand (gshr z1 (w32 (z3 + 3))) 1) = 1 then
    k_X12_fits_139 kL79 z1 z3 s0 1 μ
  else
    k_X12_fits_139 kL79 z1 z3 s0 0 μ
set_option maxHeartbeats 4000000 in
set_option maxRecDepth 100000 in
theorem w_X12_fits_123 {G : GX} {u : Int × GM} (C : CX G 0 cX12_fits 4 RX12) (hQ : gQI G (some .boolean) u) {kL79 : Int → Int → Int → GM → Option (Int × GM)} (hL79 : ∀ (z1 : Int) (hz1 : r32 z1) (z2 : Int) (hz2 : r32 z2) (z3 : Int) (hz3 : r32 z3) (μ : GM) (hμ : gRg μ), kL79 z1 z2 z3 μ = some u → WM G 4 μ 79 [(0, gR G 53), (1, vI z1), (2, vI z2), (3, vI z3)] []) {z1 : Int} (hz1 : r32 z1) {z3 : Int} (hz3 : r32 z3) {s0 : Int} (hs0 : r32 s0) {μ : GM} (hμ : gRg μ) (h : k_X12_fits_123 kL79 z1 z3 s0 μ = some u) : WM G 4 μ 123 [(0, gR G 53), (1, vI z1), (3, vI z3)] [vI s0] := by
  unfold k_X12_fits_123 at h
  refine o_iload_n C 1 dX12_fits_123 rfl rfl ?_
  refine o_iload_n C 2 dX12_fits_124 rfl rfl ?_
  refine o_iconst C dX12_fits_125 ?_
  refine o_iadd C dX12_fits_126 ?_
  refine o_ishr C dX12_fits_127 ?_
  refine o_iconst C dX12_fits_128 ?_
  refine o_iand C dX12_fits_129 ?_
  refine o_iconst C dX12_fits_130 ?_
  refine o_icmp_ne (tgt := 138) C (r32_toInt _) ⟨by decide, by decide⟩ dX12_fits_131 (by decide) h (fun _ h => ?_) (fun _ h => ?_)
  · refine o_iconst C dX12_fits_138 ?_
    exact WM.sub [0, 1, 2] rfl (w_X12_fits_139 C hQ hL79 hz1 hz3 hs0 ⟨by decide, by decide⟩ hμ h)
  · refine o_iconst C dX12_fits_134 ?_
    refine o_goto (tgt := 139) C dX12_fits_135 (by decide) ?_
    exact WM.sub [0, 1, 2] rfl (w_X12_fits_139 C hQ hL79 hz1 hz3 hs0 ⟨by decide, by decide⟩ hμ h)
def k_X12_fits_79 : Nat → Int → Int → Int → GM → Option (Int × GM)
  | 0, _, _, _, _ => none
  | n + 1, z1, z2, z3, μ =>
    if z3 < (μ.2 53 14) then
      if z2 = 0 then
        lt (w32 (z3 + 1)) fun x1 =>
        k_X12_fits_79 n z1 0 x1 μ
      else
        ck (0 ≤ z3 ∧ z3 < 2) (
        ck (0 ≤ (μ.1 64 z3) ∧ (μ.1 64 z3) < 6) (
        ck (0 ≤ z3 ∧ z3 < 2) (
        if (w64 ((μ.1 65 z3) * (μ.2 53 24))) < (μ.1 71 (μ.1 64 z3)) then
          k_X12_fits_123 (k_X12_fits_79 n) z1 z3 1 μ
        else
          k_X12_fits_123 (k_X12_fits_79 n) z1 z3 0 μ)))
    else
      some (z2 % 2, μ)
set_option maxHeartbeats 4000000 in
set_option maxRecDepth 100000 in
theorem w_X12_fits_79 {G : GX} {u : Int × GM} (C : CX G 0 cX12_fits 4 RX12) (hQ : gQI G (some .boolean) u) : ∀ (n : Nat) (z1 : Int) (hz1 : r32 z1) (z2 : Int) (hz2 : r32 z2) (z3 : Int) (hz3 : r32 z3) (μ : GM) (hμ : gRg μ), k_X12_fits_79 n z1 z2 z3 μ = some u → WM G 4 μ 79 [(0, gR G 53), (1, vI z1), (2, vI z2), (3, vI z3)] [] := by
  intro n
  induction n with
  | zero =>
    intro z1 hz1 z2 hz2 z3 hz3 μ hμ h
    cases h
  | succ n ih =>
    intro z1 hz1 z2 hz2 z3 hz3 μ hμ h
    rw [k_X12_fits_79] at h
    refine o_iload_n C 3 dX12_fits_79 rfl rfl ?_
    refine o_aload_n C 0 dX12_fits_80 rfl rfl ?_
    refine o_getI (j := 14) C kt_53 rfl rfl (Nat.le_of_ble_eq_true rfl) lkf_RX12_172 dX12_fits_81 ?_
    refine o_icmp_ge (tgt := 154) C hz3 (hμ.fi kt_53 rfl (by decide)) dX12_fits_84 (by decide) h (fun _ h => ?_) (fun _ h => ?_)
    · refine o_iload_n C 2 dX12_fits_154 rfl rfl ?_
      exact o_zret C hQ dX12_fits_155 h hμ
    · refine o_iload_n C 2 dX12_fits_87 rfl rfl ?_
      refine o_if_eq (tgt := 146) C hz2 dX12_fits_88 (by decide) h (fun _ h => ?_) (fun _ h => ?_)
      · refine o_iconst C dX12_fits_146 ?_
        refine o_istore_n (lv2 := [(2, vI 0), (0, gR G 53), (1, vI z1), (3, vI z3)]) C dX12_fits_147 rfl (by decide) rfl ?_
        refine o_iinc (lv2 := fun x1 => [(3, vI x1), (2, vI 0), (0, gR G 53), (1, vI z1)]) C 3 dX12_fits_148 rfl (by decide) (fun _ => rfl) h (fun x1 hx1 h => ?_)
        refine o_goto (tgt := 79) C dX12_fits_151 (by decide) ?_
        exact WM.sub [2, 3, 1, 0] rfl (ih z1 hz1 0 ⟨by decide, by decide⟩ x1 hx1 μ hμ h)
      · refine o_aload_n C 0 dX12_fits_91 rfl rfl ?_
        refine o_getR (j := 23) C kt_53 rfl rfl (Nat.le_of_ble_eq_true rfl) lkf_RX12_61 dX12_fits_92 ?_
        refine o_aload_n C 0 dX12_fits_95 rfl rfl ?_
        refine o_getR (j := 15) C kt_53 rfl rfl (Nat.le_of_ble_eq_true rfl) lkf_RX12_40 dX12_fits_96 ?_
        refine o_iload_n C 3 dX12_fits_99 rfl rfl ?_
        refine o_iald C kt_64 rfl hz3 dX12_fits_100 h (fun h => ?_)
        refine o_lald C kt_71 rfl (hμ.i kt_64 (by decide) _) dX12_fits_101 h (fun h => ?_)
        refine o_aload_n C 0 dX12_fits_102 rfl rfl ?_
        refine o_getR (j := 16) C kt_53 rfl rfl (Nat.le_of_ble_eq_true rfl) lkf_RX12_43 dX12_fits_103 ?_
        refine o_iload_n C 3 dX12_fits_106 rfl rfl ?_
        refine o_iald C kt_65 rfl hz3 dX12_fits_107 h (fun h => ?_)
        refine o_i2l C (hμ.i kt_65 (by decide) _) dX12_fits_108 ?_
        refine o_aload_n C 0 dX12_fits_109 rfl rfl ?_
        refine o_getJ (j := 24) C kt_53 rfl rfl (Nat.le_of_ble_eq_true rfl) lkf_RX12_211 dX12_fits_110 ?_
        refine o_lmul C dX12_fits_113 ?_
        refine o_lcmp_le (tgt := 122) C (hμ.l kt_71 _) (r64_w _) dX12_fits_114 dX12_fits_115 (by decide) h (fun _ h => ?_) (fun _ h => ?_)
        · refine o_iconst C dX12_fits_122 ?_
          exact WM.sub [0, 1, 3] rfl (w_X12_fits_123 C hQ ih hz1 hz3 ⟨by decide, by decide⟩ hμ h)
        · refine o_iconst C dX12_fits_118 ?_
          refine o_goto (tgt := 123) C dX12_fits_119 (by decide) ?_
          exact WM.sub [0, 1, 3] rfl (w_X12_fits_123 C hQ ih hz1 hz3 ⟨by decide, by decide⟩ hμ h)
def k_X12_fits_62 (kL4 : Int → Int → Int → GM → Option (Int × GM)) (z1 : Int) (z3 : Int) (s0 : Int) (s1 : Int) (μ : GM) : Option (Int × GM) :=
  if s0 = s1 then
    lt (w32 (z3 + 1)) fun x2 =>
    kL4 z1 1 x2 μ
  else
    lt (w32 (z3 + 1)) fun x1 =>
    kL4 z1 0 x1 μ
set_option maxHeartbeats 4000000 in
set_option maxRecDepth 100000 in
theorem w_X12_fits_62 {G : GX} {u : Int × GM} (C : CX G 0 cX12_fits 4 RX12) (hQ : gQI G (some .boolean) u) {kL4 : Int → Int → Int → GM → Option (Int × GM)} (hL4 : ∀ (z1 : Int) (hz1 : r32 z1) (z2 : Int) (hz2 : r32 z2) (z3 : Int) (hz3 : r32 z3) (μ : GM) (hμ : gRg μ), kL4 z1 z2 z3 μ = some u → WM G 4 μ 4 [(0, gR G 53), (1, vI z1), (2, vI z2), (3, vI z3)] []) {z1 : Int} (hz1 : r32 z1) {z3 : Int} (hz3 : r32 z3) {s0 : Int} (hs0 : r32 s0) {s1 : Int} (hs1 : r32 s1) {μ : GM} (hμ : gRg μ) (h : k_X12_fits_62 kL4 z1 z3 s0 s1 μ = some u) : WM G 4 μ 62 [(0, gR G 53), (1, vI z1), (3, vI z3)] [vI s1, vI s0] := by
  unfold k_X12_fits_62 at h
  refine o_icmp_ne (tgt := 69) C hs0 hs1 dX12_fits_62 (by decide) h (fun _ h => ?_) (fun _ h => ?_)
  · refine o_iconst C dX12_fits_69 ?_
    refine o_istore_n (lv2 := [(2, vI 0), (0, gR G 53), (1, vI z1), (3, vI z3)]) C dX12_fits_70 rfl (by decide) rfl ?_
    refine o_iinc (lv2 := fun x1 => [(3, vI x1), (2, vI 0), (0, gR G 53), (1, vI z1)]) C 3 dX12_fits_71 rfl (by decide) (fun _ => rfl) h (fun x1 hx1 h => ?_)
    refine o_goto (tgt := 4) C dX12_fits_74 (by decide) ?_
    exact WM.sub [2, 3, 1, 0] rfl (hL4 z1 hz1 0 ⟨by decide, by decide⟩ x1 hx1 μ hμ h)
  · refine o_iconst C dX12_fits_65 ?_
    refine o_goto (tgt := 70) C dX12_fits_66 (by decide) ?_
    refine o_istore_n (lv2 := [(2, vI 1), (0, gR G 53), (1, vI z1), (3, vI z3)]) C dX12_fits_70 rfl (by decide) rfl ?_
    refine o_iinc (lv2 := fun x2 => [(3, vI x2), (2, vI 1), (0, gR G 53), (1, vI z1)]) C 3 dX12_fits_71 rfl (by decide) (fun _ => rfl) h (fun x2 hx2 h => ?_)
    refine o_goto (tgt := 4) C dX12_fits_74 (by decide) ?_
    exact WM.sub [2, 3, 1, 0] rfl (hL4 z1 hz1 1 ⟨by decide, by decide⟩ x2 hx2 μ hμ h)
def k_X12_fits_48 (kL4 : Int → Int → Int → GM → Option (Int × GM)) (z1 : Int) (z3 : Int) (s0 : Int) (μ : GM) : Option (Int × GM) :=
  if (gand (gshr z1 z3) 1) = 1 then
    k_X12_fits_62 kL4 z1 z3 s0 1 μ
  else
    k_X12_fits_62 kL4 z1 z3 s0 0 μ
set_option maxHeartbeats 4000000 in
set_option maxRecDepth 100000 in
theorem w_X12_fits_48 {G : GX} {u : Int × GM} (C : CX G 0 cX12_fits 4 RX12) (hQ : gQI G (some .boolean) u) {kL4 : Int → Int → Int → GM → Option (Int × GM)} (hL4 : ∀ (z1 : Int) (hz1 : r32 z1) (z2 : Int) (hz2 : r32 z2) (z3 : Int) (hz3 : r32 z3) (μ : GM) (hμ : gRg μ), kL4 z1 z2 z3 μ = some u → WM G 4 μ 4 [(0, gR G 53), (1, vI z1), (2, vI z2), (3, vI z3)] []) {z1 : Int} (hz1 : r32 z1) {z3 : Int} (hz3 : r32 z3) {s0 : Int} (hs0 : r32 s0) {μ : GM} (hμ : gRg μ) (h : k_X12_fits_48 kL4 z1 z3 s0 μ = some u) : WM G 4 μ 48 [(0, gR G 53), (1, vI z1), (3, vI z3)] [vI s0] := by
  unfold k_X12_fits_48 at h
  refine o_iload_n C 1 dX12_fits_48 rfl rfl ?_
  refine o_iload_n C 2 dX12_fits_49 rfl rfl ?_
  refine o_ishr C dX12_fits_50 ?_
  refine o_iconst C dX12_fits_51 ?_
  refine o_iand C dX12_fits_52 ?_
  refine o_iconst C dX12_fits_53 ?_
  refine o_icmp_ne (tgt := 61) C (r32_toInt _) ⟨by decide, by decide⟩ dX12_fits_54 (by decide) h (fun _ h => ?_) (fun _ h => ?_)
  · refine o_iconst C dX12_fits_61 ?_
    exact WM.sub [0, 1, 2] rfl (w_X12_fits_62 C hQ hL4 hz1 hz3 hs0 ⟨by decide, by decide⟩ hμ h)
  · refine o_iconst C dX12_fits_57 ?_
    refine o_goto (tgt := 62) C dX12_fits_58 (by decide) ?_
    exact WM.sub [0, 1, 2] rfl (w_X12_fits_62 C hQ hL4 hz1 hz3 hs0 ⟨by decide, by decide⟩ hμ h)
def k_X12_fits_4 : Nat → Int → Int → Int → GM → Option (Int × GM)
  | 0, _, _, _, _ => none
  | n + 1, z1, z2, z3, μ =>
    if z3 < (μ.2 53 9) then
      if z2 = 0 then
        lt (w32 (z3 + 1)) fun x1 =>
        k_X12_fits_4 n z1 0 x1 μ
      else
        ck (0 ≤ z3 ∧ z3 < 3) (
        ck (0 ≤ (μ.1 60 z3) ∧ (μ.1 60 z3) < 6) (
        ck (0 ≤ z3 ∧ z3 < 3) (
        if (μ.1 71 (μ.1 60 z3)) < (w64 ((μ.1 62 z3) * (μ.2 53 24))) then
          k_X12_fits_48 (k_X12_fits_4 n) z1 z3 0 μ
        else
          k_X12_fits_48 (k_X12_fits_4 n) z1 z3 1 μ)))
    else
      k_X12_fits_79 FU z1 z2 0 μ
set_option maxHeartbeats 4000000 in
set_option maxRecDepth 100000 in
theorem w_X12_fits_4 {G : GX} {u : Int × GM} (C : CX G 0 cX12_fits 4 RX12) (hQ : gQI G (some .boolean) u) : ∀ (n : Nat) (z1 : Int) (hz1 : r32 z1) (z2 : Int) (hz2 : r32 z2) (z3 : Int) (hz3 : r32 z3) (μ : GM) (hμ : gRg μ), k_X12_fits_4 n z1 z2 z3 μ = some u → WM G 4 μ 4 [(0, gR G 53), (1, vI z1), (2, vI z2), (3, vI z3)] [] := by
  intro n
  induction n with
  | zero =>
    intro z1 hz1 z2 hz2 z3 hz3 μ hμ h
    cases h
  | succ n ih =>
    intro z1 hz1 z2 hz2 z3 hz3 μ hμ h
    rw [k_X12_fits_4] at h
    refine o_iload_n C 3 dX12_fits_4 rfl rfl ?_
    refine o_aload_n C 0 dX12_fits_5 rfl rfl ?_
    refine o_getI (j := 9) C kt_53 rfl rfl (Nat.le_of_ble_eq_true rfl) lkf_RX12_169 dX12_fits_6 ?_
    refine o_icmp_ge (tgt := 77) C hz3 (hμ.fi kt_53 rfl (by decide)) dX12_fits_9 (by decide) h (fun _ h => ?_) (fun _ h => ?_)
    · refine o_iconst C dX12_fits_77 ?_
      refine o_istore_n (lv2 := [(3, vI 0), (0, gR G 53), (1, vI z1), (2, vI z2)]) C dX12_fits_78 rfl (by decide) rfl ?_
      exact WM.sub [1, 2, 3, 0] rfl (w_X12_fits_79 C hQ FU z1 hz1 z2 hz2 0 ⟨by decide, by decide⟩ μ hμ h)
    · refine o_iload_n C 2 dX12_fits_12 rfl rfl ?_
      refine o_if_eq (tgt := 69) C hz2 dX12_fits_13 (by decide) h (fun _ h => ?_) (fun _ h => ?_)
      · refine o_iconst C dX12_fits_69 ?_
        refine o_istore_n (lv2 := [(2, vI 0), (0, gR G 53), (1, vI z1), (3, vI z3)]) C dX12_fits_70 rfl (by decide) rfl ?_
        refine o_iinc (lv2 := fun x1 => [(3, vI x1), (2, vI 0), (0, gR G 53), (1, vI z1)]) C 3 dX12_fits_71 rfl (by decide) (fun _ => rfl) h (fun x1 hx1 h => ?_)
        refine o_goto (tgt := 4) C dX12_fits_74 (by decide) ?_
        exact WM.sub [2, 3, 1, 0] rfl (ih z1 hz1 0 ⟨by decide, by decide⟩ x1 hx1 μ hμ h)
      · refine o_aload_n C 0 dX12_fits_16 rfl rfl ?_
        refine o_getR (j := 23) C kt_53 rfl rfl (Nat.le_of_ble_eq_true rfl) lkf_RX12_61 dX12_fits_17 ?_
        refine o_aload_n C 0 dX12_fits_20 rfl rfl ?_
        refine o_getR (j := 10) C kt_53 rfl rfl (Nat.le_of_ble_eq_true rfl) lkf_RX12_28 dX12_fits_21 ?_
        refine o_iload_n C 3 dX12_fits_24 rfl rfl ?_
        refine o_iald C kt_60 rfl hz3 dX12_fits_25 h (fun h => ?_)
        refine o_lald C kt_71 rfl (hμ.i kt_60 (by decide) _) dX12_fits_26 h (fun h => ?_)
        refine o_aload_n C 0 dX12_fits_27 rfl rfl ?_
        refine o_getR (j := 12) C kt_53 rfl rfl (Nat.le_of_ble_eq_true rfl) lkf_RX12_34 dX12_fits_28 ?_
        refine o_iload_n C 3 dX12_fits_31 rfl rfl ?_
        refine o_iald C kt_62 rfl hz3 dX12_fits_32 h (fun h => ?_)
        refine o_i2l C (hμ.i kt_62 (by decide) _) dX12_fits_33 ?_
        refine o_aload_n C 0 dX12_fits_34 rfl rfl ?_
        refine o_getJ (j := 24) C kt_53 rfl rfl (Nat.le_of_ble_eq_true rfl) lkf_RX12_211 dX12_fits_35 ?_
        refine o_lmul C dX12_fits_38 ?_
        refine o_lcmp_lt (tgt := 47) C (hμ.l kt_71 _) (r64_w _) dX12_fits_39 dX12_fits_40 (by decide) h (fun _ h => ?_) (fun _ h => ?_)
        · refine o_iconst C dX12_fits_47 ?_
          exact WM.sub [0, 1, 3] rfl (w_X12_fits_48 C hQ ih hz1 hz3 ⟨by decide, by decide⟩ hμ h)
        · refine o_iconst C dX12_fits_43 ?_
          refine o_goto (tgt := 48) C dX12_fits_44 (by decide) ?_
          exact WM.sub [0, 1, 3] rfl (w_X12_fits_48 C hQ ih hz1 hz3 ⟨by decide, by decide⟩ hμ h)
def f_X12_fits (z1 : Int) (μ : GM) : Option (Int × GM) :=
  k_X12_fits_4 FU z1 1 0 μ
set_option maxHeartbeats 4000000 in
set_option maxRecDepth 100000 in
theorem w_X12_fits_0 {G : GX} {u : Int × GM} (C : CX G 0 cX12_fits 4 RX12) (hQ : gQI G (some .boolean) u) {z1 : Int} (hz1 : r32 z1) {μ : GM} (hμ : gRg μ) (h : f_X12_fits z1 μ = some u) : WM G 4 μ 0 [(0, gR G 53), (1, vI z1)] [] := by
  unfold f_X12_fits at h
  refine o_iconst C dX12_fits_0 ?_
  refine o_istore_n (lv2 := [(2, vI 1), (0, gR G 53), (1, vI z1)]) C dX12_fits_1 rfl (by decide) rfl ?_
  refine o_iconst C dX12_fits_2 ?_
  refine o_istore_n (lv2 := [(3, vI 0), (2, vI 1), (0, gR G 53), (1, vI z1)]) C dX12_fits_3 rfl (by decide) rfl ?_
  exact WM.sub [2, 3, 1, 0] rfl (w_X12_fits_4 C hQ FU z1 hz1 1 ⟨by decide, by decide⟩ 0 ⟨by decide, by decide⟩ μ hμ h)
theorem c_X12_fits {z1 : Int} (hz1 : r32 z1) {μ : GM} (hμ : gRg μ) {u : Int × GM} (h : f_X12_fits z1 μ = some u) : MtI 0 yX12_fits cX12_fits 4 (some .boolean) (fun ad => [.ref (ad 53), vI z1]) μ u := MtI.of pf_X12_fits (fun _ => Nat.le_of_ble_eq_true rfl) (fun G C hQ => w_X12_fits_0 C hQ hz1 hμ h)
def k_X12_solves_135 (kL8 : Int → GM → Option (Int × GM)) (z1 : Int) (s1 : Int) (μ : GM) : Option (Int × GM) :=
  lm (gF μ 53 24 s1) fun μ1 =>
  bd (f_X12_fits z1 μ1) fun x2 μ3 =>
  if x2 = 0 then
    lt (w32 (z1 + 1)) fun x4 =>
    kL8 x4 μ3
  else
    lm (gF μ3 53 25 z1) fun μ5 =>
    some (1 % 2, μ5)
set_option maxHeartbeats 4000000 in
set_option maxRecDepth 100000 in
theorem w_X12_solves_135 {G : GX} {u : Int × GM} (C : CX G 3 cX12_solves 3 RX12) (hQ : gQI G (some .boolean) u) {kL8 : Int → GM → Option (Int × GM)} (hL8 : ∀ (z1 : Int) (hz1 : r32 z1) (μ : GM) (hμ : gRg μ), kL8 z1 μ = some u → WM G 3 μ 8 [(0, gR G 53), (1, vI z1)] []) {z1 : Int} (hz1 : r32 z1) {s1 : Int} (hs1 : r64 s1) {μ : GM} (hμ : gRg μ) (h : k_X12_solves_135 kL8 z1 s1 μ = some u) : WM G 3 μ 135 [(0, gR G 53), (1, vI z1)] [vJ s1, gR G 53] := by
  unfold k_X12_solves_135 at h
  refine o_putJ (j := 24) C kt_53 rfl rfl tyX12_ok nmX12 (Nat.le_of_ble_eq_true rfl) lkf_RX12_211 rfl rfl hs1 hμ dX12_solves_135 h (fun μ1 hμ1 h => ?_)
  refine o_aload_n C 0 dX12_solves_138 rfl rfl ?_
  refine o_iload_n C 1 dX12_solves_139 rfl rfl ?_
  refine o_cVI C [vI z1] mb_X12_fits (by decide) (fun _ hu => c_X12_fits hz1 hμ1 hu) rfl (Nat.le_of_ble_eq_true rfl) h mi_X12_fits me_X12_fits lkm_RX12_215 kt_53 rfl rfl rfl dX12_solves_140 (fun x2 μ3 hx2 hμ3 h => ?_)
  refine o_if_eq (tgt := 153) C hx2 dX12_solves_143 (by decide) h (fun _ h => ?_) (fun _ h => ?_)
  · refine o_iinc (lv2 := fun x4 => [(1, vI x4), (0, gR G 53)]) C 1 dX12_solves_153 rfl (by decide) (fun _ => rfl) h (fun x4 hx4 h => ?_)
    refine o_goto (tgt := 8) C dX12_solves_156 (by decide) ?_
    exact WM.sub [1, 0] rfl (hL8 x4 hx4 μ3 hμ3 h)
  · refine o_aload_n C 0 dX12_solves_146 rfl rfl ?_
    refine o_iload_n C 1 dX12_solves_147 rfl rfl ?_
    refine o_putI (j := 25) C kt_53 rfl rfl tyX12_ok nmX12 (Nat.le_of_ble_eq_true rfl) lkf_RX12_200 rfl rfl hz1 hμ3 dX12_solves_148 h (fun μ5 hμ5 h => ?_)
    refine o_iconst C dX12_solves_151 ?_
    exact o_zret C hQ dX12_solves_152 h hμ5
def k_X12_solves_70 (kL8 : Int → GM → Option (Int × GM)) : Nat → Int → Int → GM → Option (Int × GM)
  | 0, _, _, _ => none
  | n + 1, z1, z2, μ =>
    if z2 < (μ.2 53 1) then
      if (μ.2 53 24) < 0 then
        bd (f_X12_whole z2 μ) fun x5 μ6 =>
        ck (0 ≤ z2 ∧ z2 < 6) (lm (gA μ6 71 z2 (w64 (-x5))) fun μ7 =>
        lt (w32 (z2 + 1)) fun x8 =>
        k_X12_solves_70 kL8 n z1 x8 μ7)
      else
        bd (f_X12_whole z2 μ) fun x1 μ2 =>
        ck (0 ≤ z2 ∧ z2 < 6) (lm (gA μ2 71 z2 x1) fun μ3 =>
        lt (w32 (z2 + 1)) fun x4 =>
        k_X12_solves_70 kL8 n z1 x4 μ3)
    else
      if (μ.2 53 24) < 0 then
        k_X12_solves_135 kL8 z1 (w64 (-(μ.2 53 24))) μ
      else
        k_X12_solves_135 kL8 z1 (μ.2 53 24) μ
set_option maxHeartbeats 4000000 in
set_option maxRecDepth 100000 in
theorem w_X12_solves_70 {G : GX} {u : Int × GM} (C : CX G 3 cX12_solves 3 RX12) (hQ : gQI G (some .boolean) u) {kL8 : Int → GM → Option (Int × GM)} (hL8 : ∀ (z1 : Int) (hz1 : r32 z1) (μ : GM) (hμ : gRg μ), kL8 z1 μ = some u → WM G 3 μ 8 [(0, gR G 53), (1, vI z1)] []) : ∀ (n : Nat) (z1 : Int) (hz1 : r32 z1) (z2 : Int) (hz2 : r32 z2) (μ : GM) (hμ : gRg μ), k_X12_solves_70 kL8 n z1 z2 μ = some u → WM G 3 μ 70 [(0, gR G 53), (1, vI z1), (2, vI z2)] [] := by
  intro n
  induction n with
  | zero =>
    intro z1 hz1 z2 hz2 μ hμ h
    cases h
  | succ n ih =>
    intro z1 hz1 z2 hz2 μ hμ h
    rw [k_X12_solves_70] at h
    refine o_iload_n C 2 dX12_solves_70 rfl rfl ?_
    refine o_aload_n C 0 dX12_solves_71 rfl rfl ?_
    refine o_getI (j := 1) C kt_53 rfl rfl (Nat.le_of_ble_eq_true rfl) lkf_RX12_137 dX12_solves_72 ?_
    refine o_icmp_ge (tgt := 113) C hz2 (hμ.fi kt_53 rfl (by decide)) dX12_solves_75 (by decide) h (fun _ h => ?_) (fun _ h => ?_)
    · refine o_aload_n C 0 dX12_solves_113 rfl rfl ?_
      refine o_aload_n C 0 dX12_solves_114 rfl rfl ?_
      refine o_getJ (j := 24) C kt_53 rfl rfl (Nat.le_of_ble_eq_true rfl) lkf_RX12_211 dX12_solves_115 ?_
      refine o_lconst (v := 0) C dX12_solves_118 rfl ?_
      refine o_lcmp_ge (tgt := 131) C (hμ.fl kt_53 rfl) ⟨by decide, by decide⟩ dX12_solves_119 dX12_solves_120 (by decide) h (fun _ h => ?_) (fun _ h => ?_)
      · refine o_aload_n C 0 dX12_solves_131 rfl rfl ?_
        refine o_getJ (j := 24) C kt_53 rfl rfl (Nat.le_of_ble_eq_true rfl) lkf_RX12_211 dX12_solves_132 ?_
        exact WM.sub [0, 1] rfl (w_X12_solves_135 C hQ hL8 hz1 (hμ.fl kt_53 rfl) hμ h)
      · refine o_aload_n C 0 dX12_solves_123 rfl rfl ?_
        refine o_getJ (j := 24) C kt_53 rfl rfl (Nat.le_of_ble_eq_true rfl) lkf_RX12_211 dX12_solves_124 ?_
        refine o_lneg C dX12_solves_127 ?_
        refine o_goto (tgt := 135) C dX12_solves_128 (by decide) ?_
        exact WM.sub [0, 1] rfl (w_X12_solves_135 C hQ hL8 hz1 (r64_w _) hμ h)
    · refine o_aload_n C 0 dX12_solves_78 rfl rfl ?_
      refine o_getR (j := 23) C kt_53 rfl rfl (Nat.le_of_ble_eq_true rfl) lkf_RX12_61 dX12_solves_79 ?_
      refine o_iload_n C 2 dX12_solves_82 rfl rfl ?_
      refine o_aload_n C 0 dX12_solves_83 rfl rfl ?_
      refine o_getJ (j := 24) C kt_53 rfl rfl (Nat.le_of_ble_eq_true rfl) lkf_RX12_211 dX12_solves_84 ?_
      refine o_lconst (v := 0) C dX12_solves_87 rfl ?_
      refine o_lcmp_ge (tgt := 101) C (hμ.fl kt_53 rfl) ⟨by decide, by decide⟩ dX12_solves_88 dX12_solves_89 (by decide) h (fun _ h => ?_) (fun _ h => ?_)
      · refine o_aload_n C 0 dX12_solves_101 rfl rfl ?_
        refine o_iload_n C 2 dX12_solves_102 rfl rfl ?_
        refine o_cVL C [vI z2] mb_X12_whole (by decide) (fun _ hu => c_X12_whole hz2 hμ hu) rfl (Nat.le_of_ble_eq_true rfl) h mi_X12_whole me_X12_whole lkm_RX12_207 kt_53 rfl rfl rfl dX12_solves_103 (fun x1 μ2 hx1 hμ2 h => ?_)
        refine o_last C kt_71 rfl hz2 hx1 hμ2 dX12_solves_106 h (fun μ3 hμ3 h => ?_)
        refine o_iinc (lv2 := fun x4 => [(2, vI x4), (0, gR G 53), (1, vI z1)]) C 2 dX12_solves_107 rfl (by decide) (fun _ => rfl) h (fun x4 hx4 h => ?_)
        refine o_goto (tgt := 70) C dX12_solves_110 (by decide) ?_
        exact WM.sub [1, 2, 0] rfl (ih z1 hz1 x4 hx4 μ3 hμ3 h)
      · refine o_aload_n C 0 dX12_solves_92 rfl rfl ?_
        refine o_iload_n C 2 dX12_solves_93 rfl rfl ?_
        refine o_cVL C [vI z2] mb_X12_whole (by decide) (fun _ hu => c_X12_whole hz2 hμ hu) rfl (Nat.le_of_ble_eq_true rfl) h mi_X12_whole me_X12_whole lkm_RX12_207 kt_53 rfl rfl rfl dX12_solves_94 (fun x5 μ6 hx5 hμ6 h => ?_)
        refine o_lneg C dX12_solves_97 ?_
        refine o_goto (tgt := 106) C dX12_solves_98 (by decide) ?_
        refine o_last C kt_71 rfl hz2 (r64_w _) hμ6 dX12_solves_106 h (fun μ7 hμ7 h => ?_)
        refine o_iinc (lv2 := fun x8 => [(2, vI x8), (0, gR G 53), (1, vI z1)]) C 2 dX12_solves_107 rfl (by decide) (fun _ => rfl) h (fun x8 hx8 h => ?_)
        refine o_goto (tgt := 70) C dX12_solves_110 (by decide) ?_
        exact WM.sub [1, 2, 0] rfl (ih z1 hz1 x8 hx8 μ7 hμ7 h)
def k_X12_solves_8 : Nat → Int → GM → Option (Int × GM)
  | 0, _, _ => none
  | n + 1, z1, μ =>
    if z1 < 32 then
      if 0 < (μ.2 53 1) then
        if (gshr (gand z1 7) (μ.2 53 9)) = 0 then
          if (gshr (gshr z1 3) (μ.2 53 14)) = 0 then
            bd (f_X12_lay z1 μ) fun _x3 μ4 =>
            bd (f_X12_whole (-10000009) μ4) fun x5 μ6 =>
            lm (gF μ6 53 24 x5) fun μ7 =>
            if (μ7.2 53 24) = 0 then
              lt (w32 (z1 + 1)) fun x8 =>
              k_X12_solves_8 n x8 μ7
            else
              k_X12_solves_70 (k_X12_solves_8 n) FU z1 0 μ7
          else
            lt (w32 (z1 + 1)) fun x2 =>
            k_X12_solves_8 n x2 μ
        else
          lt (w32 (z1 + 1)) fun x1 =>
          k_X12_solves_8 n x1 μ
      else
        some (0 % 2, μ)
    else
      some (0 % 2, μ)
set_option maxHeartbeats 4000000 in
set_option maxRecDepth 100000 in
theorem w_X12_solves_8 {G : GX} {u : Int × GM} (C : CX G 3 cX12_solves 3 RX12) (hQ : gQI G (some .boolean) u) : ∀ (n : Nat) (z1 : Int) (hz1 : r32 z1) (μ : GM) (hμ : gRg μ), k_X12_solves_8 n z1 μ = some u → WM G 3 μ 8 [(0, gR G 53), (1, vI z1)] [] := by
  intro n
  induction n with
  | zero =>
    intro z1 hz1 μ hμ h
    cases h
  | succ n ih =>
    intro z1 hz1 μ hμ h
    rw [k_X12_solves_8] at h
    refine o_iload_n C 1 dX12_solves_8 rfl rfl ?_
    refine o_bipush (v := 32) C dX12_solves_9 (by decide) ?_
    refine o_icmp_ge (tgt := 159) C hz1 ⟨by decide, by decide⟩ dX12_solves_11 (by decide) h (fun _ h => ?_) (fun _ h => ?_)
    · refine o_iconst C dX12_solves_159 ?_
      exact o_zret C hQ dX12_solves_160 h hμ
    · refine o_aload_n C 0 dX12_solves_14 rfl rfl ?_
      refine o_getI (j := 1) C kt_53 rfl rfl (Nat.le_of_ble_eq_true rfl) lkf_RX12_137 dX12_solves_15 ?_
      refine o_if_le (tgt := 159) C (hμ.fi kt_53 rfl (by decide)) dX12_solves_18 (by decide) h (fun _ h => ?_) (fun _ h => ?_)
      · refine o_iconst C dX12_solves_159 ?_
        exact o_zret C hQ dX12_solves_160 h hμ
      · refine o_iload_n C 1 dX12_solves_21 rfl rfl ?_
        refine o_bipush (v := 7) C dX12_solves_22 (by decide) ?_
        refine o_iand C dX12_solves_24 ?_
        refine o_aload_n C 0 dX12_solves_25 rfl rfl ?_
        refine o_getI (j := 9) C kt_53 rfl rfl (Nat.le_of_ble_eq_true rfl) lkf_RX12_169 dX12_solves_26 ?_
        refine o_ishr C dX12_solves_29 ?_
        refine o_if_ne (tgt := 153) C (r32_toInt _) dX12_solves_30 (by decide) h (fun _ h => ?_) (fun _ h => ?_)
        · refine o_iinc (lv2 := fun x1 => [(1, vI x1), (0, gR G 53)]) C 1 dX12_solves_153 rfl (by decide) (fun _ => rfl) h (fun x1 hx1 h => ?_)
          refine o_goto (tgt := 8) C dX12_solves_156 (by decide) ?_
          exact WM.sub [1, 0] rfl (ih x1 hx1 μ hμ h)
        · refine o_iload_n C 1 dX12_solves_33 rfl rfl ?_
          refine o_iconst C dX12_solves_34 ?_
          refine o_ishr C dX12_solves_35 ?_
          refine o_aload_n C 0 dX12_solves_36 rfl rfl ?_
          refine o_getI (j := 14) C kt_53 rfl rfl (Nat.le_of_ble_eq_true rfl) lkf_RX12_172 dX12_solves_37 ?_
          refine o_ishr C dX12_solves_40 ?_
          refine o_if_ne (tgt := 153) C (r32_toInt _) dX12_solves_41 (by decide) h (fun _ h => ?_) (fun _ h => ?_)
          · refine o_iinc (lv2 := fun x2 => [(1, vI x2), (0, gR G 53)]) C 1 dX12_solves_153 rfl (by decide) (fun _ => rfl) h (fun x2 hx2 h => ?_)
            refine o_goto (tgt := 8) C dX12_solves_156 (by decide) ?_
            exact WM.sub [1, 0] rfl (ih x2 hx2 μ hμ h)
          · refine o_aload_n C 0 dX12_solves_44 rfl rfl ?_
            refine o_iload_n C 1 dX12_solves_45 rfl rfl ?_
            refine o_cVV C [vI z1] mb_X12_lay (by decide) (fun _ hu => c_X12_lay hz1 hμ hu) rfl (Nat.le_of_ble_eq_true rfl) h mi_X12_lay me_X12_lay lkm_RX12_203 kt_53 rfl rfl rfl dX12_solves_46 (fun _x3 μ4 hμ4 h => ?_)
            refine o_aload_n C 0 dX12_solves_49 rfl rfl ?_
            refine o_aload_n C 0 dX12_solves_50 rfl rfl ?_
            refine o_ldc (v := (-10000009)) C lkc_RX12_132 rfl dX12_solves_51 ?_
            refine o_cVL C [vI (-10000009)] mb_X12_whole (by decide) (fun _ hu => c_X12_whole ⟨by decide, by decide⟩ hμ4 hu) rfl (Nat.le_of_ble_eq_true rfl) h mi_X12_whole me_X12_whole lkm_RX12_207 kt_53 rfl rfl rfl dX12_solves_53 (fun x5 μ6 hx5 hμ6 h => ?_)
            refine o_putJ (j := 24) C kt_53 rfl rfl tyX12_ok nmX12 (Nat.le_of_ble_eq_true rfl) lkf_RX12_211 rfl rfl hx5 hμ6 dX12_solves_56 h (fun μ7 hμ7 h => ?_)
            refine o_aload_n C 0 dX12_solves_59 rfl rfl ?_
            refine o_getJ (j := 24) C kt_53 rfl rfl (Nat.le_of_ble_eq_true rfl) lkf_RX12_211 dX12_solves_60 ?_
            refine o_lconst (v := 0) C dX12_solves_63 rfl ?_
            refine o_lcmp_eq (tgt := 153) C (hμ7.fl kt_53 rfl) ⟨by decide, by decide⟩ dX12_solves_64 dX12_solves_65 (by decide) h (fun _ h => ?_) (fun _ h => ?_)
            · refine o_iinc (lv2 := fun x8 => [(1, vI x8), (0, gR G 53)]) C 1 dX12_solves_153 rfl (by decide) (fun _ => rfl) h (fun x8 hx8 h => ?_)
              refine o_goto (tgt := 8) C dX12_solves_156 (by decide) ?_
              exact WM.sub [1, 0] rfl (ih x8 hx8 μ7 hμ7 h)
            · refine o_iconst C dX12_solves_68 ?_
              refine o_istore_n (lv2 := [(2, vI 0), (0, gR G 53), (1, vI z1)]) C dX12_solves_69 rfl (by decide) rfl ?_
              exact WM.sub [1, 2, 0] rfl (w_X12_solves_70 C hQ ih FU z1 hz1 0 ⟨by decide, by decide⟩ μ7 hμ7 h)
def f_X12_solves (μ : GM) : Option (Int × GM) :=
  lm (gF μ 53 25 (-10000009)) fun μ1 =>
  k_X12_solves_8 FU 0 μ1
set_option maxHeartbeats 4000000 in
set_option maxRecDepth 100000 in
theorem w_X12_solves_0 {G : GX} {u : Int × GM} (C : CX G 3 cX12_solves 3 RX12) (hQ : gQI G (some .boolean) u) {μ : GM} (hμ : gRg μ) (h : f_X12_solves μ = some u) : WM G 3 μ 0 [(0, gR G 53)] [] := by
  unfold f_X12_solves at h
  refine o_aload_n C 0 dX12_solves_0 rfl rfl ?_
  refine o_ldc (v := (-10000009)) C lkc_RX12_132 rfl dX12_solves_1 ?_
  refine o_putI (j := 25) C kt_53 rfl rfl tyX12_ok nmX12 (Nat.le_of_ble_eq_true rfl) lkf_RX12_200 rfl rfl ⟨by decide, by decide⟩ hμ dX12_solves_3 h (fun μ1 hμ1 h => ?_)
  refine o_iconst C dX12_solves_6 ?_
  refine o_istore_n (lv2 := [(1, vI 0), (0, gR G 53)]) C dX12_solves_7 rfl (by decide) rfl ?_
  exact WM.sub [1, 0] rfl (w_X12_solves_8 C hQ FU 0 ⟨by decide, by decide⟩ μ1 hμ1 h)
theorem c_X12_solves {μ : GM} (hμ : gRg μ) {u : Int × GM} (h : f_X12_solves μ = some u) : MtI 3 yX12_solves cX12_solves 3 (some .boolean) (fun ad => [.ref (ad 53)]) μ u := MtI.of pf_X12_solves (fun _ => Nat.le_of_ble_eq_true rfl) (fun G C hQ => w_X12_solves_0 C hQ hμ h)
def k_X12_asIs_28 : Nat → Int → GM → Option (Int × GM)
  | 0, _, _ => none
  | n + 1, z1, μ =>
    if z1 < 3 then
      ck (0 ≤ z1 ∧ z1 < 3) (
      ck (0 ≤ z1 ∧ z1 < 3) (lm (gA μ 73 z1 (μ.1 70 z1)) fun μ1 =>
      lt (w32 (z1 + 1)) fun x2 =>
      k_X12_asIs_28 n x2 μ1))
    else
      some (0, μ)
set_option maxHeartbeats 4000000 in
set_option maxRecDepth 100000 in
theorem w_X12_asIs_28 {G : GX} {u : Int × GM} (C : CX G 0 cX12_asIs 2 RX12) (hQ : gQV G none u) : ∀ (n : Nat) (z1 : Int) (hz1 : r32 z1) (μ : GM) (hμ : gRg μ), k_X12_asIs_28 n z1 μ = some u → WM G 2 μ 28 [(0, gR G 53), (1, vI z1)] [] := by
  intro n
  induction n with
  | zero =>
    intro z1 hz1 μ hμ h
    cases h
  | succ n ih =>
    intro z1 hz1 μ hμ h
    rw [k_X12_asIs_28] at h
    refine o_iload_n C 1 dX12_asIs_28 rfl rfl ?_
    refine o_iconst C dX12_asIs_29 ?_
    refine o_icmp_ge (tgt := 51) C hz1 ⟨by decide, by decide⟩ dX12_asIs_30 (by decide) h (fun _ h => ?_) (fun _ h => ?_)
    · exact o_vret C hQ dX12_asIs_51 h hμ
    · refine o_aload_n C 0 dX12_asIs_33 rfl rfl ?_
      refine o_getR (j := 27) C kt_53 rfl rfl (Nat.le_of_ble_eq_true rfl) lkf_RX12_68 dX12_asIs_34 ?_
      refine o_iload_n C 1 dX12_asIs_37 rfl rfl ?_
      refine o_aload_n C 0 dX12_asIs_38 rfl rfl ?_
      refine o_getR (j := 22) C kt_53 rfl rfl (Nat.le_of_ble_eq_true rfl) lkf_RX12_58 dX12_asIs_39 ?_
      refine o_iload_n C 1 dX12_asIs_42 rfl rfl ?_
      refine o_iald C kt_70 rfl hz1 dX12_asIs_43 h (fun h => ?_)
      refine o_iast C kt_73 rfl hz1 (hμ.i kt_70 (by decide) _) hμ dX12_asIs_44 h (fun μ1 hμ1 h => ?_)
      refine o_iinc (lv2 := fun x2 => [(1, vI x2), (0, gR G 53)]) C 1 dX12_asIs_45 rfl (by decide) (fun _ => rfl) h (fun x2 hx2 h => ?_)
      refine o_goto (tgt := 28) C dX12_asIs_48 (by decide) ?_
      exact WM.sub [1, 0] rfl (ih x2 hx2 μ1 hμ1 h)
def k_X12_asIs_2 : Nat → Int → GM → Option (Int × GM)
  | 0, _, _ => none
  | n + 1, z1, μ =>
    if z1 < 12 then
      ck (0 ≤ z1 ∧ z1 < 12) (
      ck (0 ≤ z1 ∧ z1 < 12) (lm (gA μ 72 z1 (μ.1 59 z1)) fun μ1 =>
      lt (w32 (z1 + 1)) fun x2 =>
      k_X12_asIs_2 n x2 μ1))
    else
      k_X12_asIs_28 FU 0 μ
set_option maxHeartbeats 4000000 in
set_option maxRecDepth 100000 in
theorem w_X12_asIs_2 {G : GX} {u : Int × GM} (C : CX G 0 cX12_asIs 2 RX12) (hQ : gQV G none u) : ∀ (n : Nat) (z1 : Int) (hz1 : r32 z1) (μ : GM) (hμ : gRg μ), k_X12_asIs_2 n z1 μ = some u → WM G 2 μ 2 [(0, gR G 53), (1, vI z1)] [] := by
  intro n
  induction n with
  | zero =>
    intro z1 hz1 μ hμ h
    cases h
  | succ n ih =>
    intro z1 hz1 μ hμ h
    rw [k_X12_asIs_2] at h
    refine o_iload_n C 1 dX12_asIs_2 rfl rfl ?_
    refine o_bipush (v := 12) C dX12_asIs_3 (by decide) ?_
    refine o_icmp_ge (tgt := 26) C hz1 ⟨by decide, by decide⟩ dX12_asIs_5 (by decide) h (fun _ h => ?_) (fun _ h => ?_)
    · refine o_iconst C dX12_asIs_26 ?_
      refine o_istore_n (lv2 := [(1, vI 0), (0, gR G 53)]) C dX12_asIs_27 rfl (by decide) rfl ?_
      exact WM.sub [1, 0] rfl (w_X12_asIs_28 C hQ FU 0 ⟨by decide, by decide⟩ μ hμ h)
    · refine o_aload_n C 0 dX12_asIs_8 rfl rfl ?_
      refine o_getR (j := 26) C kt_53 rfl rfl (Nat.le_of_ble_eq_true rfl) lkf_RX12_65 dX12_asIs_9 ?_
      refine o_iload_n C 1 dX12_asIs_12 rfl rfl ?_
      refine o_aload_n C 0 dX12_asIs_13 rfl rfl ?_
      refine o_getR (j := 8) C kt_53 rfl rfl (Nat.le_of_ble_eq_true rfl) lkf_RX12_25 dX12_asIs_14 ?_
      refine o_iload_n C 1 dX12_asIs_17 rfl rfl ?_
      refine o_iald C kt_59 rfl hz1 dX12_asIs_18 h (fun h => ?_)
      refine o_iast C kt_72 rfl hz1 (hμ.i kt_59 (by decide) _) hμ dX12_asIs_19 h (fun μ1 hμ1 h => ?_)
      refine o_iinc (lv2 := fun x2 => [(1, vI x2), (0, gR G 53)]) C 1 dX12_asIs_20 rfl (by decide) (fun _ => rfl) h (fun x2 hx2 h => ?_)
      refine o_goto (tgt := 2) C dX12_asIs_23 (by decide) ?_
      exact WM.sub [1, 0] rfl (ih x2 hx2 μ1 hμ1 h)
def f_X12_asIs (μ : GM) : Option (Int × GM) :=
  k_X12_asIs_2 FU 0 μ
set_option maxHeartbeats 4000000 in
set_option maxRecDepth 100000 in
theorem w_X12_asIs_0 {G : GX} {u : Int × GM} (C : CX G 0 cX12_asIs 2 RX12) (hQ : gQV G none u) {μ : GM} (hμ : gRg μ) (h : f_X12_asIs μ = some u) : WM G 2 μ 0 [(0, gR G 53)] [] := by
  unfold f_X12_asIs at h
  refine o_iconst C dX12_asIs_0 ?_
  refine o_istore_n (lv2 := [(1, vI 0), (0, gR G 53)]) C dX12_asIs_1 rfl (by decide) rfl ?_
  exact WM.sub [1, 0] rfl (w_X12_asIs_2 C hQ FU 0 ⟨by decide, by decide⟩ μ hμ h)
theorem c_X12_asIs {μ : GM} (hμ : gRg μ) {u : Int × GM} (h : f_X12_asIs μ = some u) : MtV 0 yX12_asIs cX12_asIs 2 none (fun ad => [.ref (ad 53)]) μ u := MtV.of pf_X12_asIs (fun _ => Nat.le_of_ble_eq_true rfl) (fun G C hQ => w_X12_asIs_0 C hQ hμ h)
def f_X12_rests (μ : GM) : Option (Int × GM) :=
  bd (f_X12_asIs μ) fun _x1 μ2 =>
  bd (f_X12_solves μ2) fun x3 μ4 =>
  some (x3 % 2, μ4)
set_option maxHeartbeats 4000000 in
set_option maxRecDepth 100000 in
theorem w_X12_rests_0 {G : GX} {u : Int × GM} (C : CX G 4 cX12_rests 1 RX12) (hQ : gQI G (some .boolean) u) {μ : GM} (hμ : gRg μ) (h : f_X12_rests μ = some u) : WM G 1 μ 0 [(0, gR G 53)] [] := by
  unfold f_X12_rests at h
  refine o_aload_n C 0 dX12_rests_0 rfl rfl ?_
  refine o_cVV C [] mb_X12_asIs (by decide) (fun _ hu => c_X12_asIs hμ hu) rfl (Nat.le_of_ble_eq_true rfl) h mi_X12_asIs me_X12_asIs lkm_RX12_218 kt_53 rfl rfl rfl dX12_rests_1 (fun _x1 μ2 hμ2 h => ?_)
  refine o_aload_n C 0 dX12_rests_4 rfl rfl ?_
  refine o_cVI C [] mb_X12_solves (by decide) (fun _ hu => c_X12_solves hμ2 hu) rfl (Nat.le_of_ble_eq_true rfl) h mi_X12_solves me_X12_solves lkm_RX12_221 kt_53 rfl rfl rfl dX12_rests_5 (fun x3 μ4 hx3 hμ4 h => ?_)
  exact o_zret C hQ dX12_rests_8 h hμ4
theorem c_X12_rests {μ : GM} (hμ : gRg μ) {u : Int × GM} (h : f_X12_rests μ = some u) : MtI 4 yX12_rests cX12_rests 1 (some .boolean) (fun ad => [.ref (ad 53)]) μ u := MtI.of pf_X12_rests (fun _ => Nat.le_of_ble_eq_true rfl) (fun G C hQ => w_X12_rests_0 C hQ hμ h)
def f_X12_milliOf (z1 : Int) (μ : GM) : Option (Int × GM) :=
  bd (f_X12_down (w64 (1000 * z1)) (μ.2 53 24) μ) fun x1 μ2 =>
  some ((w32 x1), μ2)
set_option maxHeartbeats 4000000 in
set_option maxRecDepth 100000 in
theorem w_X12_milliOf_0 {G : GX} {u : Int × GM} (C : CX G 1 cX12_milliOf 3 RX12) (hQ : gQI G (some .int) u) {z1 : Int} (hz1 : r64 z1) {μ : GM} (hμ : gRg μ) (h : f_X12_milliOf z1 μ = some u) : WM G 3 μ 0 [(0, gR G 53), (1, vJ z1)] [] := by
  unfold f_X12_milliOf at h
  refine o_ldc2 (v := 1000) C lkc_RX12_167 rfl dX12_milliOf_0 ?_
  refine o_lload_n C 1 dX12_milliOf_3 rfl rfl ?_
  refine o_lmul C dX12_milliOf_4 ?_
  refine o_aload_n C 0 dX12_milliOf_5 rfl rfl ?_
  refine o_getJ (j := 24) C kt_53 rfl rfl (Nat.le_of_ble_eq_true rfl) lkf_RX12_211 dX12_milliOf_6 ?_
  refine o_cSL C [vJ (w64 (1000 * z1)), vJ (μ.2 53 24)] mb_X12_down (by decide) (fun _ hu => c_X12_down (r64_w _) (hμ.fl kt_53 rfl) hμ hu) rfl (Nat.le_of_ble_eq_true rfl) h ms_X12_down lkm_RX12_225 rfl rfl dX12_milliOf_9 (fun x1 μ2 hx1 hμ2 h => ?_)
  refine o_l2i C dX12_milliOf_12 ?_
  exact o_iret C hQ dX12_milliOf_13 h (r32_w _) hμ2
theorem c_X12_milliOf {z1 : Int} (hz1 : r64 z1) {μ : GM} (hμ : gRg μ) {u : Int × GM} (h : f_X12_milliOf z1 μ = some u) : MtI 1 yX12_milliOf cX12_milliOf 3 (some .int) (fun ad => [.ref (ad 53), vJ z1]) μ u := MtI.of pf_X12_milliOf (fun _ => Nat.le_of_ble_eq_true rfl) (fun G C hQ => w_X12_milliOf_0 C hQ hz1 hμ h)
