def k_X12_goOn_358 : Nat → Int → GM → Option (Int × GM)
  | 0, _, _ => none
  | n + 1, z1, μ =>
    if z1 < (μ.2 53 18) then
      ck (0 ≤ 4 ∧ 4 < 6) (
      ck (0 ≤ z1 ∧ z1 < 3) (
      ck (0 ≤ z1 ∧ z1 < 3) (
      bd (f_X12_leaves (μ.1 67 z1) (μ.1 70 z1) μ) fun x1 μ2 =>
      ck (0 ≤ 4 ∧ 4 < 6) (lm (gA μ2 81 4 (w64 ((μ.1 81 4) + x1))) fun μ3 =>
      lt (w32 (z1 + 1)) fun x4 =>
      k_X12_goOn_358 n x4 μ3))))
    else
      some (0, μ)
set_option maxHeartbeats 4000000 in
set_option maxRecDepth 100000 in
theorem w_X12_goOn_358 {G : GX} {u : Int × GM} (C : CX G 1 cX12_goOn 4 RX12) (hQ : gQV G none u) : ∀ (n : Nat) (z1 : Int) (hz1 : r32 z1) (μ : GM) (hμ : gRg μ), k_X12_goOn_358 n z1 μ = some u → WM G 4 μ 358 [(0, gR G 53), (1, vI z1)] [] := by
  intro n
  induction n with
  | zero =>
    intro z1 hz1 μ hμ h
    cases h
  | succ n ih =>
    intro z1 hz1 μ hμ h
    rw [k_X12_goOn_358] at h
    refine o_iload_n C 1 dX12_goOn_358 rfl rfl ?_
    refine o_aload_n C 0 dX12_goOn_359 rfl rfl ?_
    refine o_getI (j := 18) C kt_53 rfl rfl (Nat.le_of_ble_eq_true rfl) lkf_RX12_144 dX12_goOn_360 ?_
    refine o_icmp_ge (tgt := 398) C hz1 (hμ.fi kt_53 rfl (by decide)) dX12_goOn_363 (by decide) h (fun _ h => ?_) (fun _ h => ?_)
    · exact o_vret C hQ dX12_goOn_398 h hμ
    · refine o_aload_n C 0 dX12_goOn_366 rfl rfl ?_
      refine o_getR (j := 36) C kt_53 rfl rfl (Nat.le_of_ble_eq_true rfl) lkf_RX12_92 dX12_goOn_367 ?_
      refine o_iconst C dX12_goOn_370 ?_
      refine o_dup2ri C dX12_goOn_371 ?_
      refine o_lald C kt_81 rfl ⟨by decide, by decide⟩ dX12_goOn_372 h (fun h => ?_)
      refine o_aload_n C 0 dX12_goOn_373 rfl rfl ?_
      refine o_aload_n C 0 dX12_goOn_374 rfl rfl ?_
      refine o_getR (j := 19) C kt_53 rfl rfl (Nat.le_of_ble_eq_true rfl) lkf_RX12_49 dX12_goOn_375 ?_
      refine o_iload_n C 1 dX12_goOn_378 rfl rfl ?_
      refine o_iald C kt_67 rfl hz1 dX12_goOn_379 h (fun h => ?_)
      refine o_aload_n C 0 dX12_goOn_380 rfl rfl ?_
      refine o_getR (j := 22) C kt_53 rfl rfl (Nat.le_of_ble_eq_true rfl) lkf_RX12_58 dX12_goOn_381 ?_
      refine o_iload_n C 1 dX12_goOn_384 rfl rfl ?_
      refine o_iald C kt_70 rfl hz1 dX12_goOn_385 h (fun h => ?_)
      refine o_cVI C [vI (μ.1 67 z1), vI (μ.1 70 z1)] mb_X12_leaves (by decide) (fun _ hu => c_X12_leaves (hμ.i kt_67 (by decide) _) (hμ.i kt_70 (by decide) _) hμ hu) rfl (Nat.le_of_ble_eq_true rfl) h mi_X12_leaves me_X12_leaves lkm_RX12_310 kt_53 rfl rfl rfl dX12_goOn_386 (fun x1 μ2 hx1 hμ2 h => ?_)
      refine o_i2l C hx1 dX12_goOn_389 ?_
      refine o_ladd C dX12_goOn_390 ?_
      refine o_last C kt_81 rfl ⟨by decide, by decide⟩ (r64_w _) hμ2 dX12_goOn_391 h (fun μ3 hμ3 h => ?_)
      refine o_iinc (lv2 := fun x4 => [(1, vI x4), (0, gR G 53)]) C 1 dX12_goOn_392 rfl (by decide) (fun _ => rfl) h (fun x4 hx4 h => ?_)
      refine o_goto (tgt := 358) C dX12_goOn_395 (by decide) ?_
      exact WM.sub [1, 0] rfl (ih x4 hx4 μ3 hμ3 h)
def k_X12_goOn_344 (kL284 : Int → GM → Option (Int × GM)) (z1 : Int) (s1 : Int) (s2 : Int) (s4 : Int) (s5 : Int) (μ : GM) : Option (Int × GM) :=
  bd (f_X12_leaves s4 s5 μ) fun x1 μ2 =>
  ck (0 ≤ s1 ∧ s1 < 6) (lm (gA μ2 81 s1 (w64 (s2 + x1))) fun μ3 =>
  lt (w32 (z1 + 1)) fun x4 =>
  kL284 x4 μ3)
set_option maxHeartbeats 4000000 in
set_option maxRecDepth 100000 in
theorem w_X12_goOn_344 {G : GX} {u : Int × GM} (C : CX G 1 cX12_goOn 4 RX12) (hQ : gQV G none u) {kL284 : Int → GM → Option (Int × GM)} (hL284 : ∀ (z1 : Int) (hz1 : r32 z1) (μ : GM) (hμ : gRg μ), kL284 z1 μ = some u → WM G 4 μ 284 [(0, gR G 53), (1, vI z1)] []) {z1 : Int} (hz1 : r32 z1) {s1 : Int} (hs1 : r32 s1) {s2 : Int} (hs2 : r64 s2) {s4 : Int} (hs4 : r32 s4) {s5 : Int} (hs5 : r32 s5) {μ : GM} (hμ : gRg μ) (h : k_X12_goOn_344 kL284 z1 s1 s2 s4 s5 μ = some u) : WM G 4 μ 344 [(0, gR G 53), (1, vI z1)] [vI s5, vI s4, gR G 53, vJ s2, vI s1, gR G 81] := by
  unfold k_X12_goOn_344 at h
  refine o_cVI C [vI s4, vI s5] mb_X12_leaves (by decide) (fun _ hu => c_X12_leaves hs4 hs5 hμ hu) rfl (Nat.le_of_ble_eq_true rfl) h mi_X12_leaves me_X12_leaves lkm_RX12_310 kt_53 rfl rfl rfl dX12_goOn_344 (fun x1 μ2 hx1 hμ2 h => ?_)
  refine o_i2l C hx1 dX12_goOn_347 ?_
  refine o_ladd C dX12_goOn_348 ?_
  refine o_last C kt_81 rfl hs1 (r64_w _) hμ2 dX12_goOn_349 h (fun μ3 hμ3 h => ?_)
  refine o_iinc (lv2 := fun x4 => [(1, vI x4), (0, gR G 53)]) C 1 dX12_goOn_350 rfl (by decide) (fun _ => rfl) h (fun x4 hx4 h => ?_)
  refine o_goto (tgt := 284) C dX12_goOn_353 (by decide) ?_
  exact WM.sub [1, 0] rfl (hL284 x4 hx4 μ3 hμ3 h)
def k_X12_goOn_284 : Nat → Int → GM → Option (Int × GM)
  | 0, _, _ => none
  | n + 1, z1, μ =>
    if z1 < (μ.2 53 14) then
      ck (0 ≤ z1 ∧ z1 < 2) (
      ck (0 ≤ (μ.1 64 z1) ∧ (μ.1 64 z1) < 6) (
      ck (0 ≤ z1 ∧ z1 < 2) (
      lt (w32 ((μ.1 80 (μ.1 64 z1)) - (μ.1 65 z1))) fun x1 =>
      ck (0 ≤ 3 ∧ 3 < 6) (
      ck (0 ≤ z1 ∧ z1 < 2) (
      if 0 < x1 then
        ck (0 ≤ z1 ∧ z1 < 2) (
        ck (100 ≠ 0) (
        k_X12_goOn_344 (k_X12_goOn_284 n) z1 3 (μ.1 81 3) (μ.1 64 z1) (w32 (Int.tdiv (w32 ((μ.1 66 z1) * x1)) 100)) μ))
      else
        k_X12_goOn_344 (k_X12_goOn_284 n) z1 3 (μ.1 81 3) (μ.1 64 z1) 0 μ)))))
    else
      k_X12_goOn_358 FU 0 μ
set_option maxHeartbeats 4000000 in
set_option maxRecDepth 100000 in
theorem w_X12_goOn_284 {G : GX} {u : Int × GM} (C : CX G 1 cX12_goOn 4 RX12) (hQ : gQV G none u) : ∀ (n : Nat) (z1 : Int) (hz1 : r32 z1) (μ : GM) (hμ : gRg μ), k_X12_goOn_284 n z1 μ = some u → WM G 4 μ 284 [(0, gR G 53), (1, vI z1)] [] := by
  intro n
  induction n with
  | zero =>
    intro z1 hz1 μ hμ h
    cases h
  | succ n ih =>
    intro z1 hz1 μ hμ h
    rw [k_X12_goOn_284] at h
    refine o_iload_n C 1 dX12_goOn_284 rfl rfl ?_
    refine o_aload_n C 0 dX12_goOn_285 rfl rfl ?_
    refine o_getI (j := 14) C kt_53 rfl rfl (Nat.le_of_ble_eq_true rfl) lkf_RX12_172 dX12_goOn_286 ?_
    refine o_icmp_ge (tgt := 356) C hz1 (hμ.fi kt_53 rfl (by decide)) dX12_goOn_289 (by decide) h (fun _ h => ?_) (fun _ h => ?_)
    · refine o_iconst C dX12_goOn_356 ?_
      refine o_istore_n (lv2 := [(1, vI 0), (0, gR G 53)]) C dX12_goOn_357 rfl (by decide) rfl ?_
      exact WM.sub [1, 0] rfl (w_X12_goOn_358 C hQ FU 0 ⟨by decide, by decide⟩ μ hμ h)
    · refine o_aload_n C 0 dX12_goOn_292 rfl rfl ?_
      refine o_getR (j := 35) C kt_53 rfl rfl (Nat.le_of_ble_eq_true rfl) lkf_RX12_89 dX12_goOn_293 ?_
      refine o_aload_n C 0 dX12_goOn_296 rfl rfl ?_
      refine o_getR (j := 15) C kt_53 rfl rfl (Nat.le_of_ble_eq_true rfl) lkf_RX12_40 dX12_goOn_297 ?_
      refine o_iload_n C 1 dX12_goOn_300 rfl rfl ?_
      refine o_iald C kt_64 rfl hz1 dX12_goOn_301 h (fun h => ?_)
      refine o_iald C kt_80 rfl (hμ.i kt_64 (by decide) _) dX12_goOn_302 h (fun h => ?_)
      refine o_aload_n C 0 dX12_goOn_303 rfl rfl ?_
      refine o_getR (j := 16) C kt_53 rfl rfl (Nat.le_of_ble_eq_true rfl) lkf_RX12_43 dX12_goOn_304 ?_
      refine o_iload_n C 1 dX12_goOn_307 rfl rfl ?_
      refine o_iald C kt_65 rfl hz1 dX12_goOn_308 h (fun h => ?_)
      refine o_isub C dX12_goOn_309 ?_
      refine o_lt h (r32_w _) (fun x1 hx1 h => ?_)
      refine o_istore_n (lv2 := [(2, vI x1), (0, gR G 53), (1, vI z1)]) C dX12_goOn_310 rfl (by decide) rfl ?_
      refine o_aload_n C 1 dX12_goOn_311 rfl rfl ?_
      refine o_getR (j := 36) C kt_53 rfl rfl (Nat.le_of_ble_eq_true rfl) lkf_RX12_92 dX12_goOn_312 ?_
      refine o_iconst C dX12_goOn_315 ?_
      refine o_dup2ri C dX12_goOn_316 ?_
      refine o_lald C kt_81 rfl ⟨by decide, by decide⟩ dX12_goOn_317 h (fun h => ?_)
      refine o_aload_n C 1 dX12_goOn_318 rfl rfl ?_
      refine o_aload_n C 1 dX12_goOn_319 rfl rfl ?_
      refine o_getR (j := 15) C kt_53 rfl rfl (Nat.le_of_ble_eq_true rfl) lkf_RX12_40 dX12_goOn_320 ?_
      refine o_iload_n C 2 dX12_goOn_323 rfl rfl ?_
      refine o_iald C kt_64 rfl hz1 dX12_goOn_324 h (fun h => ?_)
      refine o_iload_n C 0 dX12_goOn_325 rfl rfl ?_
      refine o_if_le (tgt := 343) C hx1 dX12_goOn_326 (by decide) h (fun _ h => ?_) (fun _ h => ?_)
      · refine o_iconst C dX12_goOn_343 ?_
        exact WM.sub [1, 2] rfl (w_X12_goOn_344 C hQ ih hz1 ⟨by decide, by decide⟩ (hμ.l kt_81 _) (hμ.i kt_64 (by decide) _) ⟨by decide, by decide⟩ hμ h)
      · refine o_aload_n C 1 dX12_goOn_329 rfl rfl ?_
        refine o_getR (j := 17) C kt_53 rfl rfl (Nat.le_of_ble_eq_true rfl) lkf_RX12_46 dX12_goOn_330 ?_
        refine o_iload_n C 2 dX12_goOn_333 rfl rfl ?_
        refine o_iald C kt_66 rfl hz1 dX12_goOn_334 h (fun h => ?_)
        refine o_iload_n C 0 dX12_goOn_335 rfl rfl ?_
        refine o_imul C dX12_goOn_336 ?_
        refine o_bipush (v := 100) C dX12_goOn_337 (by decide) ?_
        refine o_idiv C (r32_w _) ⟨by decide, by decide⟩ dX12_goOn_339 h (fun h => ?_)
        refine o_goto (tgt := 344) C dX12_goOn_340 (by decide) ?_
        exact WM.sub [1, 2] rfl (w_X12_goOn_344 C hQ ih hz1 ⟨by decide, by decide⟩ (hμ.l kt_81 _) (hμ.i kt_64 (by decide) _) (r32_w _) hμ h)
def k_X12_goOn_184 : Nat → Int → GM → Option (Int × GM)
  | 0, _, _ => none
  | n + 1, z1, μ =>
    if z1 < (μ.2 53 5) then
      ck (0 ≤ z1 ∧ z1 < 12) (
      ck (0 ≤ z1 ∧ z1 < 12) (
      ck (0 ≤ (μ.1 57 z1) ∧ (μ.1 57 z1) < 6) (
      ck (0 ≤ z1 ∧ z1 < 12) (
      ck (0 ≤ (μ.1 58 z1) ∧ (μ.1 58 z1) < 6) (
      ck (100 ≠ 0) (
      lt (w32 (Int.tdiv (w32 ((μ.1 59 z1) * (w32 ((μ.1 80 (μ.1 57 z1)) - (μ.1 80 (μ.1 58 z1)))))) 100)) fun x1 =>
      if x1 < 0 then
        ck (0 ≤ z1 ∧ z1 < 12) (
        ck (0 ≤ z1 ∧ z1 < 12) (
        bd (f_X12_leaves (μ.1 58 z1) (w32 (-x1)) μ) fun x2 μ3 =>
        bd (f_X12_comes (μ.1 57 z1) x2 μ3) fun _x4 μ5 =>
        lt (w32 (z1 + 1)) fun x6 =>
        k_X12_goOn_184 n x6 μ5))
      else
        ck (0 ≤ z1 ∧ z1 < 12) (
        ck (0 ≤ z1 ∧ z1 < 12) (
        bd (f_X12_leaves (μ.1 57 z1) x1 μ) fun x7 μ8 =>
        bd (f_X12_comes (μ.1 58 z1) x7 μ8) fun _x9 μ10 =>
        lt (w32 (z1 + 1)) fun x11 =>
        k_X12_goOn_184 n x11 μ10))))))))
    else
      k_X12_goOn_284 FU 0 μ
set_option maxHeartbeats 4000000 in
set_option maxRecDepth 100000 in
theorem w_X12_goOn_184 {G : GX} {u : Int × GM} (C : CX G 1 cX12_goOn 4 RX12) (hQ : gQV G none u) : ∀ (n : Nat) (z1 : Int) (hz1 : r32 z1) (μ : GM) (hμ : gRg μ), k_X12_goOn_184 n z1 μ = some u → WM G 4 μ 184 [(0, gR G 53), (1, vI z1)] [] := by
  intro n
  induction n with
  | zero =>
    intro z1 hz1 μ hμ h
    cases h
  | succ n ih =>
    intro z1 hz1 μ hμ h
    rw [k_X12_goOn_184] at h
    refine o_iload_n C 1 dX12_goOn_184 rfl rfl ?_
    refine o_aload_n C 0 dX12_goOn_185 rfl rfl ?_
    refine o_getI (j := 5) C kt_53 rfl rfl (Nat.le_of_ble_eq_true rfl) lkf_RX12_164 dX12_goOn_186 ?_
    refine o_icmp_ge (tgt := 282) C hz1 (hμ.fi kt_53 rfl (by decide)) dX12_goOn_189 (by decide) h (fun _ h => ?_) (fun _ h => ?_)
    · refine o_iconst C dX12_goOn_282 ?_
      refine o_istore_n (lv2 := [(1, vI 0), (0, gR G 53)]) C dX12_goOn_283 rfl (by decide) rfl ?_
      exact WM.sub [1, 0] rfl (w_X12_goOn_284 C hQ FU 0 ⟨by decide, by decide⟩ μ hμ h)
    · refine o_aload_n C 0 dX12_goOn_192 rfl rfl ?_
      refine o_getR (j := 8) C kt_53 rfl rfl (Nat.le_of_ble_eq_true rfl) lkf_RX12_25 dX12_goOn_193 ?_
      refine o_iload_n C 1 dX12_goOn_196 rfl rfl ?_
      refine o_iald C kt_59 rfl hz1 dX12_goOn_197 h (fun h => ?_)
      refine o_aload_n C 0 dX12_goOn_198 rfl rfl ?_
      refine o_getR (j := 35) C kt_53 rfl rfl (Nat.le_of_ble_eq_true rfl) lkf_RX12_89 dX12_goOn_199 ?_
      refine o_aload_n C 0 dX12_goOn_202 rfl rfl ?_
      refine o_getR (j := 6) C kt_53 rfl rfl (Nat.le_of_ble_eq_true rfl) lkf_RX12_19 dX12_goOn_203 ?_
      refine o_iload_n C 1 dX12_goOn_206 rfl rfl ?_
      refine o_iald C kt_57 rfl hz1 dX12_goOn_207 h (fun h => ?_)
      refine o_iald C kt_80 rfl (hμ.i kt_57 (by decide) _) dX12_goOn_208 h (fun h => ?_)
      refine o_aload_n C 0 dX12_goOn_209 rfl rfl ?_
      refine o_getR (j := 35) C kt_53 rfl rfl (Nat.le_of_ble_eq_true rfl) lkf_RX12_89 dX12_goOn_210 ?_
      refine o_aload_n C 0 dX12_goOn_213 rfl rfl ?_
      refine o_getR (j := 7) C kt_53 rfl rfl (Nat.le_of_ble_eq_true rfl) lkf_RX12_22 dX12_goOn_214 ?_
      refine o_iload_n C 1 dX12_goOn_217 rfl rfl ?_
      refine o_iald C kt_58 rfl hz1 dX12_goOn_218 h (fun h => ?_)
      refine o_iald C kt_80 rfl (hμ.i kt_58 (by decide) _) dX12_goOn_219 h (fun h => ?_)
      refine o_isub C dX12_goOn_220 ?_
      refine o_imul C dX12_goOn_221 ?_
      refine o_bipush (v := 100) C dX12_goOn_222 (by decide) ?_
      refine o_idiv C (r32_w _) ⟨by decide, by decide⟩ dX12_goOn_224 h (fun h => ?_)
      refine o_lt h (r32_w _) (fun x1 hx1 h => ?_)
      refine o_istore_n (lv2 := [(2, vI x1), (0, gR G 53), (1, vI z1)]) C dX12_goOn_225 rfl (by decide) rfl ?_
      refine o_iload_n C 0 dX12_goOn_226 rfl rfl ?_
      refine o_if_lt (tgt := 254) C hx1 dX12_goOn_227 (by decide) h (fun _ h => ?_) (fun _ h => ?_)
      · refine o_aload_n C 1 dX12_goOn_254 rfl rfl ?_
        refine o_aload_n C 1 dX12_goOn_255 rfl rfl ?_
        refine o_getR (j := 6) C kt_53 rfl rfl (Nat.le_of_ble_eq_true rfl) lkf_RX12_19 dX12_goOn_256 ?_
        refine o_iload_n C 2 dX12_goOn_259 rfl rfl ?_
        refine o_iald C kt_57 rfl hz1 dX12_goOn_260 h (fun h => ?_)
        refine o_aload_n C 1 dX12_goOn_261 rfl rfl ?_
        refine o_aload_n C 1 dX12_goOn_262 rfl rfl ?_
        refine o_getR (j := 7) C kt_53 rfl rfl (Nat.le_of_ble_eq_true rfl) lkf_RX12_22 dX12_goOn_263 ?_
        refine o_iload_n C 2 dX12_goOn_266 rfl rfl ?_
        refine o_iald C kt_58 rfl hz1 dX12_goOn_267 h (fun h => ?_)
        refine o_iload_n C 0 dX12_goOn_268 rfl rfl ?_
        refine o_ineg C dX12_goOn_269 ?_
        refine o_cVI C [vI (μ.1 58 z1), vI (w32 (-x1))] mb_X12_leaves (by decide) (fun _ hu => c_X12_leaves (hμ.i kt_58 (by decide) _) (r32_w _) hμ hu) rfl (Nat.le_of_ble_eq_true rfl) h mi_X12_leaves me_X12_leaves lkm_RX12_310 kt_53 rfl rfl rfl dX12_goOn_270 (fun x2 μ3 hx2 hμ3 h => ?_)
        refine o_cVV C [vI (μ.1 57 z1), vI x2] mb_X12_comes (by decide) (fun _ hu => c_X12_comes (hμ.i kt_57 (by decide) _) hx2 hμ3 hu) rfl (Nat.le_of_ble_eq_true rfl) h mi_X12_comes me_X12_comes lkm_RX12_306 kt_53 rfl rfl rfl dX12_goOn_273 (fun _x4 μ5 hμ5 h => ?_)
        refine o_iinc (lv2 := fun x6 => [(1, vI x6), (2, vI x1), (0, gR G 53)]) C 2 dX12_goOn_276 rfl (by decide) (fun _ => rfl) h (fun x6 hx6 h => ?_)
        refine o_goto (tgt := 184) C dX12_goOn_279 (by decide) ?_
        exact WM.sub [2, 0] rfl (ih x6 hx6 μ5 hμ5 h)
      · refine o_aload_n C 1 dX12_goOn_230 rfl rfl ?_
        refine o_aload_n C 1 dX12_goOn_231 rfl rfl ?_
        refine o_getR (j := 7) C kt_53 rfl rfl (Nat.le_of_ble_eq_true rfl) lkf_RX12_22 dX12_goOn_232 ?_
        refine o_iload_n C 2 dX12_goOn_235 rfl rfl ?_
        refine o_iald C kt_58 rfl hz1 dX12_goOn_236 h (fun h => ?_)
        refine o_aload_n C 1 dX12_goOn_237 rfl rfl ?_
        refine o_aload_n C 1 dX12_goOn_238 rfl rfl ?_
        refine o_getR (j := 6) C kt_53 rfl rfl (Nat.le_of_ble_eq_true rfl) lkf_RX12_19 dX12_goOn_239 ?_
        refine o_iload_n C 2 dX12_goOn_242 rfl rfl ?_
        refine o_iald C kt_57 rfl hz1 dX12_goOn_243 h (fun h => ?_)
        refine o_iload_n C 0 dX12_goOn_244 rfl rfl ?_
        refine o_cVI C [vI (μ.1 57 z1), vI x1] mb_X12_leaves (by decide) (fun _ hu => c_X12_leaves (hμ.i kt_57 (by decide) _) hx1 hμ hu) rfl (Nat.le_of_ble_eq_true rfl) h mi_X12_leaves me_X12_leaves lkm_RX12_310 kt_53 rfl rfl rfl dX12_goOn_245 (fun x7 μ8 hx7 hμ8 h => ?_)
        refine o_cVV C [vI (μ.1 58 z1), vI x7] mb_X12_comes (by decide) (fun _ hu => c_X12_comes (hμ.i kt_58 (by decide) _) hx7 hμ8 hu) rfl (Nat.le_of_ble_eq_true rfl) h mi_X12_comes me_X12_comes lkm_RX12_306 kt_53 rfl rfl rfl dX12_goOn_248 (fun _x9 μ10 hμ10 h => ?_)
        refine o_goto (tgt := 276) C dX12_goOn_251 (by decide) ?_
        refine o_iinc (lv2 := fun x11 => [(1, vI x11), (2, vI x1), (0, gR G 53)]) C 2 dX12_goOn_276 rfl (by decide) (fun _ => rfl) h (fun x11 hx11 h => ?_)
        refine o_goto (tgt := 184) C dX12_goOn_279 (by decide) ?_
        exact WM.sub [2, 0] rfl (ih x11 hx11 μ10 hμ10 h)
def k_X12_goOn_129 (kL72 : Int → GM → Option (Int × GM)) (z1 : Int) (z2 : Int) (s0 : Int) (s1 : Int) (s2 : Int) (μ : GM) : Option (Int × GM) :=
  ck (100 ≠ 0) (
  lt (w32 (Int.tdiv (w32 (s0 * (w32 (s1 - s2)))) 100)) fun x1 =>
  if x1 < 0 then
    ck (0 ≤ 2 ∧ 2 < 6) (
    bd (f_X12_leaves z2 (w32 (-x1)) μ) fun x2 μ3 =>
    ck (0 ≤ 2 ∧ 2 < 6) (lm (gA μ3 81 2 (w64 ((μ.1 81 2) + x2))) fun μ4 =>
    lt (w32 (z1 + 1)) fun x5 =>
    kL72 x5 μ4))
  else
    bd (f_X12_comes z2 x1 μ) fun _x6 μ7 =>
    ck (0 ≤ 1 ∧ 1 < 6) (
    ck (0 ≤ 1 ∧ 1 < 6) (lm (gA μ7 81 1 (w64 ((μ7.1 81 1) + x1))) fun μ8 =>
    lt (w32 (z1 + 1)) fun x9 =>
    kL72 x9 μ8)))
set_option maxHeartbeats 4000000 in
set_option maxRecDepth 100000 in
theorem w_X12_goOn_129 {G : GX} {u : Int × GM} (C : CX G 1 cX12_goOn 4 RX12) (hQ : gQV G none u) {kL72 : Int → GM → Option (Int × GM)} (hL72 : ∀ (z1 : Int) (hz1 : r32 z1) (μ : GM) (hμ : gRg μ), kL72 z1 μ = some u → WM G 4 μ 72 [(0, gR G 53), (1, vI z1)] []) {z1 : Int} (hz1 : r32 z1) {z2 : Int} (hz2 : r32 z2) {s0 : Int} (hs0 : r32 s0) {s1 : Int} (hs1 : r32 s1) {s2 : Int} (hs2 : r32 s2) {μ : GM} (hμ : gRg μ) (h : k_X12_goOn_129 kL72 z1 z2 s0 s1 s2 μ = some u) : WM G 4 μ 129 [(0, gR G 53), (1, vI z1), (2, vI z2)] [vI s2, vI s1, vI s0] := by
  unfold k_X12_goOn_129 at h
  refine o_isub C dX12_goOn_129 ?_
  refine o_imul C dX12_goOn_130 ?_
  refine o_bipush (v := 100) C dX12_goOn_131 (by decide) ?_
  refine o_idiv C (r32_w _) ⟨by decide, by decide⟩ dX12_goOn_133 h (fun h => ?_)
  refine o_lt h (r32_w _) (fun x1 hx1 h => ?_)
  refine o_istore_n (lv2 := [(3, vI x1), (0, gR G 53), (1, vI z1), (2, vI z2)]) C dX12_goOn_134 rfl (by decide) rfl ?_
  refine o_iload_n C 0 dX12_goOn_135 rfl rfl ?_
  refine o_if_lt (tgt := 159) C hx1 dX12_goOn_136 (by decide) h (fun _ h => ?_) (fun _ h => ?_)
  · refine o_aload_n C 1 dX12_goOn_159 rfl rfl ?_
    refine o_getR (j := 36) C kt_53 rfl rfl (Nat.le_of_ble_eq_true rfl) lkf_RX12_92 dX12_goOn_160 ?_
    refine o_iconst C dX12_goOn_163 ?_
    refine o_dup2ri C dX12_goOn_164 ?_
    refine o_lald C kt_81 rfl ⟨by decide, by decide⟩ dX12_goOn_165 h (fun h => ?_)
    refine o_aload_n C 1 dX12_goOn_166 rfl rfl ?_
    refine o_iload_n C 3 dX12_goOn_167 rfl rfl ?_
    refine o_iload_n C 0 dX12_goOn_168 rfl rfl ?_
    refine o_ineg C dX12_goOn_169 ?_
    refine o_cVI C [vI z2, vI (w32 (-x1))] mb_X12_leaves (by decide) (fun _ hu => c_X12_leaves hz2 (r32_w _) hμ hu) rfl (Nat.le_of_ble_eq_true rfl) h mi_X12_leaves me_X12_leaves lkm_RX12_310 kt_53 rfl rfl rfl dX12_goOn_170 (fun x2 μ3 hx2 hμ3 h => ?_)
    refine o_i2l C hx2 dX12_goOn_173 ?_
    refine o_ladd C dX12_goOn_174 ?_
    refine o_last C kt_81 rfl ⟨by decide, by decide⟩ (r64_w _) hμ3 dX12_goOn_175 h (fun μ4 hμ4 h => ?_)
    refine o_iinc (lv2 := fun x5 => [(1, vI x5), (3, vI x1), (0, gR G 53), (2, vI z2)]) C 2 dX12_goOn_176 rfl (by decide) (fun _ => rfl) h (fun x5 hx5 h => ?_)
    refine o_goto (tgt := 72) C dX12_goOn_179 (by decide) ?_
    exact WM.sub [2, 0] rfl (hL72 x5 hx5 μ4 hμ4 h)
  · refine o_aload_n C 1 dX12_goOn_139 rfl rfl ?_
    refine o_iload_n C 3 dX12_goOn_140 rfl rfl ?_
    refine o_iload_n C 0 dX12_goOn_141 rfl rfl ?_
    refine o_cVV C [vI z2, vI x1] mb_X12_comes (by decide) (fun _ hu => c_X12_comes hz2 hx1 hμ hu) rfl (Nat.le_of_ble_eq_true rfl) h mi_X12_comes me_X12_comes lkm_RX12_306 kt_53 rfl rfl rfl dX12_goOn_142 (fun _x6 μ7 hμ7 h => ?_)
    refine o_aload_n C 1 dX12_goOn_145 rfl rfl ?_
    refine o_getR (j := 36) C kt_53 rfl rfl (Nat.le_of_ble_eq_true rfl) lkf_RX12_92 dX12_goOn_146 ?_
    refine o_iconst C dX12_goOn_149 ?_
    refine o_dup2ri C dX12_goOn_150 ?_
    refine o_lald C kt_81 rfl ⟨by decide, by decide⟩ dX12_goOn_151 h (fun h => ?_)
    refine o_iload_n C 0 dX12_goOn_152 rfl rfl ?_
    refine o_i2l C hx1 dX12_goOn_153 ?_
    refine o_ladd C dX12_goOn_154 ?_
    refine o_last C kt_81 rfl ⟨by decide, by decide⟩ (r64_w _) hμ7 dX12_goOn_155 h (fun μ8 hμ8 h => ?_)
    refine o_goto (tgt := 176) C dX12_goOn_156 (by decide) ?_
    refine o_iinc (lv2 := fun x9 => [(1, vI x9), (3, vI x1), (0, gR G 53), (2, vI z2)]) C 2 dX12_goOn_176 rfl (by decide) (fun _ => rfl) h (fun x9 hx9 h => ?_)
    refine o_goto (tgt := 72) C dX12_goOn_179 (by decide) ?_
    exact WM.sub [2, 0] rfl (hL72 x9 hx9 μ8 hμ8 h)
def k_X12_goOn_72 : Nat → Int → GM → Option (Int × GM)
  | 0, _, _ => none
  | n + 1, z1, μ =>
    if z1 < (μ.2 53 9) then
      ck (0 ≤ z1 ∧ z1 < 3) (
      lt (μ.1 60 z1) fun x1 =>
      ck (0 ≤ z1 ∧ z1 < 3) (
      ck (0 ≤ z1 ∧ z1 < 3) (
      ck (0 ≤ x1 ∧ x1 < 6) (
      ck (0 ≤ z1 ∧ z1 < 3) (
      if (μ.1 80 x1) < (μ.1 62 z1) then
        ck (0 ≤ z1 ∧ z1 < 3) (
        k_X12_goOn_129 (k_X12_goOn_72 n) z1 x1 (μ.1 63 z1) (μ.1 61 z1) (μ.1 62 z1) μ)
      else
        ck (0 ≤ x1 ∧ x1 < 6) (
        k_X12_goOn_129 (k_X12_goOn_72 n) z1 x1 (μ.1 63 z1) (μ.1 61 z1) (μ.1 80 x1) μ))))))
    else
      k_X12_goOn_184 FU 0 μ
set_option maxHeartbeats 4000000 in
set_option maxRecDepth 100000 in
theorem w_X12_goOn_72 {G : GX} {u : Int × GM} (C : CX G 1 cX12_goOn 4 RX12) (hQ : gQV G none u) : ∀ (n : Nat) (z1 : Int) (hz1 : r32 z1) (μ : GM) (hμ : gRg μ), k_X12_goOn_72 n z1 μ = some u → WM G 4 μ 72 [(0, gR G 53), (1, vI z1)] [] := by
  intro n
  induction n with
  | zero =>
    intro z1 hz1 μ hμ h
    cases h
  | succ n ih =>
    intro z1 hz1 μ hμ h
    rw [k_X12_goOn_72] at h
    refine o_iload_n C 1 dX12_goOn_72 rfl rfl ?_
    refine o_aload_n C 0 dX12_goOn_73 rfl rfl ?_
    refine o_getI (j := 9) C kt_53 rfl rfl (Nat.le_of_ble_eq_true rfl) lkf_RX12_169 dX12_goOn_74 ?_
    refine o_icmp_ge (tgt := 182) C hz1 (hμ.fi kt_53 rfl (by decide)) dX12_goOn_77 (by decide) h (fun _ h => ?_) (fun _ h => ?_)
    · refine o_iconst C dX12_goOn_182 ?_
      refine o_istore_n (lv2 := [(1, vI 0), (0, gR G 53)]) C dX12_goOn_183 rfl (by decide) rfl ?_
      exact WM.sub [1, 0] rfl (w_X12_goOn_184 C hQ FU 0 ⟨by decide, by decide⟩ μ hμ h)
    · refine o_aload_n C 0 dX12_goOn_80 rfl rfl ?_
      refine o_getR (j := 10) C kt_53 rfl rfl (Nat.le_of_ble_eq_true rfl) lkf_RX12_28 dX12_goOn_81 ?_
      refine o_iload_n C 1 dX12_goOn_84 rfl rfl ?_
      refine o_iald C kt_60 rfl hz1 dX12_goOn_85 h (fun h => ?_)
      refine o_lt h (hμ.i kt_60 (by decide) _) (fun x1 hx1 h => ?_)
      refine o_istore_n (lv2 := [(2, vI x1), (0, gR G 53), (1, vI z1)]) C dX12_goOn_86 rfl (by decide) rfl ?_
      refine o_aload_n C 1 dX12_goOn_87 rfl rfl ?_
      refine o_getR (j := 13) C kt_53 rfl rfl (Nat.le_of_ble_eq_true rfl) lkf_RX12_37 dX12_goOn_88 ?_
      refine o_iload_n C 2 dX12_goOn_91 rfl rfl ?_
      refine o_iald C kt_63 rfl hz1 dX12_goOn_92 h (fun h => ?_)
      refine o_aload_n C 1 dX12_goOn_93 rfl rfl ?_
      refine o_getR (j := 11) C kt_53 rfl rfl (Nat.le_of_ble_eq_true rfl) lkf_RX12_31 dX12_goOn_94 ?_
      refine o_iload_n C 2 dX12_goOn_97 rfl rfl ?_
      refine o_iald C kt_61 rfl hz1 dX12_goOn_98 h (fun h => ?_)
      refine o_aload_n C 1 dX12_goOn_99 rfl rfl ?_
      refine o_getR (j := 35) C kt_53 rfl rfl (Nat.le_of_ble_eq_true rfl) lkf_RX12_89 dX12_goOn_100 ?_
      refine o_iload_n C 0 dX12_goOn_103 rfl rfl ?_
      refine o_iald C kt_80 rfl hx1 dX12_goOn_104 h (fun h => ?_)
      refine o_aload_n C 1 dX12_goOn_105 rfl rfl ?_
      refine o_getR (j := 12) C kt_53 rfl rfl (Nat.le_of_ble_eq_true rfl) lkf_RX12_34 dX12_goOn_106 ?_
      refine o_iload_n C 2 dX12_goOn_109 rfl rfl ?_
      refine o_iald C kt_62 rfl hz1 dX12_goOn_110 h (fun h => ?_)
      refine o_icmp_ge (tgt := 123) C (hμ.i kt_80 (by decide) _) (hμ.i kt_62 (by decide) _) dX12_goOn_111 (by decide) h (fun _ h => ?_) (fun _ h => ?_)
      · refine o_aload_n C 1 dX12_goOn_123 rfl rfl ?_
        refine o_getR (j := 35) C kt_53 rfl rfl (Nat.le_of_ble_eq_true rfl) lkf_RX12_89 dX12_goOn_124 ?_
        refine o_iload_n C 0 dX12_goOn_127 rfl rfl ?_
        refine o_iald C kt_80 rfl hx1 dX12_goOn_128 h (fun h => ?_)
        exact WM.sub [1, 2, 0] rfl (w_X12_goOn_129 C hQ ih hz1 hx1 (hμ.i kt_63 (by decide) _) (hμ.i kt_61 (by decide) _) (hμ.i kt_80 (by decide) _) hμ h)
      · refine o_aload_n C 1 dX12_goOn_114 rfl rfl ?_
        refine o_getR (j := 12) C kt_53 rfl rfl (Nat.le_of_ble_eq_true rfl) lkf_RX12_34 dX12_goOn_115 ?_
        refine o_iload_n C 2 dX12_goOn_118 rfl rfl ?_
        refine o_iald C kt_62 rfl hz1 dX12_goOn_119 h (fun h => ?_)
        refine o_goto (tgt := 129) C dX12_goOn_120 (by decide) ?_
        exact WM.sub [1, 2, 0] rfl (w_X12_goOn_129 C hQ ih hz1 hx1 (hμ.i kt_63 (by decide) _) (hμ.i kt_61 (by decide) _) (hμ.i kt_62 (by decide) _) hμ h)
def k_X12_goOn_29 : Nat → Int → GM → Option (Int × GM)
  | 0, _, _ => none
  | n + 1, z1, μ =>
    if z1 < (μ.2 53 1) then
      ck (0 ≤ z1 ∧ z1 < 6) (
      bd (f_X12_comes z1 (μ.1 55 z1) μ) fun _x1 μ2 =>
      ck (0 ≤ 0 ∧ 0 < 6) (
      ck (0 ≤ z1 ∧ z1 < 6) (
      ck (0 ≤ 0 ∧ 0 < 6) (lm (gA μ2 81 0 (w64 ((μ2.1 81 0) + (μ2.1 55 z1)))) fun μ3 =>
      lt (w32 (z1 + 1)) fun x4 =>
      k_X12_goOn_29 n x4 μ3))))
    else
      k_X12_goOn_72 FU 0 μ
set_option maxHeartbeats 4000000 in
set_option maxRecDepth 100000 in
theorem w_X12_goOn_29 {G : GX} {u : Int × GM} (C : CX G 1 cX12_goOn 4 RX12) (hQ : gQV G none u) : ∀ (n : Nat) (z1 : Int) (hz1 : r32 z1) (μ : GM) (hμ : gRg μ), k_X12_goOn_29 n z1 μ = some u → WM G 4 μ 29 [(0, gR G 53), (1, vI z1)] [] := by
  intro n
  induction n with
  | zero =>
    intro z1 hz1 μ hμ h
    cases h
  | succ n ih =>
    intro z1 hz1 μ hμ h
    rw [k_X12_goOn_29] at h
    refine o_iload_n C 1 dX12_goOn_29 rfl rfl ?_
    refine o_aload_n C 0 dX12_goOn_30 rfl rfl ?_
    refine o_getI (j := 1) C kt_53 rfl rfl (Nat.le_of_ble_eq_true rfl) lkf_RX12_137 dX12_goOn_31 ?_
    refine o_icmp_ge (tgt := 70) C hz1 (hμ.fi kt_53 rfl (by decide)) dX12_goOn_34 (by decide) h (fun _ h => ?_) (fun _ h => ?_)
    · refine o_iconst C dX12_goOn_70 ?_
      refine o_istore_n (lv2 := [(1, vI 0), (0, gR G 53)]) C dX12_goOn_71 rfl (by decide) rfl ?_
      exact WM.sub [1, 0] rfl (w_X12_goOn_72 C hQ FU 0 ⟨by decide, by decide⟩ μ hμ h)
    · refine o_aload_n C 0 dX12_goOn_37 rfl rfl ?_
      refine o_iload_n C 1 dX12_goOn_38 rfl rfl ?_
      refine o_aload_n C 0 dX12_goOn_39 rfl rfl ?_
      refine o_getR (j := 3) C kt_53 rfl rfl (Nat.le_of_ble_eq_true rfl) lkf_RX12_13 dX12_goOn_40 ?_
      refine o_iload_n C 1 dX12_goOn_43 rfl rfl ?_
      refine o_iald C kt_55 rfl hz1 dX12_goOn_44 h (fun h => ?_)
      refine o_cVV C [vI z1, vI (μ.1 55 z1)] mb_X12_comes (by decide) (fun _ hu => c_X12_comes hz1 (hμ.i kt_55 (by decide) _) hμ hu) rfl (Nat.le_of_ble_eq_true rfl) h mi_X12_comes me_X12_comes lkm_RX12_306 kt_53 rfl rfl rfl dX12_goOn_45 (fun _x1 μ2 hμ2 h => ?_)
      refine o_aload_n C 0 dX12_goOn_48 rfl rfl ?_
      refine o_getR (j := 36) C kt_53 rfl rfl (Nat.le_of_ble_eq_true rfl) lkf_RX12_92 dX12_goOn_49 ?_
      refine o_iconst C dX12_goOn_52 ?_
      refine o_dup2ri C dX12_goOn_53 ?_
      refine o_lald C kt_81 rfl ⟨by decide, by decide⟩ dX12_goOn_54 h (fun h => ?_)
      refine o_aload_n C 0 dX12_goOn_55 rfl rfl ?_
      refine o_getR (j := 3) C kt_53 rfl rfl (Nat.le_of_ble_eq_true rfl) lkf_RX12_13 dX12_goOn_56 ?_
      refine o_iload_n C 1 dX12_goOn_59 rfl rfl ?_
      refine o_iald C kt_55 rfl hz1 dX12_goOn_60 h (fun h => ?_)
      refine o_i2l C (hμ2.i kt_55 (by decide) _) dX12_goOn_61 ?_
      refine o_ladd C dX12_goOn_62 ?_
      refine o_last C kt_81 rfl ⟨by decide, by decide⟩ (r64_w _) hμ2 dX12_goOn_63 h (fun μ3 hμ3 h => ?_)
      refine o_iinc (lv2 := fun x4 => [(1, vI x4), (0, gR G 53)]) C 1 dX12_goOn_64 rfl (by decide) (fun _ => rfl) h (fun x4 hx4 h => ?_)
      refine o_goto (tgt := 29) C dX12_goOn_67 (by decide) ?_
      exact WM.sub [1, 0] rfl (ih x4 hx4 μ3 hμ3 h)
def k_X12_goOn_2 : Nat → Int → GM → Option (Int × GM)
  | 0, _, _ => none
  | n + 1, z1, μ =>
    if z1 < (μ.2 53 1) then
      bd (f_X12_markOf z1 μ) fun x1 μ2 =>
      ck (0 ≤ z1 ∧ z1 < 6) (lm (gA μ2 80 z1 x1) fun μ3 =>
      lt (w32 (z1 + 1)) fun x4 =>
      k_X12_goOn_2 n x4 μ3)
    else
      k_X12_goOn_29 FU 0 μ
set_option maxHeartbeats 4000000 in
set_option maxRecDepth 100000 in
theorem w_X12_goOn_2 {G : GX} {u : Int × GM} (C : CX G 1 cX12_goOn 4 RX12) (hQ : gQV G none u) : ∀ (n : Nat) (z1 : Int) (hz1 : r32 z1) (μ : GM) (hμ : gRg μ), k_X12_goOn_2 n z1 μ = some u → WM G 4 μ 2 [(0, gR G 53), (1, vI z1)] [] := by
  intro n
  induction n with
  | zero =>
    intro z1 hz1 μ hμ h
    cases h
  | succ n ih =>
    intro z1 hz1 μ hμ h
    rw [k_X12_goOn_2] at h
    refine o_iload_n C 1 dX12_goOn_2 rfl rfl ?_
    refine o_aload_n C 0 dX12_goOn_3 rfl rfl ?_
    refine o_getI (j := 1) C kt_53 rfl rfl (Nat.le_of_ble_eq_true rfl) lkf_RX12_137 dX12_goOn_4 ?_
    refine o_icmp_ge (tgt := 27) C hz1 (hμ.fi kt_53 rfl (by decide)) dX12_goOn_7 (by decide) h (fun _ h => ?_) (fun _ h => ?_)
    · refine o_iconst C dX12_goOn_27 ?_
      refine o_istore_n (lv2 := [(1, vI 0), (0, gR G 53)]) C dX12_goOn_28 rfl (by decide) rfl ?_
      exact WM.sub [1, 0] rfl (w_X12_goOn_29 C hQ FU 0 ⟨by decide, by decide⟩ μ hμ h)
    · refine o_aload_n C 0 dX12_goOn_10 rfl rfl ?_
      refine o_getR (j := 35) C kt_53 rfl rfl (Nat.le_of_ble_eq_true rfl) lkf_RX12_89 dX12_goOn_11 ?_
      refine o_iload_n C 1 dX12_goOn_14 rfl rfl ?_
      refine o_aload_n C 0 dX12_goOn_15 rfl rfl ?_
      refine o_iload_n C 1 dX12_goOn_16 rfl rfl ?_
      refine o_cVI C [vI z1] mb_X12_markOf (by decide) (fun _ hu => c_X12_markOf hz1 hμ hu) rfl (Nat.le_of_ble_eq_true rfl) h mi_X12_markOf me_X12_markOf lkm_RX12_303 kt_53 rfl rfl rfl dX12_goOn_17 (fun x1 μ2 hx1 hμ2 h => ?_)
      refine o_iast C kt_80 rfl hz1 hx1 hμ2 dX12_goOn_20 h (fun μ3 hμ3 h => ?_)
      refine o_iinc (lv2 := fun x4 => [(1, vI x4), (0, gR G 53)]) C 1 dX12_goOn_21 rfl (by decide) (fun _ => rfl) h (fun x4 hx4 h => ?_)
      refine o_goto (tgt := 2) C dX12_goOn_24 (by decide) ?_
      exact WM.sub [1, 0] rfl (ih x4 hx4 μ3 hμ3 h)
def f_X12_goOn (μ : GM) : Option (Int × GM) :=
  k_X12_goOn_2 FU 0 μ
set_option maxHeartbeats 4000000 in
set_option maxRecDepth 100000 in
theorem w_X12_goOn_0 {G : GX} {u : Int × GM} (C : CX G 1 cX12_goOn 4 RX12) (hQ : gQV G none u) {μ : GM} (hμ : gRg μ) (h : f_X12_goOn μ = some u) : WM G 4 μ 0 [(0, gR G 53)] [] := by
  unfold f_X12_goOn at h
  refine o_iconst C dX12_goOn_0 ?_
  refine o_istore_n (lv2 := [(1, vI 0), (0, gR G 53)]) C dX12_goOn_1 rfl (by decide) rfl ?_
  exact WM.sub [1, 0] rfl (w_X12_goOn_2 C hQ FU 0 ⟨by decide, by decide⟩ μ hμ h)
theorem c_X12_goOn {μ : GM} (hμ : gRg μ) {u : Int × GM} (h : f_X12_goOn μ = some u) : MtV 1 yX12_goOn cX12_goOn 4 none (fun ad => [.ref (ad 53)]) μ u := MtV.of pf_X12_goOn (fun _ => Nat.le_of_ble_eq_true rfl) (fun G C hQ => w_X12_goOn_0 C hQ hμ h)
def k_X12_tick_41 : Nat → Int → Int → GM → Option (Int × GM)
  | 0, _, _, _ => none
  | n + 1, z2, z3, μ =>
    if z3 < (μ.2 53 1) then
      ck (0 ≤ z3 ∧ z3 < 6) (
      lt (w32 (z2 + (μ.1 79 z3))) fun x1 =>
      lt (w32 (z3 + 1)) fun x2 =>
      k_X12_tick_41 n x1 x2 μ)
    else
      some (z2, μ)
set_option maxHeartbeats 4000000 in
set_option maxRecDepth 100000 in
theorem w_X12_tick_41 {G : GX} {u : Int × GM} (C : CX G 2 cX12_tick 4 RX12) (hQ : gQI G (some .int) u) : ∀ (n : Nat) (z2 : Int) (hz2 : r32 z2) (z3 : Int) (hz3 : r32 z3) (μ : GM) (hμ : gRg μ), k_X12_tick_41 n z2 z3 μ = some u → WM G 4 μ 41 [(0, gR G 53), (2, vI z2), (3, vI z3)] [] := by
  intro n
  induction n with
  | zero =>
    intro z2 hz2 z3 hz3 μ hμ h
    cases h
  | succ n ih =>
    intro z2 hz2 z3 hz3 μ hμ h
    rw [k_X12_tick_41] at h
    refine o_iload_n C 2 dX12_tick_41 rfl rfl ?_
    refine o_aload_n C 0 dX12_tick_42 rfl rfl ?_
    refine o_getI (j := 1) C kt_53 rfl rfl (Nat.le_of_ble_eq_true rfl) lkf_RX12_137 dX12_tick_43 ?_
    refine o_icmp_ge (tgt := 64) C hz3 (hμ.fi kt_53 rfl (by decide)) dX12_tick_46 (by decide) h (fun _ h => ?_) (fun _ h => ?_)
    · refine o_iload_n C 1 dX12_tick_64 rfl rfl ?_
      exact o_iret C hQ dX12_tick_65 h hz2 hμ
    · refine o_iload_n C 1 dX12_tick_49 rfl rfl ?_
      refine o_aload_n C 0 dX12_tick_50 rfl rfl ?_
      refine o_getR (j := 34) C kt_53 rfl rfl (Nat.le_of_ble_eq_true rfl) lkf_RX12_86 dX12_tick_51 ?_
      refine o_iload_n C 2 dX12_tick_54 rfl rfl ?_
      refine o_iald C kt_79 rfl hz3 dX12_tick_55 h (fun h => ?_)
      refine o_iadd C dX12_tick_56 ?_
      refine o_lt h (r32_w _) (fun x1 hx1 h => ?_)
      refine o_istore_n (lv2 := [(2, vI x1), (0, gR G 53), (3, vI z3)]) C dX12_tick_57 rfl (by decide) rfl ?_
      refine o_iinc (lv2 := fun x2 => [(3, vI x2), (2, vI x1), (0, gR G 53)]) C 2 dX12_tick_58 rfl (by decide) (fun _ => rfl) h (fun x2 hx2 h => ?_)
      refine o_goto (tgt := 41) C dX12_tick_61 (by decide) ?_
      exact WM.sub [2, 1, 0] rfl (ih x1 hx1 x2 hx2 μ hμ h)
def k_X12_tick_22 : Nat → Int → Int → GM → Option (Int × GM)
  | 0, _, _, _ => none
  | n + 1, z1, z2, μ =>
    if z2 < z1 then
      bd (f_X12_goOn μ) fun _x1 μ2 =>
      lt (w32 (z2 + 1)) fun x3 =>
      k_X12_tick_22 n z1 x3 μ2
    else
      k_X12_tick_41 FU 0 0 μ
set_option maxHeartbeats 4000000 in
set_option maxRecDepth 100000 in
theorem w_X12_tick_22 {G : GX} {u : Int × GM} (C : CX G 2 cX12_tick 4 RX12) (hQ : gQI G (some .int) u) : ∀ (n : Nat) (z1 : Int) (hz1 : r32 z1) (z2 : Int) (hz2 : r32 z2) (μ : GM) (hμ : gRg μ), k_X12_tick_22 n z1 z2 μ = some u → WM G 4 μ 22 [(0, gR G 53), (1, vI z1), (2, vI z2)] [] := by
  intro n
  induction n with
  | zero =>
    intro z1 hz1 z2 hz2 μ hμ h
    cases h
  | succ n ih =>
    intro z1 hz1 z2 hz2 μ hμ h
    rw [k_X12_tick_22] at h
    refine o_iload_n C 2 dX12_tick_22 rfl rfl ?_
    refine o_iload_n C 1 dX12_tick_23 rfl rfl ?_
    refine o_icmp_ge (tgt := 37) C hz2 hz1 dX12_tick_24 (by decide) h (fun _ h => ?_) (fun _ h => ?_)
    · refine o_iconst C dX12_tick_37 ?_
      refine o_istore_n (lv2 := [(2, vI 0), (0, gR G 53), (1, vI z1)]) C dX12_tick_38 rfl (by decide) rfl ?_
      refine o_iconst C dX12_tick_39 ?_
      refine o_istore_n (lv2 := [(3, vI 0), (2, vI 0), (0, gR G 53), (1, vI z1)]) C dX12_tick_40 rfl (by decide) rfl ?_
      exact WM.sub [2, 1, 0] rfl (w_X12_tick_41 C hQ FU 0 ⟨by decide, by decide⟩ 0 ⟨by decide, by decide⟩ μ hμ h)
    · refine o_aload_n C 0 dX12_tick_27 rfl rfl ?_
      refine o_cVV C [] mb_X12_goOn (by decide) (fun _ hu => c_X12_goOn hμ hu) rfl (Nat.le_of_ble_eq_true rfl) h mi_X12_goOn me_X12_goOn lkm_RX12_314 kt_53 rfl rfl rfl dX12_tick_28 (fun _x1 μ2 hμ2 h => ?_)
      refine o_iinc (lv2 := fun x3 => [(2, vI x3), (0, gR G 53), (1, vI z1)]) C 2 dX12_tick_31 rfl (by decide) (fun _ => rfl) h (fun x3 hx3 h => ?_)
      refine o_goto (tgt := 22) C dX12_tick_34 (by decide) ?_
      exact WM.sub [1, 2, 0] rfl (ih z1 hz1 x3 hx3 μ2 hμ2 h)
def f_X12_tick (z1 : Int) (μ : GM) : Option (Int × GM) :=
  lm (gF μ 53 0 0) fun μ1 =>
  bd (f_X12_in z1 1 100 μ1) fun x2 μ3 =>
  if x2 = 0 then
    some ((-10000002), μ3)
  else
    k_X12_tick_22 FU z1 0 μ3
set_option maxHeartbeats 4000000 in
set_option maxRecDepth 100000 in
theorem w_X12_tick_0 {G : GX} {u : Int × GM} (C : CX G 2 cX12_tick 4 RX12) (hQ : gQI G (some .int) u) {z1 : Int} (hz1 : r32 z1) {μ : GM} (hμ : gRg μ) (h : f_X12_tick z1 μ = some u) : WM G 4 μ 0 [(0, gR G 53), (1, vI z1)] [] := by
  unfold f_X12_tick at h
  refine o_aload_n C 0 dX12_tick_0 rfl rfl ?_
  refine o_iconst C dX12_tick_1 ?_
  refine o_putI (j := 0) C kt_53 rfl rfl tyX12_ok nmX12 (Nat.le_of_ble_eq_true rfl) lkf_RX12_133 rfl rfl ⟨by decide, by decide⟩ hμ dX12_tick_2 h (fun μ1 hμ1 h => ?_)
  refine o_iload_n C 1 dX12_tick_5 rfl rfl ?_
  refine o_i2l C hz1 dX12_tick_6 ?_
  refine o_lconst (v := 1) C dX12_tick_7 rfl ?_
  refine o_ldc2 (v := 100) C lkc_RX12_290 rfl dX12_tick_8 ?_
  refine o_cSI C [vJ z1, vJ 1, vJ 100] mb_X12_in (by decide) (fun _ hu => c_X12_in (r32_r64 hz1) ⟨by decide, by decide⟩ ⟨by decide, by decide⟩ hμ1 hu) rfl (Nat.le_of_ble_eq_true rfl) h ms_X12_in lkm_RX12_140 rfl rfl dX12_tick_11 (fun x2 μ3 hx2 hμ3 h => ?_)
  refine o_if_ne (tgt := 20) C hx2 dX12_tick_14 (by decide) h (fun _ h => ?_) (fun _ h => ?_)
  · refine o_iconst C dX12_tick_20 ?_
    refine o_istore_n (lv2 := [(2, vI 0), (0, gR G 53), (1, vI z1)]) C dX12_tick_21 rfl (by decide) rfl ?_
    exact WM.sub [1, 2, 0] rfl (w_X12_tick_22 C hQ FU z1 hz1 0 ⟨by decide, by decide⟩ μ3 hμ3 h)
  · refine o_ldc (v := (-10000002)) C lkc_RX12_153 rfl dX12_tick_17 ?_
    exact o_iret C hQ dX12_tick_19 h ⟨by decide, by decide⟩ hμ3
theorem c_X12_tick {z1 : Int} (hz1 : r32 z1) {μ : GM} (hμ : gRg μ) {u : Int × GM} (h : f_X12_tick z1 μ = some u) : MtI 2 yX12_tick cX12_tick 4 (some .int) (fun ad => [.ref (ad 53), vI z1]) μ u := MtI.of pf_X12_tick (fun _ => Nat.le_of_ble_eq_true rfl) (fun G C hQ => w_X12_tick_0 C hQ hz1 hμ h)
def f_X12_book (z1 : Int) (μ : GM) : Option (Int × GM) :=
  lm (gF μ 53 0 0) fun μ1 =>
  bd (f_X12_in z1 0 5 μ1) fun x2 μ3 =>
  if x2 = 0 then
    some ((-10000002), μ3)
  else
    ck (0 ≤ z1 ∧ z1 < 6) (
    some ((μ3.1 81 z1), μ3))
set_option maxHeartbeats 4000000 in
set_option maxRecDepth 100000 in
theorem w_X12_book_0 {G : GX} {u : Int × GM} (C : CX G 1 cX12_book 2 RX12) (hQ : gQL G (some .long) u) {z1 : Int} (hz1 : r32 z1) {μ : GM} (hμ : gRg μ) (h : f_X12_book z1 μ = some u) : WM G 2 μ 0 [(0, gR G 53), (1, vI z1)] [] := by
  unfold f_X12_book at h
  refine o_aload_n C 0 dX12_book_0 rfl rfl ?_
  refine o_iconst C dX12_book_1 ?_
  refine o_putI (j := 0) C kt_53 rfl rfl tyX12_ok nmX12 (Nat.le_of_ble_eq_true rfl) lkf_RX12_133 rfl rfl ⟨by decide, by decide⟩ hμ dX12_book_2 h (fun μ1 hμ1 h => ?_)
  refine o_iload_n C 1 dX12_book_5 rfl rfl ?_
  refine o_i2l C hz1 dX12_book_6 ?_
  refine o_lconst (v := 0) C dX12_book_7 rfl ?_
  refine o_ldc2 (v := 5) C lkc_RX12_275 rfl dX12_book_8 ?_
  refine o_cSI C [vJ z1, vJ 0, vJ 5] mb_X12_in (by decide) (fun _ hu => c_X12_in (r32_r64 hz1) ⟨by decide, by decide⟩ ⟨by decide, by decide⟩ hμ1 hu) rfl (Nat.le_of_ble_eq_true rfl) h ms_X12_in lkm_RX12_140 rfl rfl dX12_book_11 (fun x2 μ3 hx2 hμ3 h => ?_)
  refine o_if_eq (tgt := 26) C hx2 dX12_book_14 (by decide) h (fun _ h => ?_) (fun _ h => ?_)
  · refine o_ldc2 (v := (-10000002)) C lkc_RX12_317 rfl dX12_book_26 ?_
    exact o_lret C hQ dX12_book_29 h ⟨by decide, by decide⟩ hμ3
  · refine o_aload_n C 0 dX12_book_17 rfl rfl ?_
    refine o_getR (j := 36) C kt_53 rfl rfl (Nat.le_of_ble_eq_true rfl) lkf_RX12_92 dX12_book_18 ?_
    refine o_iload_n C 1 dX12_book_21 rfl rfl ?_
    refine o_lald C kt_81 rfl hz1 dX12_book_22 h (fun h => ?_)
    refine o_goto (tgt := 29) C dX12_book_23 (by decide) ?_
    exact o_lret C hQ dX12_book_29 h (hμ3.l kt_81 _) hμ3
theorem c_X12_book {z1 : Int} (hz1 : r32 z1) {μ : GM} (hμ : gRg μ) {u : Int × GM} (h : f_X12_book z1 μ = some u) : MtL 1 yX12_book cX12_book 2 (some .long) (fun ad => [.ref (ad 53), vI z1]) μ u := MtL.of pf_X12_book (fun _ => Nat.le_of_ble_eq_true rfl) (fun G C hQ => w_X12_book_0 C hQ hz1 hμ h)
def f_X12_world (z1 : Int) (z2 : Int) (μ : GM) : Option (Int × GM) :=
  lm (gF μ 53 0 0) fun μ1 =>
  bd (f_X12_in z1 0 (w32 ((μ1.2 53 5) - 1)) μ1) fun x2 μ3 =>
  if x2 = 0 then
    some ((-10000001), μ3)
  else
    bd (f_X12_noEase z2 μ3) fun x4 μ5 =>
    if x4 = 0 then
      if (μ5.2 53 37) = 5 then
        some ((-10000004), μ5)
      else
        ck (0 ≤ (μ5.2 53 37) ∧ (μ5.2 53 37) < 5) (lm (gA μ5 82 (μ5.2 53 37) z1) fun μ6 =>
        ck (0 ≤ (μ6.2 53 37) ∧ (μ6.2 53 37) < 5) (lm (gA μ6 83 (μ6.2 53 37) z2) fun μ7 =>
        lm (gF μ7 53 37 (w32 ((μ7.2 53 37) + 1))) fun μ8 =>
        some ((w32 ((μ8.2 53 37) - 1)), μ8)))
    else
      some ((-10000002), μ5)
set_option maxHeartbeats 4000000 in
set_option maxRecDepth 100000 in
theorem w_X12_world_0 {G : GX} {u : Int × GM} (C : CX G 2 cX12_world 3 RX12) (hQ : gQI G (some .int) u) {z1 : Int} (hz1 : r32 z1) {z2 : Int} (hz2 : r32 z2) {μ : GM} (hμ : gRg μ) (h : f_X12_world z1 z2 μ = some u) : WM G 3 μ 0 [(0, gR G 53), (1, vI z1), (2, vI z2)] [] := by
  unfold f_X12_world at h
  refine o_aload_n C 0 dX12_world_0 rfl rfl ?_
  refine o_iconst C dX12_world_1 ?_
  refine o_putI (j := 0) C kt_53 rfl rfl tyX12_ok nmX12 (Nat.le_of_ble_eq_true rfl) lkf_RX12_133 rfl rfl ⟨by decide, by decide⟩ hμ dX12_world_2 h (fun μ1 hμ1 h => ?_)
  refine o_iload_n C 1 dX12_world_5 rfl rfl ?_
  refine o_i2l C hz1 dX12_world_6 ?_
  refine o_lconst (v := 0) C dX12_world_7 rfl ?_
  refine o_aload_n C 0 dX12_world_8 rfl rfl ?_
  refine o_getI (j := 5) C kt_53 rfl rfl (Nat.le_of_ble_eq_true rfl) lkf_RX12_164 dX12_world_9 ?_
  refine o_iconst C dX12_world_12 ?_
  refine o_isub C dX12_world_13 ?_
  refine o_i2l C (r32_w _) dX12_world_14 ?_
  refine o_cSI C [vJ z1, vJ 0, vJ (w32 ((μ1.2 53 5) - 1))] mb_X12_in (by decide) (fun _ hu => c_X12_in (r32_r64 hz1) ⟨by decide, by decide⟩ (r32_r64 (r32_w _)) hμ1 hu) rfl (Nat.le_of_ble_eq_true rfl) h ms_X12_in lkm_RX12_140 rfl rfl dX12_world_15 (fun x2 μ3 hx2 hμ3 h => ?_)
  refine o_if_ne (tgt := 24) C hx2 dX12_world_18 (by decide) h (fun _ h => ?_) (fun _ h => ?_)
  · refine o_iload_n C 2 dX12_world_24 rfl rfl ?_
    refine o_cSI C [vI z2] mb_X12_noEase (by decide) (fun _ hu => c_X12_noEase hz2 hμ3 hu) rfl (Nat.le_of_ble_eq_true rfl) h ms_X12_noEase lkm_RX12_160 rfl rfl dX12_world_25 (fun x4 μ5 hx4 hμ5 h => ?_)
    refine o_if_eq (tgt := 34) C hx4 dX12_world_28 (by decide) h (fun _ h => ?_) (fun _ h => ?_)
    · refine o_aload_n C 0 dX12_world_34 rfl rfl ?_
      refine o_getI (j := 37) C kt_53 rfl rfl (Nat.le_of_ble_eq_true rfl) lkf_RX12_319 dX12_world_35 ?_
      refine o_iconst C dX12_world_38 ?_
      refine o_icmp_ne (tgt := 45) C (hμ5.fi kt_53 rfl (by decide)) ⟨by decide, by decide⟩ dX12_world_39 (by decide) h (fun _ h => ?_) (fun _ h => ?_)
      · refine o_aload_n C 0 dX12_world_45 rfl rfl ?_
        refine o_getR (j := 38) C kt_53 rfl rfl (Nat.le_of_ble_eq_true rfl) lkf_RX12_95 dX12_world_46 ?_
        refine o_aload_n C 0 dX12_world_49 rfl rfl ?_
        refine o_getI (j := 37) C kt_53 rfl rfl (Nat.le_of_ble_eq_true rfl) lkf_RX12_319 dX12_world_50 ?_
        refine o_iload_n C 1 dX12_world_53 rfl rfl ?_
        refine o_iast C kt_82 rfl (hμ5.fi kt_53 rfl (by decide)) hz1 hμ5 dX12_world_54 h (fun μ6 hμ6 h => ?_)
        refine o_aload_n C 0 dX12_world_55 rfl rfl ?_
        refine o_getR (j := 39) C kt_53 rfl rfl (Nat.le_of_ble_eq_true rfl) lkf_RX12_98 dX12_world_56 ?_
        refine o_aload_n C 0 dX12_world_59 rfl rfl ?_
        refine o_getI (j := 37) C kt_53 rfl rfl (Nat.le_of_ble_eq_true rfl) lkf_RX12_319 dX12_world_60 ?_
        refine o_iload_n C 2 dX12_world_63 rfl rfl ?_
        refine o_iast C kt_83 rfl (hμ6.fi kt_53 rfl (by decide)) hz2 hμ6 dX12_world_64 h (fun μ7 hμ7 h => ?_)
        refine o_aload_n C 0 dX12_world_65 rfl rfl ?_
        refine o_dupr C dX12_world_66 ?_
        refine o_getI (j := 37) C kt_53 rfl rfl (Nat.le_of_ble_eq_true rfl) lkf_RX12_319 dX12_world_67 ?_
        refine o_iconst C dX12_world_70 ?_
        refine o_iadd C dX12_world_71 ?_
        refine o_putI (j := 37) C kt_53 rfl rfl tyX12_ok nmX12 (Nat.le_of_ble_eq_true rfl) lkf_RX12_319 rfl rfl (r32_w _) hμ7 dX12_world_72 h (fun μ8 hμ8 h => ?_)
        refine o_aload_n C 0 dX12_world_75 rfl rfl ?_
        refine o_getI (j := 37) C kt_53 rfl rfl (Nat.le_of_ble_eq_true rfl) lkf_RX12_319 dX12_world_76 ?_
        refine o_iconst C dX12_world_79 ?_
        refine o_isub C dX12_world_80 ?_
        exact o_iret C hQ dX12_world_81 h (r32_w _) hμ8
      · refine o_ldc (v := (-10000004)) C lkc_RX12_154 rfl dX12_world_42 ?_
        exact o_iret C hQ dX12_world_44 h ⟨by decide, by decide⟩ hμ5
    · refine o_ldc (v := (-10000002)) C lkc_RX12_153 rfl dX12_world_31 ?_
      exact o_iret C hQ dX12_world_33 h ⟨by decide, by decide⟩ hμ5
  · refine o_ldc (v := (-10000001)) C lkc_RX12_159 rfl dX12_world_21 ?_
    exact o_iret C hQ dX12_world_23 h ⟨by decide, by decide⟩ hμ3
theorem c_X12_world {z1 : Int} (hz1 : r32 z1) {z2 : Int} (hz2 : r32 z2) {μ : GM} (hμ : gRg μ) {u : Int × GM} (h : f_X12_world z1 z2 μ = some u) : MtI 2 yX12_world cX12_world 3 (some .int) (fun ad => [.ref (ad 53), vI z1, vI z2]) μ u := MtI.of pf_X12_world (fun _ => Nat.le_of_ble_eq_true rfl) (fun G C hQ => w_X12_world_0 C hQ hz1 hz2 hμ h)
def k_X12_see_54 (z1 : Int) (z2 : Int) (z3 : Int) (s1 : Int) (s2 : Int) (μ : GM) : Option (Int × GM) :=
  ck (0 ≤ s1 ∧ s1 < 6) (lm (gA μ 84 s1 (s2 % 2)) fun μ1 =>
  ck (0 ≤ z1 ∧ z1 < 6) (lm (gA μ1 85 z1 z2) fun μ2 =>
  ck (0 ≤ z1 ∧ z1 < 6) (lm (gA μ2 86 z1 z3) fun μ3 =>
  if z3 < 0 then
    some (0, μ3)
  else
    some (1, μ3))))
set_option maxHeartbeats 4000000 in
set_option maxRecDepth 100000 in
theorem w_X12_see_54 {G : GX} {u : Int × GM} (C : CX G 2 cX12_see 4 RX12) (hQ : gQI G (some .int) u) {z1 : Int} (hz1 : r32 z1) {z2 : Int} (hz2 : r32 z2) {z3 : Int} (hz3 : r32 z3) {s1 : Int} (hs1 : r32 s1) {s2 : Int} (hs2 : r32 s2) {μ : GM} (hμ : gRg μ) (h : k_X12_see_54 z1 z2 z3 s1 s2 μ = some u) : WM G 4 μ 54 [(0, gR G 53), (1, vI z1), (2, vI z2), (3, vI z3)] [vI s2, vI s1, gR G 84] := by
  unfold k_X12_see_54 at h
  refine o_zast C kt_84 rfl hs1 hs2 hμ dX12_see_54 h (fun μ1 hμ1 h => ?_)
  refine o_aload_n C 0 dX12_see_55 rfl rfl ?_
  refine o_getR (j := 41) C kt_53 rfl rfl (Nat.le_of_ble_eq_true rfl) lkf_RX12_105 dX12_see_56 ?_
  refine o_iload_n C 1 dX12_see_59 rfl rfl ?_
  refine o_iload_n C 2 dX12_see_60 rfl rfl ?_
  refine o_iast C kt_85 rfl hz1 hz2 hμ1 dX12_see_61 h (fun μ2 hμ2 h => ?_)
  refine o_aload_n C 0 dX12_see_62 rfl rfl ?_
  refine o_getR (j := 42) C kt_53 rfl rfl (Nat.le_of_ble_eq_true rfl) lkf_RX12_108 dX12_see_63 ?_
  refine o_iload_n C 1 dX12_see_66 rfl rfl ?_
  refine o_iload_n C 3 dX12_see_67 rfl rfl ?_
  refine o_iast C kt_86 rfl hz1 hz3 hμ2 dX12_see_68 h (fun μ3 hμ3 h => ?_)
  refine o_iload_n C 3 dX12_see_69 rfl rfl ?_
  refine o_if_lt (tgt := 77) C hz3 dX12_see_70 (by decide) h (fun _ h => ?_) (fun _ h => ?_)
  · refine o_iconst C dX12_see_77 ?_
    exact o_iret C hQ dX12_see_78 h ⟨by decide, by decide⟩ hμ3
  · refine o_iconst C dX12_see_73 ?_
    refine o_goto (tgt := 78) C dX12_see_74 (by decide) ?_
    exact o_iret C hQ dX12_see_78 h ⟨by decide, by decide⟩ hμ3
def f_X12_see (z1 : Int) (z2 : Int) (z3 : Int) (μ : GM) : Option (Int × GM) :=
  lm (gF μ 53 0 0) fun μ1 =>
  bd (f_X12_noCell z1 μ1) fun x2 μ3 =>
  if x2 = 0 then
    bd (f_X12_in z2 (-9000000) 9000000 μ3) fun x4 μ5 =>
    if x4 = 0 then
      some ((-10000002), μ5)
    else
      if 100000 < z3 then
        some ((-10000002), μ5)
      else
        if z3 < 0 then
          k_X12_see_54 z1 z2 z3 z1 0 μ5
        else
          k_X12_see_54 z1 z2 z3 z1 1 μ5
  else
    some ((-10000001), μ3)
set_option maxHeartbeats 4000000 in
set_option maxRecDepth 100000 in
theorem w_X12_see_0 {G : GX} {u : Int × GM} (C : CX G 2 cX12_see 4 RX12) (hQ : gQI G (some .int) u) {z1 : Int} (hz1 : r32 z1) {z2 : Int} (hz2 : r32 z2) {z3 : Int} (hz3 : r32 z3) {μ : GM} (hμ : gRg μ) (h : f_X12_see z1 z2 z3 μ = some u) : WM G 4 μ 0 [(0, gR G 53), (1, vI z1), (2, vI z2), (3, vI z3)] [] := by
  unfold f_X12_see at h
  refine o_aload_n C 0 dX12_see_0 rfl rfl ?_
  refine o_iconst C dX12_see_1 ?_
  refine o_putI (j := 0) C kt_53 rfl rfl tyX12_ok nmX12 (Nat.le_of_ble_eq_true rfl) lkf_RX12_133 rfl rfl ⟨by decide, by decide⟩ hμ dX12_see_2 h (fun μ1 hμ1 h => ?_)
  refine o_aload_n C 0 dX12_see_5 rfl rfl ?_
  refine o_iload_n C 1 dX12_see_6 rfl rfl ?_
  refine o_cVI C [vI z1] mb_X12_noCell (by decide) (fun _ hu => c_X12_noCell hz1 hμ1 hu) rfl (Nat.le_of_ble_eq_true rfl) h mi_X12_noCell me_X12_noCell lkm_RX12_155 kt_53 rfl rfl rfl dX12_see_7 (fun x2 μ3 hx2 hμ3 h => ?_)
  refine o_if_eq (tgt := 16) C hx2 dX12_see_10 (by decide) h (fun _ h => ?_) (fun _ h => ?_)
  · refine o_iload_n C 2 dX12_see_16 rfl rfl ?_
    refine o_i2l C hz2 dX12_see_17 ?_
    refine o_ldc2 (v := (-9000000)) C lkc_RX12_322 rfl dX12_see_18 ?_
    refine o_ldc2 (v := 9000000) C lkc_RX12_324 rfl dX12_see_21 ?_
    refine o_cSI C [vJ z2, vJ (-9000000), vJ 9000000] mb_X12_in (by decide) (fun _ hu => c_X12_in (r32_r64 hz2) ⟨by decide, by decide⟩ ⟨by decide, by decide⟩ hμ3 hu) rfl (Nat.le_of_ble_eq_true rfl) h ms_X12_in lkm_RX12_140 rfl rfl dX12_see_24 (fun x4 μ5 hx4 hμ5 h => ?_)
    refine o_if_eq (tgt := 37) C hx4 dX12_see_27 (by decide) h (fun _ h => ?_) (fun _ h => ?_)
    · refine o_ldc (v := (-10000002)) C lkc_RX12_153 rfl dX12_see_37 ?_
      exact o_iret C hQ dX12_see_39 h ⟨by decide, by decide⟩ hμ5
    · refine o_iload_n C 3 dX12_see_30 rfl rfl ?_
      refine o_ldcw (v := 100000) C lkc_RX12_326 rfl dX12_see_31 ?_
      refine o_icmp_le (tgt := 40) C hz3 ⟨by decide, by decide⟩ dX12_see_34 (by decide) h (fun _ h => ?_) (fun _ h => ?_)
      · refine o_aload_n C 0 dX12_see_40 rfl rfl ?_
        refine o_getR (j := 40) C kt_53 rfl rfl (Nat.le_of_ble_eq_true rfl) lkf_RX12_101 dX12_see_41 ?_
        refine o_iload_n C 1 dX12_see_44 rfl rfl ?_
        refine o_iload_n C 3 dX12_see_45 rfl rfl ?_
        refine o_if_lt (tgt := 53) C hz3 dX12_see_46 (by decide) h (fun _ h => ?_) (fun _ h => ?_)
        · refine o_iconst C dX12_see_53 ?_
          exact WM.sub [0, 1, 2, 3] rfl (w_X12_see_54 C hQ hz1 hz2 hz3 hz1 ⟨by decide, by decide⟩ hμ5 h)
        · refine o_iconst C dX12_see_49 ?_
          refine o_goto (tgt := 54) C dX12_see_50 (by decide) ?_
          exact WM.sub [0, 1, 2, 3] rfl (w_X12_see_54 C hQ hz1 hz2 hz3 hz1 ⟨by decide, by decide⟩ hμ5 h)
      · refine o_ldc (v := (-10000002)) C lkc_RX12_153 rfl dX12_see_37 ?_
        exact o_iret C hQ dX12_see_39 h ⟨by decide, by decide⟩ hμ5
  · refine o_ldc (v := (-10000001)) C lkc_RX12_159 rfl dX12_see_13 ?_
    exact o_iret C hQ dX12_see_15 h ⟨by decide, by decide⟩ hμ3
theorem c_X12_see {z1 : Int} (hz1 : r32 z1) {z2 : Int} (hz2 : r32 z2) {z3 : Int} (hz3 : r32 z3) {μ : GM} (hμ : gRg μ) {u : Int × GM} (h : f_X12_see z1 z2 z3 μ = some u) : MtI 2 yX12_see cX12_see 4 (some .int) (fun ad => [.ref (ad 53), vI z1, vI z2, vI z3]) μ u := MtI.of pf_X12_see (fun _ => Nat.le_of_ble_eq_true rfl) (fun G C hQ => w_X12_see_0 C hQ hz1 hz2 hz3 hμ h)
def f_X12_restsIn (z1 : Int) (μ : GM) : Option (Int × GM) :=
  bd (f_X12_asIs μ) fun _x1 μ2 =>
  ck (0 ≤ z1 ∧ z1 < 5) (
  ck (0 ≤ z1 ∧ z1 < 5) (
  ck (0 ≤ (μ2.1 82 z1) ∧ (μ2.1 82 z1) < 12) (lm (gA μ2 72 (μ2.1 82 z1) (μ2.1 83 z1)) fun μ3 =>
  bd (f_X12_solves μ3) fun x4 μ5 =>
  some (x4 % 2, μ5))))
set_option maxHeartbeats 4000000 in
set_option maxRecDepth 100000 in
theorem w_X12_restsIn_0 {G : GX} {u : Int × GM} (C : CX G 4 cX12_restsIn 2 RX12) (hQ : gQI G (some .boolean) u) {z1 : Int} (hz1 : r32 z1) {μ : GM} (hμ : gRg μ) (h : f_X12_restsIn z1 μ = some u) : WM G 2 μ 0 [(0, gR G 53), (1, vI z1)] [] := by
  unfold f_X12_restsIn at h
  refine o_aload_n C 0 dX12_restsIn_0 rfl rfl ?_
  refine o_cVV C [] mb_X12_asIs (by decide) (fun _ hu => c_X12_asIs hμ hu) rfl (Nat.le_of_ble_eq_true rfl) h mi_X12_asIs me_X12_asIs lkm_RX12_218 kt_53 rfl rfl rfl dX12_restsIn_1 (fun _x1 μ2 hμ2 h => ?_)
  refine o_aload_n C 0 dX12_restsIn_4 rfl rfl ?_
  refine o_getR (j := 26) C kt_53 rfl rfl (Nat.le_of_ble_eq_true rfl) lkf_RX12_65 dX12_restsIn_5 ?_
  refine o_aload_n C 0 dX12_restsIn_8 rfl rfl ?_
  refine o_getR (j := 38) C kt_53 rfl rfl (Nat.le_of_ble_eq_true rfl) lkf_RX12_95 dX12_restsIn_9 ?_
  refine o_iload_n C 1 dX12_restsIn_12 rfl rfl ?_
  refine o_iald C kt_82 rfl hz1 dX12_restsIn_13 h (fun h => ?_)
  refine o_aload_n C 0 dX12_restsIn_14 rfl rfl ?_
  refine o_getR (j := 39) C kt_53 rfl rfl (Nat.le_of_ble_eq_true rfl) lkf_RX12_98 dX12_restsIn_15 ?_
  refine o_iload_n C 1 dX12_restsIn_18 rfl rfl ?_
  refine o_iald C kt_83 rfl hz1 dX12_restsIn_19 h (fun h => ?_)
  refine o_iast C kt_72 rfl (hμ2.i kt_82 (by decide) _) (hμ2.i kt_83 (by decide) _) hμ2 dX12_restsIn_20 h (fun μ3 hμ3 h => ?_)
  refine o_aload_n C 0 dX12_restsIn_21 rfl rfl ?_
  refine o_cVI C [] mb_X12_solves (by decide) (fun _ hu => c_X12_solves hμ3 hu) rfl (Nat.le_of_ble_eq_true rfl) h mi_X12_solves me_X12_solves lkm_RX12_221 kt_53 rfl rfl rfl dX12_restsIn_22 (fun x4 μ5 hx4 hμ5 h => ?_)
  exact o_zret C hQ dX12_restsIn_25 h hμ5
theorem c_X12_restsIn {z1 : Int} (hz1 : r32 z1) {μ : GM} (hμ : gRg μ) {u : Int × GM} (h : f_X12_restsIn z1 μ = some u) : MtI 4 yX12_restsIn cX12_restsIn 2 (some .boolean) (fun ad => [.ref (ad 53), vI z1]) μ u := MtI.of pf_X12_restsIn (fun _ => Nat.le_of_ble_eq_true rfl) (fun G C hQ => w_X12_restsIn_0 C hQ hz1 hμ h)
def k_X12_leftOf_118 (kL4 : Int → Int → GM → Option (Int × GM)) (z1 : Int) (z2 : Int) (z3 : Int) (μ : GM) : Option (Int × GM) :=
  if z3 = 0 then
    lt (gor z1 0) fun x1 =>
    lt (w32 (z2 + 1)) fun x2 =>
    kL4 x1 x2 μ
  else
    lt (gor z1 (gshl 1 z2)) fun x3 =>
    lt (w32 (z2 + 1)) fun x4 =>
    kL4 x3 x4 μ
set_option maxHeartbeats 4000000 in
set_option maxRecDepth 100000 in
theorem w_X12_leftOf_118 {G : GX} {u : Int × GM} (C : CX G 5 cX12_leftOf 7 RX12) (hQ : gQI G (some .int) u) {kL4 : Int → Int → GM → Option (Int × GM)} (hL4 : ∀ (z1 : Int) (hz1 : r32 z1) (z2 : Int) (hz2 : r32 z2) (μ : GM) (hμ : gRg μ), kL4 z1 z2 μ = some u → WM G 7 μ 4 [(0, gR G 53), (1, vI z1), (2, vI z2)] []) {z1 : Int} (hz1 : r32 z1) {z2 : Int} (hz2 : r32 z2) {z3 : Int} (hz3 : r32 z3) {μ : GM} (hμ : gRg μ) (h : k_X12_leftOf_118 kL4 z1 z2 z3 μ = some u) : WM G 7 μ 118 [(0, gR G 53), (1, vI z1), (2, vI z2), (3, vI z3)] [] := by
  unfold k_X12_leftOf_118 at h
  refine o_iload_n C 1 dX12_leftOf_118 rfl rfl ?_
  refine o_iload_n C 3 dX12_leftOf_119 rfl rfl ?_
  refine o_if_eq (tgt := 129) C hz3 dX12_leftOf_120 (by decide) h (fun _ h => ?_) (fun _ h => ?_)
  · refine o_iconst C dX12_leftOf_129 ?_
    refine o_ior C dX12_leftOf_130 ?_
    refine o_lt h (r32_toInt _) (fun x1 hx1 h => ?_)
    refine o_istore_n (lv2 := [(1, vI x1), (0, gR G 53), (2, vI z2), (3, vI z3)]) C dX12_leftOf_131 rfl (by decide) rfl ?_
    refine o_iinc (lv2 := fun x2 => [(2, vI x2), (1, vI x1), (0, gR G 53), (3, vI z3)]) C 2 dX12_leftOf_132 rfl (by decide) (fun _ => rfl) h (fun x2 hx2 h => ?_)
    refine o_goto (tgt := 4) C dX12_leftOf_135 (by decide) ?_
    exact WM.sub [2, 1, 0] rfl (hL4 x1 hx1 x2 hx2 μ hμ h)
  · refine o_iconst C dX12_leftOf_123 ?_
    refine o_iload_n C 2 dX12_leftOf_124 rfl rfl ?_
    refine o_ishl C dX12_leftOf_125 ?_
    refine o_goto (tgt := 130) C dX12_leftOf_126 (by decide) ?_
    refine o_ior C dX12_leftOf_130 ?_
    refine o_lt h (r32_toInt _) (fun x3 hx3 h => ?_)
    refine o_istore_n (lv2 := [(1, vI x3), (0, gR G 53), (2, vI z2), (3, vI z3)]) C dX12_leftOf_131 rfl (by decide) rfl ?_
    refine o_iinc (lv2 := fun x4 => [(2, vI x4), (1, vI x3), (0, gR G 53), (3, vI z3)]) C 2 dX12_leftOf_132 rfl (by decide) (fun _ => rfl) h (fun x4 hx4 h => ?_)
    refine o_goto (tgt := 4) C dX12_leftOf_135 (by decide) ?_
    exact WM.sub [2, 1, 0] rfl (hL4 x3 hx3 x4 hx4 μ hμ h)
def k_X12_leftOf_96 (kL4 : Int → Int → GM → Option (Int × GM)) (kL21 : Int → Int → Int → Int → GM → Option (Int × GM)) (z1 : Int) (z2 : Int) (z4 : Int) (s0 : Int) (μ : GM) : Option (Int × GM) :=
  ck (0 ≤ z4 ∧ z4 < 6) (
  if (μ.1 86 z4) < s0 then
    lt (w32 (z4 + 1)) fun x1 =>
    kL21 z1 z2 0 x1 μ
  else
    lt (w32 (z4 + 1)) fun x2 =>
    kL21 z1 z2 1 x2 μ)
set_option maxHeartbeats 4000000 in
set_option maxRecDepth 100000 in
theorem w_X12_leftOf_96 {G : GX} {u : Int × GM} (C : CX G 5 cX12_leftOf 7 RX12) (hQ : gQI G (some .int) u) {kL4 : Int → Int → GM → Option (Int × GM)} (hL4 : ∀ (z1 : Int) (hz1 : r32 z1) (z2 : Int) (hz2 : r32 z2) (μ : GM) (hμ : gRg μ), kL4 z1 z2 μ = some u → WM G 7 μ 4 [(0, gR G 53), (1, vI z1), (2, vI z2)] []) {kL21 : Int → Int → Int → Int → GM → Option (Int × GM)} (hL21 : ∀ (z1 : Int) (hz1 : r32 z1) (z2 : Int) (hz2 : r32 z2) (z3 : Int) (hz3 : r32 z3) (z4 : Int) (hz4 : r32 z4) (μ : GM) (hμ : gRg μ), kL21 z1 z2 z3 z4 μ = some u → WM G 7 μ 21 [(0, gR G 53), (1, vI z1), (2, vI z2), (3, vI z3), (4, vI z4)] []) {z1 : Int} (hz1 : r32 z1) {z2 : Int} (hz2 : r32 z2) {z4 : Int} (hz4 : r32 z4) {s0 : Int} (hs0 : r32 s0) {μ : GM} (hμ : gRg μ) (h : k_X12_leftOf_96 kL4 kL21 z1 z2 z4 s0 μ = some u) : WM G 7 μ 96 [(0, gR G 53), (1, vI z1), (2, vI z2), (4, vI z4)] [vI s0] := by
  unfold k_X12_leftOf_96 at h
  refine o_aload_n C 0 dX12_leftOf_96 rfl rfl ?_
  refine o_getR (j := 42) C kt_53 rfl rfl (Nat.le_of_ble_eq_true rfl) lkf_RX12_108 dX12_leftOf_97 ?_
  refine o_iload C 3 dX12_leftOf_100 rfl ?_
  refine o_iald C kt_86 rfl hz4 dX12_leftOf_102 h (fun h => ?_)
  refine o_icmp_gt (tgt := 110) C hs0 (hμ.i kt_86 (by decide) _) dX12_leftOf_103 (by decide) h (fun _ h => ?_) (fun _ h => ?_)
  · refine o_iconst C dX12_leftOf_110 ?_
    refine o_istore_n (lv2 := [(3, vI 0), (0, gR G 53), (1, vI z1), (2, vI z2), (4, vI z4)]) C dX12_leftOf_111 rfl (by decide) rfl ?_
    refine o_iinc (lv2 := fun x1 => [(4, vI x1), (3, vI 0), (0, gR G 53), (1, vI z1), (2, vI z2)]) C 4 dX12_leftOf_112 rfl (by decide) (fun _ => rfl) h (fun x1 hx1 h => ?_)
    refine o_goto (tgt := 21) C dX12_leftOf_115 (by decide) ?_
    exact WM.sub [2, 3, 4, 1, 0] rfl (hL21 z1 hz1 z2 hz2 0 ⟨by decide, by decide⟩ x1 hx1 μ hμ h)
  · refine o_iconst C dX12_leftOf_106 ?_
    refine o_goto (tgt := 111) C dX12_leftOf_107 (by decide) ?_
    refine o_istore_n (lv2 := [(3, vI 1), (0, gR G 53), (1, vI z1), (2, vI z2), (4, vI z4)]) C dX12_leftOf_111 rfl (by decide) rfl ?_
    refine o_iinc (lv2 := fun x2 => [(4, vI x2), (3, vI 1), (0, gR G 53), (1, vI z1), (2, vI z2)]) C 4 dX12_leftOf_112 rfl (by decide) (fun _ => rfl) h (fun x2 hx2 h => ?_)
    refine o_goto (tgt := 21) C dX12_leftOf_115 (by decide) ?_
    exact WM.sub [2, 3, 4, 1, 0] rfl (hL21 z1 hz1 z2 hz2 1 ⟨by decide, by decide⟩ x2 hx2 μ hμ h)
def k_X12_leftOf_21 (kL4 : Int → Int → GM → Option (Int × GM)) : Nat → Int → Int → Int → Int → GM → Option (Int × GM)
  | 0, _, _, _, _, _ => none
  | n + 1, z1, z2, z3, z4, μ =>
    if z4 < (μ.2 53 1) then
      if z3 = 0 then
        k_X12_leftOf_118 kL4 z1 z2 z3 μ
      else
        ck (0 ≤ z4 ∧ z4 < 6) (
        bd (f_X12_milliOf (μ.1 71 z4) μ) fun x1 μ2 =>
        ck (0 ≤ (w32 ((w32 (6 * z2)) + z4)) ∧ (w32 ((w32 (6 * z2)) + z4)) < 30) (lm (gA μ2 87 (w32 ((w32 (6 * z2)) + z4)) x1) fun μ3 =>
        ck (0 ≤ z4 ∧ z4 < 6) (
        lt (w32 (x1 - (μ3.1 85 z4))) fun x4 =>
        ck (0 ≤ z4 ∧ z4 < 6) (
        if (μ3.1 84 z4) = 0 then
          lt (w32 (z4 + 1)) fun x5 =>
          k_X12_leftOf_21 kL4 n z1 z2 1 x5 μ3
        else
          if x4 < 0 then
            k_X12_leftOf_96 kL4 (k_X12_leftOf_21 kL4 n) z1 z2 z4 (w32 (-x4)) μ3
          else
            k_X12_leftOf_96 kL4 (k_X12_leftOf_21 kL4 n) z1 z2 z4 x4 μ3))))
    else
      k_X12_leftOf_118 kL4 z1 z2 z3 μ
set_option maxHeartbeats 4000000 in
set_option maxRecDepth 100000 in
theorem w_X12_leftOf_21 {G : GX} {u : Int × GM} (C : CX G 5 cX12_leftOf 7 RX12) (hQ : gQI G (some .int) u) {kL4 : Int → Int → GM → Option (Int × GM)} (hL4 : ∀ (z1 : Int) (hz1 : r32 z1) (z2 : Int) (hz2 : r32 z2) (μ : GM) (hμ : gRg μ), kL4 z1 z2 μ = some u → WM G 7 μ 4 [(0, gR G 53), (1, vI z1), (2, vI z2)] []) : ∀ (n : Nat) (z1 : Int) (hz1 : r32 z1) (z2 : Int) (hz2 : r32 z2) (z3 : Int) (hz3 : r32 z3) (z4 : Int) (hz4 : r32 z4) (μ : GM) (hμ : gRg μ), k_X12_leftOf_21 kL4 n z1 z2 z3 z4 μ = some u → WM G 7 μ 21 [(0, gR G 53), (1, vI z1), (2, vI z2), (3, vI z3), (4, vI z4)] [] := by
  intro n
  induction n with
  | zero =>
    intro z1 hz1 z2 hz2 z3 hz3 z4 hz4 μ hμ h
    cases h
  | succ n ih =>
    intro z1 hz1 z2 hz2 z3 hz3 z4 hz4 μ hμ h
    rw [k_X12_leftOf_21] at h
    refine o_iload C 4 dX12_leftOf_21 rfl ?_
    refine o_aload_n C 0 dX12_leftOf_23 rfl rfl ?_
    refine o_getI (j := 1) C kt_53 rfl rfl (Nat.le_of_ble_eq_true rfl) lkf_RX12_137 dX12_leftOf_24 ?_
    refine o_icmp_ge (tgt := 118) C hz4 (hμ.fi kt_53 rfl (by decide)) dX12_leftOf_27 (by decide) h (fun _ h => ?_) (fun _ h => ?_)
    · exact WM.sub [0, 1, 2, 3] rfl (w_X12_leftOf_118 C hQ hL4 hz1 hz2 hz3 hμ h)
    · refine o_iload_n C 3 dX12_leftOf_30 rfl rfl ?_
      refine o_if_eq (tgt := 118) C hz3 dX12_leftOf_31 (by decide) h (fun _ h => ?_) (fun _ h => ?_)
      · exact WM.sub [0, 1, 2, 3] rfl (w_X12_leftOf_118 C hQ hL4 hz1 hz2 hz3 hμ h)
      · refine o_aload_n C 0 dX12_leftOf_34 rfl rfl ?_
        refine o_aload_n C 0 dX12_leftOf_35 rfl rfl ?_
        refine o_getR (j := 23) C kt_53 rfl rfl (Nat.le_of_ble_eq_true rfl) lkf_RX12_61 dX12_leftOf_36 ?_
        refine o_iload C 4 dX12_leftOf_39 rfl ?_
        refine o_lald C kt_71 rfl hz4 dX12_leftOf_41 h (fun h => ?_)
        refine o_cVI C [vJ (μ.1 71 z4)] mb_X12_milliOf (by decide) (fun _ hu => c_X12_milliOf (hμ.l kt_71 _) hμ hu) rfl (Nat.le_of_ble_eq_true rfl) h mi_X12_milliOf me_X12_milliOf lkm_RX12_243 kt_53 rfl rfl rfl dX12_leftOf_42 (fun x1 μ2 hx1 hμ2 h => ?_)
        refine o_istore (lv2 := [(5, vI x1), (0, gR G 53), (1, vI z1), (2, vI z2), (3, vI z3), (4, vI z4)]) C dX12_leftOf_45 (by decide) rfl ?_
        refine o_aload_n C 1 dX12_leftOf_47 rfl rfl ?_
        refine o_getR (j := 43) C kt_53 rfl rfl (Nat.le_of_ble_eq_true rfl) lkf_RX12_111 dX12_leftOf_48 ?_
        refine o_bipush (v := 6) C dX12_leftOf_51 (by decide) ?_
        refine o_iload_n C 3 dX12_leftOf_53 rfl rfl ?_
        refine o_imul C dX12_leftOf_54 ?_
        refine o_iload C 5 dX12_leftOf_55 rfl ?_
        refine o_iadd C dX12_leftOf_57 ?_
        refine o_iload C 0 dX12_leftOf_58 rfl ?_
        refine o_iast C kt_87 rfl (r32_w _) hx1 hμ2 dX12_leftOf_60 h (fun μ3 hμ3 h => ?_)
        refine o_iload C 0 dX12_leftOf_61 rfl ?_
        refine o_aload_n C 1 dX12_leftOf_63 rfl rfl ?_
        refine o_getR (j := 41) C kt_53 rfl rfl (Nat.le_of_ble_eq_true rfl) lkf_RX12_105 dX12_leftOf_64 ?_
        refine o_iload C 5 dX12_leftOf_67 rfl ?_
        refine o_iald C kt_85 rfl hz4 dX12_leftOf_69 h (fun h => ?_)
        refine o_isub C dX12_leftOf_70 ?_
        refine o_lt h (r32_w _) (fun x4 hx4 h => ?_)
        refine o_istore (lv2 := [(6, vI x4), (5, vI x1), (0, gR G 53), (1, vI z1), (2, vI z2), (3, vI z3), (4, vI z4)]) C dX12_leftOf_71 (by decide) rfl ?_
        refine o_aload_n C 2 dX12_leftOf_73 rfl rfl ?_
        refine o_getR (j := 40) C kt_53 rfl rfl (Nat.le_of_ble_eq_true rfl) lkf_RX12_101 dX12_leftOf_74 ?_
        refine o_iload C 6 dX12_leftOf_77 rfl ?_
        refine o_zald C kt_84 rfl hz4 dX12_leftOf_79 h (fun h => ?_)
        refine o_if_eq (tgt := 106) C (hμ3.i kt_84 (by decide) _) dX12_leftOf_80 (by decide) h (fun _ h => ?_) (fun _ h => ?_)
        · refine o_iconst C dX12_leftOf_106 ?_
          refine o_goto (tgt := 111) C dX12_leftOf_107 (by decide) ?_
          refine o_istore_n (lv2 := [(3, vI 1), (6, vI x4), (5, vI x1), (0, gR G 53), (1, vI z1), (2, vI z2), (4, vI z4)]) C dX12_leftOf_111 rfl (by decide) rfl ?_
          refine o_iinc (lv2 := fun x5 => [(4, vI x5), (3, vI 1), (6, vI x4), (5, vI x1), (0, gR G 53), (1, vI z1), (2, vI z2)]) C 6 dX12_leftOf_112 rfl (by decide) (fun _ => rfl) h (fun x5 hx5 h => ?_)
          refine o_goto (tgt := 21) C dX12_leftOf_115 (by decide) ?_
          exact WM.sub [4, 5, 6, 1, 0] rfl (ih z1 hz1 z2 hz2 1 ⟨by decide, by decide⟩ x5 hx5 μ3 hμ3 h)
        · refine o_iload C 0 dX12_leftOf_83 rfl ?_
          refine o_if_ge (tgt := 94) C hx4 dX12_leftOf_85 (by decide) h (fun _ h => ?_) (fun _ h => ?_)
          · refine o_iload C 0 dX12_leftOf_94 rfl ?_
            exact WM.sub [2, 3, 4, 6] rfl (w_X12_leftOf_96 C hQ hL4 ih hz1 hz2 hz4 hx4 hμ3 h)
          · refine o_iload C 0 dX12_leftOf_88 rfl ?_
            refine o_ineg C dX12_leftOf_90 ?_
            refine o_goto (tgt := 96) C dX12_leftOf_91 (by decide) ?_
            exact WM.sub [2, 3, 4, 6] rfl (w_X12_leftOf_96 C hQ hL4 ih hz1 hz2 hz4 (r32_w _) hμ3 h)
def k_X12_leftOf_4 : Nat → Int → Int → GM → Option (Int × GM)
  | 0, _, _, _ => none
  | n + 1, z1, z2, μ =>
    if z2 < (μ.2 53 37) then
      bd (f_X12_restsIn z2 μ) fun x1 μ2 =>
      k_X12_leftOf_21 (k_X12_leftOf_4 n) FU z1 z2 x1 0 μ2
    else
      some (z1, μ)
set_option maxHeartbeats 4000000 in
set_option maxRecDepth 100000 in
theorem w_X12_leftOf_4 {G : GX} {u : Int × GM} (C : CX G 5 cX12_leftOf 7 RX12) (hQ : gQI G (some .int) u) : ∀ (n : Nat) (z1 : Int) (hz1 : r32 z1) (z2 : Int) (hz2 : r32 z2) (μ : GM) (hμ : gRg μ), k_X12_leftOf_4 n z1 z2 μ = some u → WM G 7 μ 4 [(0, gR G 53), (1, vI z1), (2, vI z2)] [] := by
  intro n
  induction n with
  | zero =>
    intro z1 hz1 z2 hz2 μ hμ h
    cases h
  | succ n ih =>
    intro z1 hz1 z2 hz2 μ hμ h
    rw [k_X12_leftOf_4] at h
    refine o_iload_n C 2 dX12_leftOf_4 rfl rfl ?_
    refine o_aload_n C 0 dX12_leftOf_5 rfl rfl ?_
    refine o_getI (j := 37) C kt_53 rfl rfl (Nat.le_of_ble_eq_true rfl) lkf_RX12_319 dX12_leftOf_6 ?_
    refine o_icmp_ge (tgt := 138) C hz2 (hμ.fi kt_53 rfl (by decide)) dX12_leftOf_9 (by decide) h (fun _ h => ?_) (fun _ h => ?_)
    · refine o_iload_n C 1 dX12_leftOf_138 rfl rfl ?_
      exact o_iret C hQ dX12_leftOf_139 h hz1 hμ
    · refine o_aload_n C 0 dX12_leftOf_12 rfl rfl ?_
      refine o_iload_n C 2 dX12_leftOf_13 rfl rfl ?_
      refine o_cVI C [vI z2] mb_X12_restsIn (by decide) (fun _ hu => c_X12_restsIn hz2 hμ hu) rfl (Nat.le_of_ble_eq_true rfl) h mi_X12_restsIn me_X12_restsIn lkm_RX12_327 kt_53 rfl rfl rfl dX12_leftOf_14 (fun x1 μ2 hx1 hμ2 h => ?_)
      refine o_istore_n (lv2 := [(3, vI x1), (0, gR G 53), (1, vI z1), (2, vI z2)]) C dX12_leftOf_17 rfl (by decide) rfl ?_
      refine o_iconst C dX12_leftOf_18 ?_
      refine o_istore (lv2 := [(4, vI 0), (3, vI x1), (0, gR G 53), (1, vI z1), (2, vI z2)]) C dX12_leftOf_19 (by decide) rfl ?_
      exact WM.sub [2, 3, 4, 1, 0] rfl (w_X12_leftOf_21 C hQ ih FU z1 hz1 z2 hz2 x1 hx1 0 ⟨by decide, by decide⟩ μ2 hμ2 h)
def f_X12_leftOf (μ : GM) : Option (Int × GM) :=
  k_X12_leftOf_4 FU 0 0 μ
set_option maxHeartbeats 4000000 in
set_option maxRecDepth 100000 in
theorem w_X12_leftOf_0 {G : GX} {u : Int × GM} (C : CX G 5 cX12_leftOf 7 RX12) (hQ : gQI G (some .int) u) {μ : GM} (hμ : gRg μ) (h : f_X12_leftOf μ = some u) : WM G 7 μ 0 [(0, gR G 53)] [] := by
  unfold f_X12_leftOf at h
  refine o_iconst C dX12_leftOf_0 ?_
  refine o_istore_n (lv2 := [(1, vI 0), (0, gR G 53)]) C dX12_leftOf_1 rfl (by decide) rfl ?_
  refine o_iconst C dX12_leftOf_2 ?_
  refine o_istore_n (lv2 := [(2, vI 0), (1, vI 0), (0, gR G 53)]) C dX12_leftOf_3 rfl (by decide) rfl ?_
  exact WM.sub [2, 1, 0] rfl (w_X12_leftOf_4 C hQ FU 0 ⟨by decide, by decide⟩ 0 ⟨by decide, by decide⟩ μ hμ h)
theorem c_X12_leftOf {μ : GM} (hμ : gRg μ) {u : Int × GM} (h : f_X12_leftOf μ = some u) : MtI 5 yX12_leftOf cX12_leftOf 7 (some .int) (fun ad => [.ref (ad 53)]) μ u := MtI.of pf_X12_leftOf (fun _ => Nat.le_of_ble_eq_true rfl) (fun G C hQ => w_X12_leftOf_0 C hQ hμ h)
def f_X12_left (μ : GM) : Option (Int × GM) :=
  lm (gF μ 53 0 0) fun μ1 =>
  bd (f_X12_leftOf μ1) fun x2 μ3 =>
  some (x2, μ3)
set_option maxHeartbeats 4000000 in
set_option maxRecDepth 100000 in
theorem w_X12_left_0 {G : GX} {u : Int × GM} (C : CX G 6 cX12_left 1 RX12) (hQ : gQI G (some .int) u) {μ : GM} (hμ : gRg μ) (h : f_X12_left μ = some u) : WM G 1 μ 0 [(0, gR G 53)] [] := by
  unfold f_X12_left at h
  refine o_aload_n C 0 dX12_left_0 rfl rfl ?_
  refine o_iconst C dX12_left_1 ?_
  refine o_putI (j := 0) C kt_53 rfl rfl tyX12_ok nmX12 (Nat.le_of_ble_eq_true rfl) lkf_RX12_133 rfl rfl ⟨by decide, by decide⟩ hμ dX12_left_2 h (fun μ1 hμ1 h => ?_)
  refine o_aload_n C 0 dX12_left_5 rfl rfl ?_
  refine o_cVI C [] mb_X12_leftOf (by decide) (fun _ hu => c_X12_leftOf hμ1 hu) rfl (Nat.le_of_ble_eq_true rfl) h mi_X12_leftOf me_X12_leftOf lkm_RX12_330 kt_53 rfl rfl rfl dX12_left_6 (fun x2 μ3 hx2 hμ3 h => ?_)
  exact o_iret C hQ dX12_left_9 h hx2 hμ3
theorem c_X12_left {μ : GM} (hμ : gRg μ) {u : Int × GM} (h : f_X12_left μ = some u) : MtI 6 yX12_left cX12_left 1 (some .int) (fun ad => [.ref (ad 53)]) μ u := MtI.of pf_X12_left (fun _ => Nat.le_of_ble_eq_true rfl) (fun G C hQ => w_X12_left_0 C hQ hμ h)
