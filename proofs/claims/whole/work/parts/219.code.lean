def k_X12_isHeld_337 (kL9 : Int → Int → GM → Option (Int × GM)) (z1 : Int) (z2 : Int) (s1 : Int) (s2 : Int) (μ : GM) : Option (Int × GM) :=
  bd (f_X12_came s1 s2 μ) fun _x1 μ2 =>
  kL9 z1 z2 μ2
set_option maxHeartbeats 4000000 in
set_option maxRecDepth 100000 in
theorem w_X12_isHeld_337 {G : GX} {u : Int × GM} (C : CX G 3 cX12_isHeld 8 RX12) (hQ : gQI G (some .boolean) u) {kL9 : Int → Int → GM → Option (Int × GM)} (hL9 : ∀ (z1 : Int) (hz1 : r32 z1) (z2 : Int) (hz2 : r32 z2) (μ : GM) (hμ : gRg μ), kL9 z1 z2 μ = some u → WM G 8 μ 9 [(0, gR G 53), (1, vI z1), (2, vI z2)] []) {z1 : Int} (hz1 : r32 z1) {z2 : Int} (hz2 : r32 z2) {s1 : Int} (hs1 : r32 s1) {s2 : Int} (hs2 : r32 s2) {μ : GM} (hμ : gRg μ) (h : k_X12_isHeld_337 kL9 z1 z2 s1 s2 μ = some u) : WM G 8 μ 337 [(0, gR G 53), (1, vI z1), (2, vI z2)] [vI s2, vI s1, gR G 53] := by
  unfold k_X12_isHeld_337 at h
  refine o_cVV C [vI s1, vI s2] mb_X12_came (by decide) (fun _ hu => c_X12_came hs1 hs2 hμ hu) rfl (Nat.le_of_ble_eq_true rfl) h mi_X12_came me_X12_came lkm_RX12_359 kt_53 rfl rfl rfl dX12_isHeld_337 (fun _x1 μ2 hμ2 h => ?_)
  refine o_goto (tgt := 9) C dX12_isHeld_340 (by decide) ?_
  exact WM.sub [0, 1, 2] rfl (hL9 z1 hz1 z2 hz2 μ2 hμ2 h)
def k_X12_isHeld_277 (kL9 : Int → Int → GM → Option (Int × GM)) (z1 : Int) (z2 : Int) (z4 : Int) (z5 : Int) (s0 : Int) (μ : GM) : Option (Int × GM) :=
  if z5 = 60 then
    if z4 < s0 then
      k_X12_isHeld_337 kL9 z1 z2 z1 1 μ
    else
      k_X12_isHeld_337 kL9 z1 z2 z1 0 μ
  else
    if z5 = 62 then
      if s0 < z4 then
        k_X12_isHeld_337 kL9 z1 z2 z1 1 μ
      else
        k_X12_isHeld_337 kL9 z1 z2 z1 0 μ
    else
      if z4 = s0 then
        k_X12_isHeld_337 kL9 z1 z2 z1 1 μ
      else
        k_X12_isHeld_337 kL9 z1 z2 z1 0 μ
set_option maxHeartbeats 4000000 in
set_option maxRecDepth 100000 in
theorem w_X12_isHeld_277 {G : GX} {u : Int × GM} (C : CX G 3 cX12_isHeld 8 RX12) (hQ : gQI G (some .boolean) u) {kL9 : Int → Int → GM → Option (Int × GM)} (hL9 : ∀ (z1 : Int) (hz1 : r32 z1) (z2 : Int) (hz2 : r32 z2) (μ : GM) (hμ : gRg μ), kL9 z1 z2 μ = some u → WM G 8 μ 9 [(0, gR G 53), (1, vI z1), (2, vI z2)] []) {z1 : Int} (hz1 : r32 z1) {z2 : Int} (hz2 : r32 z2) {z4 : Int} (hz4 : r32 z4) {z5 : Int} (hz5 : r32 z5) {s0 : Int} (hs0 : r32 s0) {μ : GM} (hμ : gRg μ) (h : k_X12_isHeld_277 kL9 z1 z2 z4 z5 s0 μ = some u) : WM G 8 μ 277 [(0, gR G 53), (1, vI z1), (2, vI z2), (4, vI z4), (5, vI z5)] [vI s0] := by
  unfold k_X12_isHeld_277 at h
  refine o_istore (lv2 := [(7, vI s0), (0, gR G 53), (1, vI z1), (2, vI z2), (4, vI z4), (5, vI z5)]) C dX12_isHeld_277 (by decide) rfl ?_
  refine o_aload_n C 1 dX12_isHeld_279 rfl rfl ?_
  refine o_iload_n C 2 dX12_isHeld_280 rfl rfl ?_
  refine o_iload C 5 dX12_isHeld_281 rfl ?_
  refine o_bipush (v := 60) C dX12_isHeld_283 (by decide) ?_
  refine o_icmp_ne (tgt := 303) C hz5 ⟨by decide, by decide⟩ dX12_isHeld_285 (by decide) h (fun _ h => ?_) (fun _ h => ?_)
  · refine o_iload C 5 dX12_isHeld_303 rfl ?_
    refine o_bipush (v := 62) C dX12_isHeld_305 (by decide) ?_
    refine o_icmp_ne (tgt := 325) C hz5 ⟨by decide, by decide⟩ dX12_isHeld_307 (by decide) h (fun _ h => ?_) (fun _ h => ?_)
    · refine o_iload C 4 dX12_isHeld_325 rfl ?_
      refine o_iload C 0 dX12_isHeld_327 rfl ?_
      refine o_icmp_ne (tgt := 336) C hz4 hs0 dX12_isHeld_329 (by decide) h (fun _ h => ?_) (fun _ h => ?_)
      · refine o_iconst C dX12_isHeld_336 ?_
        exact WM.sub [1, 2, 3] rfl (w_X12_isHeld_337 C hQ hL9 hz1 hz2 hz1 ⟨by decide, by decide⟩ hμ h)
      · refine o_iconst C dX12_isHeld_332 ?_
        refine o_goto (tgt := 337) C dX12_isHeld_333 (by decide) ?_
        exact WM.sub [1, 2, 3] rfl (w_X12_isHeld_337 C hQ hL9 hz1 hz2 hz1 ⟨by decide, by decide⟩ hμ h)
    · refine o_iload C 4 dX12_isHeld_310 rfl ?_
      refine o_iload C 0 dX12_isHeld_312 rfl ?_
      refine o_icmp_le (tgt := 321) C hz4 hs0 dX12_isHeld_314 (by decide) h (fun _ h => ?_) (fun _ h => ?_)
      · refine o_iconst C dX12_isHeld_321 ?_
        refine o_goto (tgt := 337) C dX12_isHeld_322 (by decide) ?_
        exact WM.sub [1, 2, 3] rfl (w_X12_isHeld_337 C hQ hL9 hz1 hz2 hz1 ⟨by decide, by decide⟩ hμ h)
      · refine o_iconst C dX12_isHeld_317 ?_
        refine o_goto (tgt := 337) C dX12_isHeld_318 (by decide) ?_
        exact WM.sub [1, 2, 3] rfl (w_X12_isHeld_337 C hQ hL9 hz1 hz2 hz1 ⟨by decide, by decide⟩ hμ h)
  · refine o_iload C 4 dX12_isHeld_288 rfl ?_
    refine o_iload C 0 dX12_isHeld_290 rfl ?_
    refine o_icmp_ge (tgt := 299) C hz4 hs0 dX12_isHeld_292 (by decide) h (fun _ h => ?_) (fun _ h => ?_)
    · refine o_iconst C dX12_isHeld_299 ?_
      refine o_goto (tgt := 337) C dX12_isHeld_300 (by decide) ?_
      exact WM.sub [1, 2, 3] rfl (w_X12_isHeld_337 C hQ hL9 hz1 hz2 hz1 ⟨by decide, by decide⟩ hμ h)
    · refine o_iconst C dX12_isHeld_295 ?_
      refine o_goto (tgt := 337) C dX12_isHeld_296 (by decide) ?_
      exact WM.sub [1, 2, 3] rfl (w_X12_isHeld_337 C hQ hL9 hz1 hz2 hz1 ⟨by decide, by decide⟩ hμ h)
def k_X12_isHeld_264 (kL9 : Int → Int → GM → Option (Int × GM)) (z1 : Int) (z2 : Int) (z4 : Int) (z5 : Int) (z6 : Int) (z7 : Int) (μ : GM) : Option (Int × GM) :=
  if z6 = 0 then
    k_X12_isHeld_277 kL9 z1 z2 z4 z5 z7 μ
  else
    k_X12_isHeld_277 kL9 z1 z2 z4 z5 (w32 (-z7)) μ
set_option maxHeartbeats 4000000 in
set_option maxRecDepth 100000 in
theorem w_X12_isHeld_264 {G : GX} {u : Int × GM} (C : CX G 3 cX12_isHeld 8 RX12) (hQ : gQI G (some .boolean) u) {kL9 : Int → Int → GM → Option (Int × GM)} (hL9 : ∀ (z1 : Int) (hz1 : r32 z1) (z2 : Int) (hz2 : r32 z2) (μ : GM) (hμ : gRg μ), kL9 z1 z2 μ = some u → WM G 8 μ 9 [(0, gR G 53), (1, vI z1), (2, vI z2)] []) {z1 : Int} (hz1 : r32 z1) {z2 : Int} (hz2 : r32 z2) {z4 : Int} (hz4 : r32 z4) {z5 : Int} (hz5 : r32 z5) {z6 : Int} (hz6 : r32 z6) {z7 : Int} (hz7 : r32 z7) {μ : GM} (hμ : gRg μ) (h : k_X12_isHeld_264 kL9 z1 z2 z4 z5 z6 z7 μ = some u) : WM G 8 μ 264 [(0, gR G 53), (1, vI z1), (2, vI z2), (4, vI z4), (5, vI z5), (6, vI z6), (7, vI z7)] [] := by
  unfold k_X12_isHeld_264 at h
  refine o_iload C 5 dX12_isHeld_264 rfl ?_
  refine o_if_eq (tgt := 275) C hz6 dX12_isHeld_266 (by decide) h (fun _ h => ?_) (fun _ h => ?_)
  · refine o_iload C 6 dX12_isHeld_275 rfl ?_
    exact WM.sub [0, 1, 2, 3, 4] rfl (w_X12_isHeld_277 C hQ hL9 hz1 hz2 hz4 hz5 hz7 hμ h)
  · refine o_iload C 6 dX12_isHeld_269 rfl ?_
    refine o_ineg C dX12_isHeld_271 ?_
    refine o_goto (tgt := 277) C dX12_isHeld_272 (by decide) ?_
    exact WM.sub [0, 1, 2, 3, 4] rfl (w_X12_isHeld_277 C hQ hL9 hz1 hz2 hz4 hz5 (r32_w _) hμ h)
def k_X12_isHeld_221 (kL9 : Int → Int → GM → Option (Int × GM)) : Nat → Int → Int → Int → Int → Int → Int → GM → Option (Int × GM)
  | 0, _, _, _, _, _, _, _ => none
  | n + 1, z1, z2, z4, z5, z6, z7, μ =>
    if z2 < (μ.2 53 44) then
      ck (0 ≤ z2 ∧ z2 < 200) (
      bd (f_X12_isDigit (μ.1 88 z2) μ) fun x1 μ2 =>
      if x1 = 0 then
        k_X12_isHeld_264 kL9 z1 z2 z4 z5 z6 z7 μ2
      else
        ck (0 ≤ z2 ∧ z2 < 200) (
        lt (w32 ((w32 ((w32 (10 * z7)) + (μ2.1 88 z2))) - 48)) fun x3 =>
        lt (w32 (z2 + 1)) fun x4 =>
        k_X12_isHeld_221 kL9 n z1 x4 z4 z5 z6 x3 μ2))
    else
      k_X12_isHeld_264 kL9 z1 z2 z4 z5 z6 z7 μ
set_option maxHeartbeats 4000000 in
set_option maxRecDepth 100000 in
theorem w_X12_isHeld_221 {G : GX} {u : Int × GM} (C : CX G 3 cX12_isHeld 8 RX12) (hQ : gQI G (some .boolean) u) {kL9 : Int → Int → GM → Option (Int × GM)} (hL9 : ∀ (z1 : Int) (hz1 : r32 z1) (z2 : Int) (hz2 : r32 z2) (μ : GM) (hμ : gRg μ), kL9 z1 z2 μ = some u → WM G 8 μ 9 [(0, gR G 53), (1, vI z1), (2, vI z2)] []) : ∀ (n : Nat) (z1 : Int) (hz1 : r32 z1) (z2 : Int) (hz2 : r32 z2) (z4 : Int) (hz4 : r32 z4) (z5 : Int) (hz5 : r32 z5) (z6 : Int) (hz6 : r32 z6) (z7 : Int) (hz7 : r32 z7) (μ : GM) (hμ : gRg μ), k_X12_isHeld_221 kL9 n z1 z2 z4 z5 z6 z7 μ = some u → WM G 8 μ 221 [(0, gR G 53), (1, vI z1), (2, vI z2), (4, vI z4), (5, vI z5), (6, vI z6), (7, vI z7)] [] := by
  intro n
  induction n with
  | zero =>
    intro z1 hz1 z2 hz2 z4 hz4 z5 hz5 z6 hz6 z7 hz7 μ hμ h
    cases h
  | succ n ih =>
    intro z1 hz1 z2 hz2 z4 hz4 z5 hz5 z6 hz6 z7 hz7 μ hμ h
    rw [k_X12_isHeld_221] at h
    refine o_iload_n C 2 dX12_isHeld_221 rfl rfl ?_
    refine o_aload_n C 0 dX12_isHeld_222 rfl rfl ?_
    refine o_getI (j := 44) C kt_53 rfl rfl (Nat.le_of_ble_eq_true rfl) lkf_RX12_340 dX12_isHeld_223 ?_
    refine o_icmp_ge (tgt := 264) C hz2 (hμ.fi kt_53 rfl (by decide)) dX12_isHeld_226 (by decide) h (fun _ h => ?_) (fun _ h => ?_)
    · exact WM.sub [0, 1, 2, 3, 4, 5, 6] rfl (w_X12_isHeld_264 C hQ hL9 hz1 hz2 hz4 hz5 hz6 hz7 hμ h)
    · refine o_aload_n C 0 dX12_isHeld_229 rfl rfl ?_
      refine o_getR (j := 45) C kt_53 rfl rfl (Nat.le_of_ble_eq_true rfl) lkf_RX12_114 dX12_isHeld_230 ?_
      refine o_iload_n C 2 dX12_isHeld_233 rfl rfl ?_
      refine o_iald C kt_88 rfl hz2 dX12_isHeld_234 h (fun h => ?_)
      refine o_cSI C [vI (μ.1 88 z2)] mb_X12_isDigit (by decide) (fun _ hu => c_X12_isDigit (hμ.i kt_88 (by decide) _) hμ hu) rfl (Nat.le_of_ble_eq_true rfl) h ms_X12_isDigit lkm_RX12_350 rfl rfl dX12_isHeld_235 (fun x1 μ2 hx1 hμ2 h => ?_)
      refine o_if_eq (tgt := 264) C hx1 dX12_isHeld_238 (by decide) h (fun _ h => ?_) (fun _ h => ?_)
      · exact WM.sub [0, 1, 2, 3, 4, 5, 6] rfl (w_X12_isHeld_264 C hQ hL9 hz1 hz2 hz4 hz5 hz6 hz7 hμ2 h)
      · refine o_bipush (v := 10) C dX12_isHeld_241 (by decide) ?_
        refine o_iload C 6 dX12_isHeld_243 rfl ?_
        refine o_imul C dX12_isHeld_245 ?_
        refine o_aload_n C 0 dX12_isHeld_246 rfl rfl ?_
        refine o_getR (j := 45) C kt_53 rfl rfl (Nat.le_of_ble_eq_true rfl) lkf_RX12_114 dX12_isHeld_247 ?_
        refine o_iload_n C 2 dX12_isHeld_250 rfl rfl ?_
        refine o_iald C kt_88 rfl hz2 dX12_isHeld_251 h (fun h => ?_)
        refine o_iadd C dX12_isHeld_252 ?_
        refine o_bipush (v := 48) C dX12_isHeld_253 (by decide) ?_
        refine o_isub C dX12_isHeld_255 ?_
        refine o_lt h (r32_w _) (fun x3 hx3 h => ?_)
        refine o_istore (lv2 := [(7, vI x3), (0, gR G 53), (1, vI z1), (2, vI z2), (4, vI z4), (5, vI z5), (6, vI z6)]) C dX12_isHeld_256 (by decide) rfl ?_
        refine o_iinc (lv2 := fun x4 => [(2, vI x4), (7, vI x3), (0, gR G 53), (1, vI z1), (4, vI z4), (5, vI z5), (6, vI z6)]) C 3 dX12_isHeld_258 rfl (by decide) (fun _ => rfl) h (fun x4 hx4 h => ?_)
        refine o_goto (tgt := 221) C dX12_isHeld_261 (by decide) ?_
        exact WM.sub [2, 3, 0, 4, 5, 6, 1] rfl (ih z1 hz1 x4 hx4 z4 hz4 z5 hz5 z6 hz6 x3 hx3 μ2 hμ2 h)
def k_X12_isHeld_203 (kL9 : Int → Int → GM → Option (Int × GM)) (z1 : Int) (z2 : Int) (z4 : Int) (z5 : Int) (s0 : Int) (μ : GM) : Option (Int × GM) :=
  if s0 = 0 then
    lt (w32 (z2 + 0)) fun x1 =>
    k_X12_isHeld_221 kL9 FU z1 x1 z4 z5 s0 0 μ
  else
    lt (w32 (z2 + 1)) fun x2 =>
    k_X12_isHeld_221 kL9 FU z1 x2 z4 z5 s0 0 μ
set_option maxHeartbeats 4000000 in
set_option maxRecDepth 100000 in
theorem w_X12_isHeld_203 {G : GX} {u : Int × GM} (C : CX G 3 cX12_isHeld 8 RX12) (hQ : gQI G (some .boolean) u) {kL9 : Int → Int → GM → Option (Int × GM)} (hL9 : ∀ (z1 : Int) (hz1 : r32 z1) (z2 : Int) (hz2 : r32 z2) (μ : GM) (hμ : gRg μ), kL9 z1 z2 μ = some u → WM G 8 μ 9 [(0, gR G 53), (1, vI z1), (2, vI z2)] []) {z1 : Int} (hz1 : r32 z1) {z2 : Int} (hz2 : r32 z2) {z4 : Int} (hz4 : r32 z4) {z5 : Int} (hz5 : r32 z5) {s0 : Int} (hs0 : r32 s0) {μ : GM} (hμ : gRg μ) (h : k_X12_isHeld_203 kL9 z1 z2 z4 z5 s0 μ = some u) : WM G 8 μ 203 [(0, gR G 53), (1, vI z1), (2, vI z2), (4, vI z4), (5, vI z5)] [vI s0] := by
  unfold k_X12_isHeld_203 at h
  refine o_istore (lv2 := [(6, vI s0), (0, gR G 53), (1, vI z1), (2, vI z2), (4, vI z4), (5, vI z5)]) C dX12_isHeld_203 (by decide) rfl ?_
  refine o_iload_n C 3 dX12_isHeld_205 rfl rfl ?_
  refine o_iload C 0 dX12_isHeld_206 rfl ?_
  refine o_if_eq (tgt := 215) C hs0 dX12_isHeld_208 (by decide) h (fun _ h => ?_) (fun _ h => ?_)
  · refine o_iconst C dX12_isHeld_215 ?_
    refine o_iadd C dX12_isHeld_216 ?_
    refine o_lt h (r32_w _) (fun x1 hx1 h => ?_)
    refine o_istore_n (lv2 := [(2, vI x1), (6, vI s0), (0, gR G 53), (1, vI z1), (4, vI z4), (5, vI z5)]) C dX12_isHeld_217 rfl (by decide) rfl ?_
    refine o_iconst C dX12_isHeld_218 ?_
    refine o_istore (lv2 := [(7, vI 0), (2, vI x1), (6, vI s0), (0, gR G 53), (1, vI z1), (4, vI z4), (5, vI z5)]) C dX12_isHeld_219 (by decide) rfl ?_
    exact WM.sub [3, 4, 1, 5, 6, 2, 0] rfl (w_X12_isHeld_221 C hQ hL9 FU z1 hz1 x1 hx1 z4 hz4 z5 hz5 s0 hs0 0 ⟨by decide, by decide⟩ μ hμ h)
  · refine o_iconst C dX12_isHeld_211 ?_
    refine o_goto (tgt := 216) C dX12_isHeld_212 (by decide) ?_
    refine o_iadd C dX12_isHeld_216 ?_
    refine o_lt h (r32_w _) (fun x2 hx2 h => ?_)
    refine o_istore_n (lv2 := [(2, vI x2), (6, vI s0), (0, gR G 53), (1, vI z1), (4, vI z4), (5, vI z5)]) C dX12_isHeld_217 rfl (by decide) rfl ?_
    refine o_iconst C dX12_isHeld_218 ?_
    refine o_istore (lv2 := [(7, vI 0), (2, vI x2), (6, vI s0), (0, gR G 53), (1, vI z1), (4, vI z4), (5, vI z5)]) C dX12_isHeld_219 (by decide) rfl ?_
    exact WM.sub [3, 4, 1, 5, 6, 2, 0] rfl (w_X12_isHeld_221 C hQ hL9 FU z1 hz1 x2 hx2 z4 hz4 z5 hz5 s0 hs0 0 ⟨by decide, by decide⟩ μ hμ h)
def k_X12_isHeld_92 (kL9 : Int → Int → GM → Option (Int × GM)) (z1 : Int) (z2 : Int) (s0 : Int) (μ : GM) : Option (Int × GM) :=
  lt (w32 (z1 + (-1))) fun x1 =>
  bd (f_X12_came x1 s0 μ) fun _x2 μ3 =>
  kL9 x1 z2 μ3
set_option maxHeartbeats 4000000 in
set_option maxRecDepth 100000 in
theorem w_X12_isHeld_92 {G : GX} {u : Int × GM} (C : CX G 3 cX12_isHeld 8 RX12) (hQ : gQI G (some .boolean) u) {kL9 : Int → Int → GM → Option (Int × GM)} (hL9 : ∀ (z1 : Int) (hz1 : r32 z1) (z2 : Int) (hz2 : r32 z2) (μ : GM) (hμ : gRg μ), kL9 z1 z2 μ = some u → WM G 8 μ 9 [(0, gR G 53), (1, vI z1), (2, vI z2)] []) {z1 : Int} (hz1 : r32 z1) {z2 : Int} (hz2 : r32 z2) {s0 : Int} (hs0 : r32 s0) {μ : GM} (hμ : gRg μ) (h : k_X12_isHeld_92 kL9 z1 z2 s0 μ = some u) : WM G 8 μ 92 [(0, gR G 53), (1, vI z1), (2, vI z2)] [vI s0] := by
  unfold k_X12_isHeld_92 at h
  refine o_istore (lv2 := [(4, vI s0), (0, gR G 53), (1, vI z1), (2, vI z2)]) C dX12_isHeld_92 (by decide) rfl ?_
  refine o_iinc (lv2 := fun x1 => [(1, vI x1), (4, vI s0), (0, gR G 53), (2, vI z2)]) C 2 dX12_isHeld_94 rfl (by decide) (fun _ => rfl) h (fun x1 hx1 h => ?_)
  refine o_aload_n C 2 dX12_isHeld_97 rfl rfl ?_
  refine o_iload_n C 0 dX12_isHeld_98 rfl rfl ?_
  refine o_iload C 1 dX12_isHeld_99 rfl ?_
  refine o_cVV C [vI x1, vI s0] mb_X12_came (by decide) (fun _ hu => c_X12_came hx1 hs0 hμ hu) rfl (Nat.le_of_ble_eq_true rfl) h mi_X12_came me_X12_came lkm_RX12_359 kt_53 rfl rfl rfl dX12_isHeld_101 (fun _x2 μ3 hμ3 h => ?_)
  refine o_goto (tgt := 340) C dX12_isHeld_104 (by decide) ?_
  refine o_goto (tgt := 9) C dX12_isHeld_340 (by decide) ?_
  exact WM.sub [2, 0, 3] rfl (hL9 x1 hx1 z2 hz2 μ3 hμ3 h)
def k_X12_isHeld_9 : Nat → Int → Int → GM → Option (Int × GM)
  | 0, _, _, _ => none
  | n + 1, z1, z2, μ =>
    if z2 < (μ.2 53 44) then
      ck (0 ≤ z2 ∧ z2 < 200) (
      lt (μ.1 88 z2) fun x1 =>
      lt (w32 (z2 + 1)) fun x2 =>
      if x1 = 33 then
        ck (0 ≤ z1 ∧ z1 < 201) (
        ck (0 ≤ z1 ∧ z1 < 201) (lm (gA μ 91 z1 (w32 ((μ.1 91 z1) + 1))) fun μ16 =>
        k_X12_isHeld_9 n z1 x2 μ16))
      else
        if x1 = 40 then
          lt (w32 (z1 + 1)) fun x13 =>
          bd (f_X12_begin x13 μ) fun _x14 μ15 =>
          k_X12_isHeld_9 n x13 x2 μ15
        else
          if x1 = 41 then
            ck (0 ≤ z1 ∧ z1 < 201) (
            if (μ.1 89 z1) = 0 then
              ck (0 ≤ z1 ∧ z1 < 201) (
              if (μ.1 90 z1) = 0 then
                k_X12_isHeld_92 (k_X12_isHeld_9 n) z1 x2 0 μ
              else
                k_X12_isHeld_92 (k_X12_isHeld_9 n) z1 x2 1 μ)
            else
              k_X12_isHeld_92 (k_X12_isHeld_9 n) z1 x2 1 μ)
          else
            if x1 = 124 then
              ck (0 ≤ z1 ∧ z1 < 201) (
              if (μ.1 89 z1) = 0 then
                ck (0 ≤ z1 ∧ z1 < 201) (
                if (μ.1 90 z1) = 0 then
                  ck (0 ≤ z1 ∧ z1 < 201) (lm (gA μ 89 z1 (0 % 2)) fun μ9 =>
                  ck (0 ≤ z1 ∧ z1 < 201) (lm (gA μ9 90 z1 (1 % 2)) fun μ10 =>
                  k_X12_isHeld_9 n z1 x2 μ10))
                else
                  ck (0 ≤ z1 ∧ z1 < 201) (lm (gA μ 89 z1 (1 % 2)) fun μ11 =>
                  ck (0 ≤ z1 ∧ z1 < 201) (lm (gA μ11 90 z1 (1 % 2)) fun μ12 =>
                  k_X12_isHeld_9 n z1 x2 μ12)))
              else
                ck (0 ≤ z1 ∧ z1 < 201) (lm (gA μ 89 z1 (1 % 2)) fun μ7 =>
                ck (0 ≤ z1 ∧ z1 < 201) (lm (gA μ7 90 z1 (1 % 2)) fun μ8 =>
                k_X12_isHeld_9 n z1 x2 μ8)))
            else
              if x1 = 38 then
                k_X12_isHeld_9 n z1 x2 μ
              else
                ck (0 ≤ x2 ∧ x2 < 200) (
                bd (f_X12_asked x1 (w32 ((μ.1 88 x2) - 48)) μ) fun x3 μ4 =>
                ck (0 ≤ (w32 (x2 + 1)) ∧ (w32 (x2 + 1)) < 200) (
                lt (μ4.1 88 (w32 (x2 + 1))) fun x5 =>
                lt (w32 (x2 + 2)) fun x6 =>
                ck (0 ≤ x6 ∧ x6 < 200) (
                if (μ4.1 88 x6) = 45 then
                  k_X12_isHeld_203 (k_X12_isHeld_9 n) z1 x6 x3 x5 1 μ4
                else
                  k_X12_isHeld_203 (k_X12_isHeld_9 n) z1 x6 x3 x5 0 μ4))))
    else
      ck (0 ≤ 0 ∧ 0 < 201) (
      if (μ.1 89 0) = 0 then
        ck (0 ≤ 0 ∧ 0 < 201) (
        if (μ.1 90 0) = 0 then
          some (0 % 2, μ)
        else
          some (1 % 2, μ))
      else
        some (1 % 2, μ))
set_option maxHeartbeats 4000000 in
set_option maxRecDepth 100000 in
theorem w_X12_isHeld_9 {G : GX} {u : Int × GM} (C : CX G 3 cX12_isHeld 8 RX12) (hQ : gQI G (some .boolean) u) : ∀ (n : Nat) (z1 : Int) (hz1 : r32 z1) (z2 : Int) (hz2 : r32 z2) (μ : GM) (hμ : gRg μ), k_X12_isHeld_9 n z1 z2 μ = some u → WM G 8 μ 9 [(0, gR G 53), (1, vI z1), (2, vI z2)] [] := by
  intro n
  induction n with
  | zero =>
    intro z1 hz1 z2 hz2 μ hμ h
    cases h
  | succ n ih =>
    intro z1 hz1 z2 hz2 μ hμ h
    rw [k_X12_isHeld_9] at h
    refine o_iload_n C 2 dX12_isHeld_9 rfl rfl ?_
    refine o_aload_n C 0 dX12_isHeld_10 rfl rfl ?_
    refine o_getI (j := 44) C kt_53 rfl rfl (Nat.le_of_ble_eq_true rfl) lkf_RX12_340 dX12_isHeld_11 ?_
    refine o_icmp_ge (tgt := 343) C hz2 (hμ.fi kt_53 rfl (by decide)) dX12_isHeld_14 (by decide) h (fun _ h => ?_) (fun _ h => ?_)
    · refine o_aload_n C 0 dX12_isHeld_343 rfl rfl ?_
      refine o_getR (j := 46) C kt_53 rfl rfl (Nat.le_of_ble_eq_true rfl) lkf_RX12_117 dX12_isHeld_344 ?_
      refine o_iconst C dX12_isHeld_347 ?_
      refine o_zald C kt_89 rfl ⟨by decide, by decide⟩ dX12_isHeld_348 h (fun h => ?_)
      refine o_if_ne (tgt := 361) C (hμ.i kt_89 (by decide) _) dX12_isHeld_349 (by decide) h (fun _ h => ?_) (fun _ h => ?_)
      · refine o_iconst C dX12_isHeld_361 ?_
        refine o_goto (tgt := 366) C dX12_isHeld_362 (by decide) ?_
        exact o_zret C hQ dX12_isHeld_366 h hμ
      · refine o_aload_n C 0 dX12_isHeld_352 rfl rfl ?_
        refine o_getR (j := 47) C kt_53 rfl rfl (Nat.le_of_ble_eq_true rfl) lkf_RX12_120 dX12_isHeld_353 ?_
        refine o_iconst C dX12_isHeld_356 ?_
        refine o_zald C kt_90 rfl ⟨by decide, by decide⟩ dX12_isHeld_357 h (fun h => ?_)
        refine o_if_eq (tgt := 365) C (hμ.i kt_90 (by decide) _) dX12_isHeld_358 (by decide) h (fun _ h => ?_) (fun _ h => ?_)
        · refine o_iconst C dX12_isHeld_365 ?_
          exact o_zret C hQ dX12_isHeld_366 h hμ
        · refine o_iconst C dX12_isHeld_361 ?_
          refine o_goto (tgt := 366) C dX12_isHeld_362 (by decide) ?_
          exact o_zret C hQ dX12_isHeld_366 h hμ
    · refine o_aload_n C 0 dX12_isHeld_17 rfl rfl ?_
      refine o_getR (j := 45) C kt_53 rfl rfl (Nat.le_of_ble_eq_true rfl) lkf_RX12_114 dX12_isHeld_18 ?_
      refine o_iload_n C 2 dX12_isHeld_21 rfl rfl ?_
      refine o_iald C kt_88 rfl hz2 dX12_isHeld_22 h (fun h => ?_)
      refine o_lt h (hμ.i kt_88 (by decide) _) (fun x1 hx1 h => ?_)
      refine o_istore_n (lv2 := [(3, vI x1), (0, gR G 53), (1, vI z1), (2, vI z2)]) C dX12_isHeld_23 rfl (by decide) rfl ?_
      refine o_iinc (lv2 := fun x2 => [(2, vI x2), (3, vI x1), (0, gR G 53), (1, vI z1)]) C 3 dX12_isHeld_24 rfl (by decide) (fun _ => rfl) h (fun x2 hx2 h => ?_)
      refine o_iload_n C 1 dX12_isHeld_27 rfl rfl ?_
      refine o_bipush (v := 33) C dX12_isHeld_28 (by decide) ?_
      refine o_icmp_ne (tgt := 46) C hx1 ⟨by decide, by decide⟩ dX12_isHeld_30 (by decide) h (fun _ h => ?_) (fun _ h => ?_)
      · refine o_iload_n C 1 dX12_isHeld_46 rfl rfl ?_
        refine o_bipush (v := 40) C dX12_isHeld_47 (by decide) ?_
        refine o_icmp_ne (tgt := 63) C hx1 ⟨by decide, by decide⟩ dX12_isHeld_49 (by decide) h (fun _ h => ?_) (fun _ h => ?_)
        · refine o_iload_n C 1 dX12_isHeld_63 rfl rfl ?_
          refine o_bipush (v := 41) C dX12_isHeld_64 (by decide) ?_
          refine o_icmp_ne (tgt := 107) C hx1 ⟨by decide, by decide⟩ dX12_isHeld_66 (by decide) h (fun _ h => ?_) (fun _ h => ?_)
          · refine o_iload_n C 1 dX12_isHeld_107 rfl rfl ?_
            refine o_bipush (v := 124) C dX12_isHeld_108 (by decide) ?_
            refine o_icmp_ne (tgt := 152) C hx1 ⟨by decide, by decide⟩ dX12_isHeld_110 (by decide) h (fun _ h => ?_) (fun _ h => ?_)
            · refine o_iload_n C 1 dX12_isHeld_152 rfl rfl ?_
              refine o_bipush (v := 38) C dX12_isHeld_153 (by decide) ?_
              refine o_icmp_eq (tgt := 340) C hx1 ⟨by decide, by decide⟩ dX12_isHeld_155 (by decide) h (fun _ h => ?_) (fun _ h => ?_)
              · refine o_goto (tgt := 9) C dX12_isHeld_340 (by decide) ?_
                exact WM.sub [2, 3, 0] rfl (ih z1 hz1 x2 hx2 μ hμ h)
              · refine o_aload_n C 2 dX12_isHeld_158 rfl rfl ?_
                refine o_iload_n C 1 dX12_isHeld_159 rfl rfl ?_
                refine o_aload_n C 2 dX12_isHeld_160 rfl rfl ?_
                refine o_getR (j := 45) C kt_53 rfl rfl (Nat.le_of_ble_eq_true rfl) lkf_RX12_114 dX12_isHeld_161 ?_
                refine o_iload_n C 0 dX12_isHeld_164 rfl rfl ?_
                refine o_iald C kt_88 rfl hx2 dX12_isHeld_165 h (fun h => ?_)
                refine o_bipush (v := 48) C dX12_isHeld_166 (by decide) ?_
                refine o_isub C dX12_isHeld_168 ?_
                refine o_cVI C [vI x1, vI (w32 ((μ.1 88 x2) - 48))] mb_X12_asked (by decide) (fun _ hu => c_X12_asked hx1 (r32_w _) hμ hu) rfl (Nat.le_of_ble_eq_true rfl) h mi_X12_asked me_X12_asked lkm_RX12_363 kt_53 rfl rfl rfl dX12_isHeld_169 (fun x3 μ4 hx3 hμ4 h => ?_)
                refine o_istore (lv2 := [(4, vI x3), (2, vI x2), (3, vI x1), (0, gR G 53), (1, vI z1)]) C dX12_isHeld_172 (by decide) rfl ?_
                refine o_aload_n C 3 dX12_isHeld_174 rfl rfl ?_
                refine o_getR (j := 45) C kt_53 rfl rfl (Nat.le_of_ble_eq_true rfl) lkf_RX12_114 dX12_isHeld_175 ?_
                refine o_iload_n C 1 dX12_isHeld_178 rfl rfl ?_
                refine o_iconst C dX12_isHeld_179 ?_
                refine o_iadd C dX12_isHeld_180 ?_
                refine o_iald C kt_88 rfl (r32_w _) dX12_isHeld_181 h (fun h => ?_)
                refine o_lt h (hμ4.i kt_88 (by decide) _) (fun x5 hx5 h => ?_)
                refine o_istore (lv2 := [(5, vI x5), (4, vI x3), (2, vI x2), (3, vI x1), (0, gR G 53), (1, vI z1)]) C dX12_isHeld_182 (by decide) rfl ?_
                refine o_iinc (lv2 := fun x6 => [(2, vI x6), (5, vI x5), (4, vI x3), (3, vI x1), (0, gR G 53), (1, vI z1)]) C 2 dX12_isHeld_184 rfl (by decide) (fun _ => rfl) h (fun x6 hx6 h => ?_)
                refine o_aload_n C 4 dX12_isHeld_187 rfl rfl ?_
                refine o_getR (j := 45) C kt_53 rfl rfl (Nat.le_of_ble_eq_true rfl) lkf_RX12_114 dX12_isHeld_188 ?_
                refine o_iload_n C 0 dX12_isHeld_191 rfl rfl ?_
                refine o_iald C kt_88 rfl hx6 dX12_isHeld_192 h (fun h => ?_)
                refine o_bipush (v := 45) C dX12_isHeld_193 (by decide) ?_
                refine o_icmp_ne (tgt := 202) C (hμ4.i kt_88 (by decide) _) ⟨by decide, by decide⟩ dX12_isHeld_195 (by decide) h (fun _ h => ?_) (fun _ h => ?_)
                · refine o_iconst C dX12_isHeld_202 ?_
                  exact WM.sub [4, 5, 0, 2, 1] rfl (w_X12_isHeld_203 C hQ ih hz1 hx6 hx3 hx5 ⟨by decide, by decide⟩ hμ4 h)
                · refine o_iconst C dX12_isHeld_198 ?_
                  refine o_goto (tgt := 203) C dX12_isHeld_199 (by decide) ?_
                  exact WM.sub [4, 5, 0, 2, 1] rfl (w_X12_isHeld_203 C hQ ih hz1 hx6 hx3 hx5 ⟨by decide, by decide⟩ hμ4 h)
            · refine o_aload_n C 2 dX12_isHeld_113 rfl rfl ?_
              refine o_getR (j := 46) C kt_53 rfl rfl (Nat.le_of_ble_eq_true rfl) lkf_RX12_117 dX12_isHeld_114 ?_
              refine o_iload_n C 3 dX12_isHeld_117 rfl rfl ?_
              refine o_aload_n C 2 dX12_isHeld_118 rfl rfl ?_
              refine o_getR (j := 46) C kt_53 rfl rfl (Nat.le_of_ble_eq_true rfl) lkf_RX12_117 dX12_isHeld_119 ?_
              refine o_iload_n C 3 dX12_isHeld_122 rfl rfl ?_
              refine o_zald C kt_89 rfl hz1 dX12_isHeld_123 h (fun h => ?_)
              refine o_if_ne (tgt := 136) C (hμ.i kt_89 (by decide) _) dX12_isHeld_124 (by decide) h (fun _ h => ?_) (fun _ h => ?_)
              · refine o_iconst C dX12_isHeld_136 ?_
                refine o_goto (tgt := 141) C dX12_isHeld_137 (by decide) ?_
                refine o_zast C kt_89 rfl hz1 ⟨by decide, by decide⟩ hμ dX12_isHeld_141 h (fun μ7 hμ7 h => ?_)
                refine o_aload_n C 2 dX12_isHeld_142 rfl rfl ?_
                refine o_getR (j := 47) C kt_53 rfl rfl (Nat.le_of_ble_eq_true rfl) lkf_RX12_120 dX12_isHeld_143 ?_
                refine o_iload_n C 3 dX12_isHeld_146 rfl rfl ?_
                refine o_iconst C dX12_isHeld_147 ?_
                refine o_zast C kt_90 rfl hz1 ⟨by decide, by decide⟩ hμ7 dX12_isHeld_148 h (fun μ8 hμ8 h => ?_)
                refine o_goto (tgt := 340) C dX12_isHeld_149 (by decide) ?_
                refine o_goto (tgt := 9) C dX12_isHeld_340 (by decide) ?_
                exact WM.sub [2, 3, 0] rfl (ih z1 hz1 x2 hx2 μ8 hμ8 h)
              · refine o_aload_n C 2 dX12_isHeld_127 rfl rfl ?_
                refine o_getR (j := 47) C kt_53 rfl rfl (Nat.le_of_ble_eq_true rfl) lkf_RX12_120 dX12_isHeld_128 ?_
                refine o_iload_n C 3 dX12_isHeld_131 rfl rfl ?_
                refine o_zald C kt_90 rfl hz1 dX12_isHeld_132 h (fun h => ?_)
                refine o_if_eq (tgt := 140) C (hμ.i kt_90 (by decide) _) dX12_isHeld_133 (by decide) h (fun _ h => ?_) (fun _ h => ?_)
                · refine o_iconst C dX12_isHeld_140 ?_
                  refine o_zast C kt_89 rfl hz1 ⟨by decide, by decide⟩ hμ dX12_isHeld_141 h (fun μ9 hμ9 h => ?_)
                  refine o_aload_n C 2 dX12_isHeld_142 rfl rfl ?_
                  refine o_getR (j := 47) C kt_53 rfl rfl (Nat.le_of_ble_eq_true rfl) lkf_RX12_120 dX12_isHeld_143 ?_
                  refine o_iload_n C 3 dX12_isHeld_146 rfl rfl ?_
                  refine o_iconst C dX12_isHeld_147 ?_
                  refine o_zast C kt_90 rfl hz1 ⟨by decide, by decide⟩ hμ9 dX12_isHeld_148 h (fun μ10 hμ10 h => ?_)
                  refine o_goto (tgt := 340) C dX12_isHeld_149 (by decide) ?_
                  refine o_goto (tgt := 9) C dX12_isHeld_340 (by decide) ?_
                  exact WM.sub [2, 3, 0] rfl (ih z1 hz1 x2 hx2 μ10 hμ10 h)
                · refine o_iconst C dX12_isHeld_136 ?_
                  refine o_goto (tgt := 141) C dX12_isHeld_137 (by decide) ?_
                  refine o_zast C kt_89 rfl hz1 ⟨by decide, by decide⟩ hμ dX12_isHeld_141 h (fun μ11 hμ11 h => ?_)
                  refine o_aload_n C 2 dX12_isHeld_142 rfl rfl ?_
                  refine o_getR (j := 47) C kt_53 rfl rfl (Nat.le_of_ble_eq_true rfl) lkf_RX12_120 dX12_isHeld_143 ?_
                  refine o_iload_n C 3 dX12_isHeld_146 rfl rfl ?_
                  refine o_iconst C dX12_isHeld_147 ?_
                  refine o_zast C kt_90 rfl hz1 ⟨by decide, by decide⟩ hμ11 dX12_isHeld_148 h (fun μ12 hμ12 h => ?_)
                  refine o_goto (tgt := 340) C dX12_isHeld_149 (by decide) ?_
                  refine o_goto (tgt := 9) C dX12_isHeld_340 (by decide) ?_
                  exact WM.sub [2, 3, 0] rfl (ih z1 hz1 x2 hx2 μ12 hμ12 h)
          · refine o_aload_n C 2 dX12_isHeld_69 rfl rfl ?_
            refine o_getR (j := 46) C kt_53 rfl rfl (Nat.le_of_ble_eq_true rfl) lkf_RX12_117 dX12_isHeld_70 ?_
            refine o_iload_n C 3 dX12_isHeld_73 rfl rfl ?_
            refine o_zald C kt_89 rfl hz1 dX12_isHeld_74 h (fun h => ?_)
            refine o_if_ne (tgt := 87) C (hμ.i kt_89 (by decide) _) dX12_isHeld_75 (by decide) h (fun _ h => ?_) (fun _ h => ?_)
            · refine o_iconst C dX12_isHeld_87 ?_
              refine o_goto (tgt := 92) C dX12_isHeld_88 (by decide) ?_
              exact WM.sub [2, 3, 0] rfl (w_X12_isHeld_92 C hQ ih hz1 hx2 ⟨by decide, by decide⟩ hμ h)
            · refine o_aload_n C 2 dX12_isHeld_78 rfl rfl ?_
              refine o_getR (j := 47) C kt_53 rfl rfl (Nat.le_of_ble_eq_true rfl) lkf_RX12_120 dX12_isHeld_79 ?_
              refine o_iload_n C 3 dX12_isHeld_82 rfl rfl ?_
              refine o_zald C kt_90 rfl hz1 dX12_isHeld_83 h (fun h => ?_)
              refine o_if_eq (tgt := 91) C (hμ.i kt_90 (by decide) _) dX12_isHeld_84 (by decide) h (fun _ h => ?_) (fun _ h => ?_)
              · refine o_iconst C dX12_isHeld_91 ?_
                exact WM.sub [2, 3, 0] rfl (w_X12_isHeld_92 C hQ ih hz1 hx2 ⟨by decide, by decide⟩ hμ h)
              · refine o_iconst C dX12_isHeld_87 ?_
                refine o_goto (tgt := 92) C dX12_isHeld_88 (by decide) ?_
                exact WM.sub [2, 3, 0] rfl (w_X12_isHeld_92 C hQ ih hz1 hx2 ⟨by decide, by decide⟩ hμ h)
        · refine o_iinc (lv2 := fun x13 => [(1, vI x13), (2, vI x2), (3, vI x1), (0, gR G 53)]) C 3 dX12_isHeld_52 rfl (by decide) (fun _ => rfl) h (fun x13 hx13 h => ?_)
          refine o_aload_n C 3 dX12_isHeld_55 rfl rfl ?_
          refine o_iload_n C 0 dX12_isHeld_56 rfl rfl ?_
          refine o_cVV C [vI x13] mb_X12_begin (by decide) (fun _ hu => c_X12_begin hx13 hμ hu) rfl (Nat.le_of_ble_eq_true rfl) h mi_X12_begin me_X12_begin lkm_RX12_356 kt_53 rfl rfl rfl dX12_isHeld_57 (fun _x14 μ15 hμ15 h => ?_)
          refine o_goto (tgt := 340) C dX12_isHeld_60 (by decide) ?_
          refine o_goto (tgt := 9) C dX12_isHeld_340 (by decide) ?_
          exact WM.sub [3, 0, 1] rfl (ih x13 hx13 x2 hx2 μ15 hμ15 h)
      · refine o_aload_n C 2 dX12_isHeld_33 rfl rfl ?_
        refine o_getR (j := 48) C kt_53 rfl rfl (Nat.le_of_ble_eq_true rfl) lkf_RX12_123 dX12_isHeld_34 ?_
        refine o_iload_n C 3 dX12_isHeld_37 rfl rfl ?_
        refine o_dup2ri C dX12_isHeld_38 ?_
        refine o_iald C kt_91 rfl hz1 dX12_isHeld_39 h (fun h => ?_)
        refine o_iconst C dX12_isHeld_40 ?_
        refine o_iadd C dX12_isHeld_41 ?_
        refine o_iast C kt_91 rfl hz1 (r32_w _) hμ dX12_isHeld_42 h (fun μ16 hμ16 h => ?_)
        refine o_goto (tgt := 340) C dX12_isHeld_43 (by decide) ?_
        refine o_goto (tgt := 9) C dX12_isHeld_340 (by decide) ?_
        exact WM.sub [2, 3, 0] rfl (ih z1 hz1 x2 hx2 μ16 hμ16 h)
def f_X12_isHeld (μ : GM) : Option (Int × GM) :=
  bd (f_X12_begin 0 μ) fun _x1 μ2 =>
  k_X12_isHeld_9 FU 0 0 μ2
set_option maxHeartbeats 4000000 in
set_option maxRecDepth 100000 in
theorem w_X12_isHeld_0 {G : GX} {u : Int × GM} (C : CX G 3 cX12_isHeld 8 RX12) (hQ : gQI G (some .boolean) u) {μ : GM} (hμ : gRg μ) (h : f_X12_isHeld μ = some u) : WM G 8 μ 0 [(0, gR G 53)] [] := by
  unfold f_X12_isHeld at h
  refine o_iconst C dX12_isHeld_0 ?_
  refine o_istore_n (lv2 := [(1, vI 0), (0, gR G 53)]) C dX12_isHeld_1 rfl (by decide) rfl ?_
  refine o_aload_n C 1 dX12_isHeld_2 rfl rfl ?_
  refine o_iconst C dX12_isHeld_3 ?_
  refine o_cVV C [vI 0] mb_X12_begin (by decide) (fun _ hu => c_X12_begin ⟨by decide, by decide⟩ hμ hu) rfl (Nat.le_of_ble_eq_true rfl) h mi_X12_begin me_X12_begin lkm_RX12_356 kt_53 rfl rfl rfl dX12_isHeld_4 (fun _x1 μ2 hμ2 h => ?_)
  refine o_iconst C dX12_isHeld_7 ?_
  refine o_istore_n (lv2 := [(2, vI 0), (1, vI 0), (0, gR G 53)]) C dX12_isHeld_8 rfl (by decide) rfl ?_
  exact WM.sub [2, 1, 0] rfl (w_X12_isHeld_9 C hQ FU 0 ⟨by decide, by decide⟩ 0 ⟨by decide, by decide⟩ μ2 hμ2 h)
theorem c_X12_isHeld {μ : GM} (hμ : gRg μ) {u : Int × GM} (h : f_X12_isHeld μ = some u) : MtI 3 yX12_isHeld cX12_isHeld 8 (some .boolean) (fun ad => [.ref (ad 53)]) μ u := MtI.of pf_X12_isHeld (fun _ => Nat.le_of_ble_eq_true rfl) (fun G C hQ => w_X12_isHeld_0 C hQ hμ h)
def f_X12_holds (μ : GM) : Option (Int × GM) :=
  lm (gF μ 53 0 0) fun μ1 =>
  if (μ1.2 53 44) = 0 then
    some ((-10000003), μ1)
  else
    bd (f_X12_faultOf μ1) fun x2 μ3 =>
    if x2 = (-10000009) then
      bd (f_X12_rests μ3) fun x4 μ5 =>
      if x4 = 0 then
        some ((-10000003), μ5)
      else
        bd (f_X12_isHeld μ5) fun x6 μ7 =>
        if x6 = 0 then
          some (0, μ7)
        else
          some (1, μ7)
    else
      some ((-10000003), μ3)
set_option maxHeartbeats 4000000 in
set_option maxRecDepth 100000 in
theorem w_X12_holds_0 {G : GX} {u : Int × GM} (C : CX G 5 cX12_holds 1 RX12) (hQ : gQI G (some .int) u) {μ : GM} (hμ : gRg μ) (h : f_X12_holds μ = some u) : WM G 1 μ 0 [(0, gR G 53)] [] := by
  unfold f_X12_holds at h
  refine o_aload_n C 0 dX12_holds_0 rfl rfl ?_
  refine o_iconst C dX12_holds_1 ?_
  refine o_putI (j := 0) C kt_53 rfl rfl tyX12_ok nmX12 (Nat.le_of_ble_eq_true rfl) lkf_RX12_133 rfl rfl ⟨by decide, by decide⟩ hμ dX12_holds_2 h (fun μ1 hμ1 h => ?_)
  refine o_aload_n C 0 dX12_holds_5 rfl rfl ?_
  refine o_getI (j := 44) C kt_53 rfl rfl (Nat.le_of_ble_eq_true rfl) lkf_RX12_340 dX12_holds_6 ?_
  refine o_if_eq (tgt := 28) C (hμ1.fi kt_53 rfl (by decide)) dX12_holds_9 (by decide) h (fun _ h => ?_) (fun _ h => ?_)
  · refine o_ldc (v := (-10000003)) C lkc_RX12_163 rfl dX12_holds_28 ?_
    exact o_iret C hQ dX12_holds_30 h ⟨by decide, by decide⟩ hμ1
  · refine o_aload_n C 0 dX12_holds_12 rfl rfl ?_
    refine o_cVI C [] mb_X12_faultOf (by decide) (fun _ hu => c_X12_faultOf hμ1 hu) rfl (Nat.le_of_ble_eq_true rfl) h mi_X12_faultOf me_X12_faultOf lkm_RX12_353 kt_53 rfl rfl rfl dX12_holds_13 (fun x2 μ3 hx2 hμ3 h => ?_)
    refine o_ldc (v := (-10000009)) C lkc_RX12_132 rfl dX12_holds_16 ?_
    refine o_icmp_ne (tgt := 28) C hx2 ⟨by decide, by decide⟩ dX12_holds_18 (by decide) h (fun _ h => ?_) (fun _ h => ?_)
    · refine o_ldc (v := (-10000003)) C lkc_RX12_163 rfl dX12_holds_28 ?_
      exact o_iret C hQ dX12_holds_30 h ⟨by decide, by decide⟩ hμ3
    · refine o_aload_n C 0 dX12_holds_21 rfl rfl ?_
      refine o_cVI C [] mb_X12_rests (by decide) (fun _ hu => c_X12_rests hμ3 hu) rfl (Nat.le_of_ble_eq_true rfl) h mi_X12_rests me_X12_rests lkm_RX12_229 kt_53 rfl rfl rfl dX12_holds_22 (fun x4 μ5 hx4 hμ5 h => ?_)
      refine o_if_ne (tgt := 31) C hx4 dX12_holds_25 (by decide) h (fun _ h => ?_) (fun _ h => ?_)
      · refine o_aload_n C 0 dX12_holds_31 rfl rfl ?_
        refine o_cVI C [] mb_X12_isHeld (by decide) (fun _ hu => c_X12_isHeld hμ5 hu) rfl (Nat.le_of_ble_eq_true rfl) h mi_X12_isHeld me_X12_isHeld lkm_RX12_366 kt_53 rfl rfl rfl dX12_holds_32 (fun x6 μ7 hx6 hμ7 h => ?_)
        refine o_if_eq (tgt := 42) C hx6 dX12_holds_35 (by decide) h (fun _ h => ?_) (fun _ h => ?_)
        · refine o_iconst C dX12_holds_42 ?_
          exact o_iret C hQ dX12_holds_43 h ⟨by decide, by decide⟩ hμ7
        · refine o_iconst C dX12_holds_38 ?_
          refine o_goto (tgt := 43) C dX12_holds_39 (by decide) ?_
          exact o_iret C hQ dX12_holds_43 h ⟨by decide, by decide⟩ hμ7
      · refine o_ldc (v := (-10000003)) C lkc_RX12_163 rfl dX12_holds_28 ?_
        exact o_iret C hQ dX12_holds_30 h ⟨by decide, by decide⟩ hμ5
theorem c_X12_holds {μ : GM} (hμ : gRg μ) {u : Int × GM} (h : f_X12_holds μ = some u) : MtI 5 yX12_holds cX12_holds 1 (some .int) (fun ad => [.ref (ad 53)]) μ u := MtI.of pf_X12_holds (fun _ => Nat.le_of_ble_eq_true rfl) (fun G C hQ => w_X12_holds_0 C hQ hμ h)
def k_X12_limit_37 (z1 : Int) (z2 : Int) (μ : GM) : Option (Int × GM) :=
  ck (0 ≤ z1 ∧ z1 < 6) (
  lt (μ.1 92 z1) fun x1 =>
  ck (0 ≤ z1 ∧ z1 < 6) (lm (gA μ 92 z1 z2) fun μ2 =>
  some (x1, μ2)))
set_option maxHeartbeats 4000000 in
set_option maxRecDepth 100000 in
theorem w_X12_limit_37 {G : GX} {u : Int × GM} (C : CX G 2 cX12_limit 4 RX12) (hQ : gQI G (some .int) u) {z1 : Int} (hz1 : r32 z1) {z2 : Int} (hz2 : r32 z2) {μ : GM} (hμ : gRg μ) (h : k_X12_limit_37 z1 z2 μ = some u) : WM G 4 μ 37 [(0, gR G 53), (1, vI z1), (2, vI z2)] [] := by
  unfold k_X12_limit_37 at h
  refine o_aload_n C 0 dX12_limit_37 rfl rfl ?_
  refine o_getR (j := 49) C kt_53 rfl rfl (Nat.le_of_ble_eq_true rfl) lkf_RX12_126 dX12_limit_38 ?_
  refine o_iload_n C 1 dX12_limit_41 rfl rfl ?_
  refine o_iald C kt_92 rfl hz1 dX12_limit_42 h (fun h => ?_)
  refine o_lt h (hμ.i kt_92 (by decide) _) (fun x1 hx1 h => ?_)
  refine o_istore_n (lv2 := [(3, vI x1), (0, gR G 53), (1, vI z1), (2, vI z2)]) C dX12_limit_43 rfl (by decide) rfl ?_
  refine o_aload_n C 1 dX12_limit_44 rfl rfl ?_
  refine o_getR (j := 49) C kt_53 rfl rfl (Nat.le_of_ble_eq_true rfl) lkf_RX12_126 dX12_limit_45 ?_
  refine o_iload_n C 2 dX12_limit_48 rfl rfl ?_
  refine o_iload_n C 3 dX12_limit_49 rfl rfl ?_
  refine o_iast C kt_92 rfl hz1 hz2 hμ dX12_limit_50 h (fun μ2 hμ2 h => ?_)
  refine o_iload_n C 0 dX12_limit_51 rfl rfl ?_
  exact o_iret C hQ dX12_limit_52 h hx1 hμ2
def f_X12_limit (z1 : Int) (z2 : Int) (μ : GM) : Option (Int × GM) :=
  lm (gF μ 53 0 0) fun μ1 =>
  bd (f_X12_noCell z1 μ1) fun x2 μ3 =>
  if x2 = 0 then
    if z2 = (-10000009) then
      k_X12_limit_37 z1 z2 μ3
    else
      bd (f_X12_in z2 0 2000000 μ3) fun x4 μ5 =>
      if x4 = 0 then
        some ((-10000002), μ5)
      else
        k_X12_limit_37 z1 z2 μ5
  else
    some ((-10000001), μ3)
set_option maxHeartbeats 4000000 in
set_option maxRecDepth 100000 in
theorem w_X12_limit_0 {G : GX} {u : Int × GM} (C : CX G 2 cX12_limit 4 RX12) (hQ : gQI G (some .int) u) {z1 : Int} (hz1 : r32 z1) {z2 : Int} (hz2 : r32 z2) {μ : GM} (hμ : gRg μ) (h : f_X12_limit z1 z2 μ = some u) : WM G 4 μ 0 [(0, gR G 53), (1, vI z1), (2, vI z2)] [] := by
  unfold f_X12_limit at h
  refine o_aload_n C 0 dX12_limit_0 rfl rfl ?_
  refine o_iconst C dX12_limit_1 ?_
  refine o_putI (j := 0) C kt_53 rfl rfl tyX12_ok nmX12 (Nat.le_of_ble_eq_true rfl) lkf_RX12_133 rfl rfl ⟨by decide, by decide⟩ hμ dX12_limit_2 h (fun μ1 hμ1 h => ?_)
  refine o_aload_n C 0 dX12_limit_5 rfl rfl ?_
  refine o_iload_n C 1 dX12_limit_6 rfl rfl ?_
  refine o_cVI C [vI z1] mb_X12_noCell (by decide) (fun _ hu => c_X12_noCell hz1 hμ1 hu) rfl (Nat.le_of_ble_eq_true rfl) h mi_X12_noCell me_X12_noCell lkm_RX12_155 kt_53 rfl rfl rfl dX12_limit_7 (fun x2 μ3 hx2 hμ3 h => ?_)
  refine o_if_eq (tgt := 16) C hx2 dX12_limit_10 (by decide) h (fun _ h => ?_) (fun _ h => ?_)
  · refine o_iload_n C 2 dX12_limit_16 rfl rfl ?_
    refine o_ldc (v := (-10000009)) C lkc_RX12_132 rfl dX12_limit_17 ?_
    refine o_icmp_eq (tgt := 37) C hz2 ⟨by decide, by decide⟩ dX12_limit_19 (by decide) h (fun _ h => ?_) (fun _ h => ?_)
    · exact WM.sub [0, 1, 2] rfl (w_X12_limit_37 C hQ hz1 hz2 hμ3 h)
    · refine o_iload_n C 2 dX12_limit_22 rfl rfl ?_
      refine o_i2l C hz2 dX12_limit_23 ?_
      refine o_lconst (v := 0) C dX12_limit_24 rfl ?_
      refine o_ldc2 (v := 2000000) C lkc_RX12_369 rfl dX12_limit_25 ?_
      refine o_cSI C [vJ z2, vJ 0, vJ 2000000] mb_X12_in (by decide) (fun _ hu => c_X12_in (r32_r64 hz2) ⟨by decide, by decide⟩ ⟨by decide, by decide⟩ hμ3 hu) rfl (Nat.le_of_ble_eq_true rfl) h ms_X12_in lkm_RX12_140 rfl rfl dX12_limit_28 (fun x4 μ5 hx4 hμ5 h => ?_)
      refine o_if_ne (tgt := 37) C hx4 dX12_limit_31 (by decide) h (fun _ h => ?_) (fun _ h => ?_)
      · exact WM.sub [0, 1, 2] rfl (w_X12_limit_37 C hQ hz1 hz2 hμ5 h)
      · refine o_ldc (v := (-10000002)) C lkc_RX12_153 rfl dX12_limit_34 ?_
        exact o_iret C hQ dX12_limit_36 h ⟨by decide, by decide⟩ hμ5
  · refine o_ldc (v := (-10000001)) C lkc_RX12_159 rfl dX12_limit_13 ?_
    exact o_iret C hQ dX12_limit_15 h ⟨by decide, by decide⟩ hμ3
theorem c_X12_limit {z1 : Int} (hz1 : r32 z1) {z2 : Int} (hz2 : r32 z2) {μ : GM} (hμ : gRg μ) {u : Int × GM} (h : f_X12_limit z1 z2 μ = some u) : MtI 2 yX12_limit cX12_limit 4 (some .int) (fun ad => [.ref (ad 53), vI z1, vI z2]) μ u := MtI.of pf_X12_limit (fun _ => Nat.le_of_ble_eq_true rfl) (fun G C hQ => w_X12_limit_0 C hQ hz1 hz2 hμ h)
def k_X12_draws_4 : Nat → Int → Int → GM → Option (Int × GM)
  | 0, _, _, _ => none
  | n + 1, z2, z3, μ =>
    if z3 < 0 then
      some (0, μ)
    else
      ck (0 ≤ z3 ∧ z3 < 3) (
      ck (5 ≠ 0) (
      ck (4 ≠ 0) (
      ck (0 ≤ z3 ∧ z3 < 3) (lm (gA μ 73 z3 (w32 (Int.tdiv (w32 ((μ.1 68 z3) * (Int.tmod z2 5))) 4))) fun μ1 =>
      ck (5 ≠ 0) (
      lt (w32 (Int.tdiv z2 5)) fun x2 =>
      lt (w32 (z3 + (-1))) fun x3 =>
      k_X12_draws_4 n x2 x3 μ1)))))
set_option maxHeartbeats 4000000 in
set_option maxRecDepth 100000 in
theorem w_X12_draws_4 {G : GX} {u : Int × GM} (C : CX G 0 cX12_draws 4 RX12) (hQ : gQV G none u) : ∀ (n : Nat) (z2 : Int) (hz2 : r32 z2) (z3 : Int) (hz3 : r32 z3) (μ : GM) (hμ : gRg μ), k_X12_draws_4 n z2 z3 μ = some u → WM G 4 μ 4 [(0, gR G 53), (2, vI z2), (3, vI z3)] [] := by
  intro n
  induction n with
  | zero =>
    intro z2 hz2 z3 hz3 μ hμ h
    cases h
  | succ n ih =>
    intro z2 hz2 z3 hz3 μ hμ h
    rw [k_X12_draws_4] at h
    refine o_iload_n C 2 dX12_draws_4 rfl rfl ?_
    refine o_if_lt (tgt := 36) C hz3 dX12_draws_5 (by decide) h (fun _ h => ?_) (fun _ h => ?_)
    · exact o_vret C hQ dX12_draws_36 h hμ
    · refine o_aload_n C 0 dX12_draws_8 rfl rfl ?_
      refine o_getR (j := 27) C kt_53 rfl rfl (Nat.le_of_ble_eq_true rfl) lkf_RX12_68 dX12_draws_9 ?_
      refine o_iload_n C 2 dX12_draws_12 rfl rfl ?_
      refine o_aload_n C 0 dX12_draws_13 rfl rfl ?_
      refine o_getR (j := 20) C kt_53 rfl rfl (Nat.le_of_ble_eq_true rfl) lkf_RX12_52 dX12_draws_14 ?_
      refine o_iload_n C 2 dX12_draws_17 rfl rfl ?_
      refine o_iald C kt_68 rfl hz3 dX12_draws_18 h (fun h => ?_)
      refine o_iload_n C 1 dX12_draws_19 rfl rfl ?_
      refine o_iconst C dX12_draws_20 ?_
      refine o_irem C hz2 ⟨by decide, by decide⟩ dX12_draws_21 h (fun h => ?_)
      refine o_imul C dX12_draws_22 ?_
      refine o_iconst C dX12_draws_23 ?_
      refine o_idiv C (r32_w _) ⟨by decide, by decide⟩ dX12_draws_24 h (fun h => ?_)
      refine o_iast C kt_73 rfl hz3 (r32_w _) hμ dX12_draws_25 h (fun μ1 hμ1 h => ?_)
      refine o_iload_n C 1 dX12_draws_26 rfl rfl ?_
      refine o_iconst C dX12_draws_27 ?_
      refine o_idiv C hz2 ⟨by decide, by decide⟩ dX12_draws_28 h (fun h => ?_)
      refine o_lt h (r32_w _) (fun x2 hx2 h => ?_)
      refine o_istore_n (lv2 := [(2, vI x2), (0, gR G 53), (3, vI z3)]) C dX12_draws_29 rfl (by decide) rfl ?_
      refine o_iinc (lv2 := fun x3 => [(3, vI x3), (2, vI x2), (0, gR G 53)]) C 2 dX12_draws_30 rfl (by decide) (fun _ => rfl) h (fun x3 hx3 h => ?_)
      refine o_goto (tgt := 4) C dX12_draws_33 (by decide) ?_
      exact WM.sub [2, 1, 0] rfl (ih x2 hx2 x3 hx3 μ1 hμ1 h)
def f_X12_draws (z1 : Int) (μ : GM) : Option (Int × GM) :=
  k_X12_draws_4 FU z1 2 μ
set_option maxHeartbeats 4000000 in
set_option maxRecDepth 100000 in
theorem w_X12_draws_0 {G : GX} {u : Int × GM} (C : CX G 0 cX12_draws 4 RX12) (hQ : gQV G none u) {z1 : Int} (hz1 : r32 z1) {μ : GM} (hμ : gRg μ) (h : f_X12_draws z1 μ = some u) : WM G 4 μ 0 [(0, gR G 53), (1, vI z1)] [] := by
  unfold f_X12_draws at h
  refine o_iload_n C 1 dX12_draws_0 rfl rfl ?_
  refine o_istore_n (lv2 := [(2, vI z1), (0, gR G 53), (1, vI z1)]) C dX12_draws_1 rfl (by decide) rfl ?_
  refine o_iconst C dX12_draws_2 ?_
  refine o_istore_n (lv2 := [(3, vI 2), (2, vI z1), (0, gR G 53), (1, vI z1)]) C dX12_draws_3 rfl (by decide) rfl ?_
  exact WM.sub [2, 1, 0] rfl (w_X12_draws_4 C hQ FU z1 hz1 2 ⟨by decide, by decide⟩ μ hμ h)
theorem c_X12_draws {z1 : Int} (hz1 : r32 z1) {μ : GM} (hμ : gRg μ) {u : Int × GM} (h : f_X12_draws z1 μ = some u) : MtV 0 yX12_draws cX12_draws 4 none (fun ad => [.ref (ad 53), vI z1]) μ u := MtV.of pf_X12_draws (fun _ => Nat.le_of_ble_eq_true rfl) (fun G C hQ => w_X12_draws_0 C hQ hz1 hμ h)
def k_X12_mayBe_69 (z1 : Int) (z2 : Int) (μ : GM) : Option (Int × GM) :=
  if z2 = 0 then
    some (0 % 2, μ)
  else
    if z1 = 0 then
      some (1 % 2, μ)
    else
      bd (f_X12_isHeld μ) fun x1 μ2 =>
      if x1 = 0 then
        some (0 % 2, μ2)
      else
        some (1 % 2, μ2)
set_option maxHeartbeats 4000000 in
set_option maxRecDepth 100000 in
theorem w_X12_mayBe_69 {G : GX} {u : Int × GM} (C : CX G 4 cX12_mayBe 4 RX12) (hQ : gQI G (some .boolean) u) {z1 : Int} (hz1 : r32 z1) {z2 : Int} (hz2 : r32 z2) {μ : GM} (hμ : gRg μ) (h : k_X12_mayBe_69 z1 z2 μ = some u) : WM G 4 μ 69 [(0, gR G 53), (1, vI z1), (2, vI z2)] [] := by
  unfold k_X12_mayBe_69 at h
  refine o_iload_n C 2 dX12_mayBe_69 rfl rfl ?_
  refine o_if_eq (tgt := 88) C hz2 dX12_mayBe_70 (by decide) h (fun _ h => ?_) (fun _ h => ?_)
  · refine o_iconst C dX12_mayBe_88 ?_
    exact o_zret C hQ dX12_mayBe_89 h hμ
  · refine o_iload_n C 1 dX12_mayBe_73 rfl rfl ?_
    refine o_if_eq (tgt := 84) C hz1 dX12_mayBe_74 (by decide) h (fun _ h => ?_) (fun _ h => ?_)
    · refine o_iconst C dX12_mayBe_84 ?_
      refine o_goto (tgt := 89) C dX12_mayBe_85 (by decide) ?_
      exact o_zret C hQ dX12_mayBe_89 h hμ
    · refine o_aload_n C 0 dX12_mayBe_77 rfl rfl ?_
      refine o_cVI C [] mb_X12_isHeld (by decide) (fun _ hu => c_X12_isHeld hμ hu) rfl (Nat.le_of_ble_eq_true rfl) h mi_X12_isHeld me_X12_isHeld lkm_RX12_366 kt_53 rfl rfl rfl dX12_mayBe_78 (fun x1 μ2 hx1 hμ2 h => ?_)
      refine o_if_eq (tgt := 88) C hx1 dX12_mayBe_81 (by decide) h (fun _ h => ?_) (fun _ h => ?_)
      · refine o_iconst C dX12_mayBe_88 ?_
        exact o_zret C hQ dX12_mayBe_89 h hμ2
      · refine o_iconst C dX12_mayBe_84 ?_
        refine o_goto (tgt := 89) C dX12_mayBe_85 (by decide) ?_
        exact o_zret C hQ dX12_mayBe_89 h hμ2
def k_X12_mayBe_7 : Nat → Int → Int → Int → GM → Option (Int × GM)
  | 0, _, _, _, _ => none
  | n + 1, z1, z2, z3, μ =>
    if z3 < (μ.2 53 1) then
      if z2 = 0 then
        k_X12_mayBe_69 z1 z2 μ
      else
        bd (f_X12_isDry z3 μ) fun x1 μ2 =>
        if x1 = 0 then
          ck (0 ≤ z3 ∧ z3 < 6) (
          if (μ2.1 92 z3) = (-10000009) then
            lt (w32 (z3 + 1)) fun x4 =>
            k_X12_mayBe_7 n z1 1 x4 μ2
          else
            ck (0 ≤ z3 ∧ z3 < 6) (
            bd (f_X12_milliOf (μ2.1 71 z3) μ2) fun x5 μ6 =>
            ck (0 ≤ z3 ∧ z3 < 6) (
            if x5 < (μ6.1 92 z3) then
              lt (w32 (z3 + 1)) fun x7 =>
              k_X12_mayBe_7 n z1 0 x7 μ6
            else
              lt (w32 (z3 + 1)) fun x8 =>
              k_X12_mayBe_7 n z1 1 x8 μ6)))
        else
          lt (w32 (z3 + 1)) fun x3 =>
          k_X12_mayBe_7 n z1 0 x3 μ2
    else
      k_X12_mayBe_69 z1 z2 μ
set_option maxHeartbeats 4000000 in
set_option maxRecDepth 100000 in
theorem w_X12_mayBe_7 {G : GX} {u : Int × GM} (C : CX G 4 cX12_mayBe 4 RX12) (hQ : gQI G (some .boolean) u) : ∀ (n : Nat) (z1 : Int) (hz1 : r32 z1) (z2 : Int) (hz2 : r32 z2) (z3 : Int) (hz3 : r32 z3) (μ : GM) (hμ : gRg μ), k_X12_mayBe_7 n z1 z2 z3 μ = some u → WM G 4 μ 7 [(0, gR G 53), (1, vI z1), (2, vI z2), (3, vI z3)] [] := by
  intro n
  induction n with
  | zero =>
    intro z1 hz1 z2 hz2 z3 hz3 μ hμ h
    cases h
  | succ n ih =>
    intro z1 hz1 z2 hz2 z3 hz3 μ hμ h
    rw [k_X12_mayBe_7] at h
    refine o_iload_n C 3 dX12_mayBe_7 rfl rfl ?_
    refine o_aload_n C 0 dX12_mayBe_8 rfl rfl ?_
    refine o_getI (j := 1) C kt_53 rfl rfl (Nat.le_of_ble_eq_true rfl) lkf_RX12_137 dX12_mayBe_9 ?_
    refine o_icmp_ge (tgt := 69) C hz3 (hμ.fi kt_53 rfl (by decide)) dX12_mayBe_12 (by decide) h (fun _ h => ?_) (fun _ h => ?_)
    · exact WM.sub [0, 1, 2] rfl (w_X12_mayBe_69 C hQ hz1 hz2 hμ h)
    · refine o_iload_n C 2 dX12_mayBe_15 rfl rfl ?_
      refine o_if_eq (tgt := 69) C hz2 dX12_mayBe_16 (by decide) h (fun _ h => ?_) (fun _ h => ?_)
      · exact WM.sub [0, 1, 2] rfl (w_X12_mayBe_69 C hQ hz1 hz2 hμ h)
      · refine o_aload_n C 0 dX12_mayBe_19 rfl rfl ?_
        refine o_iload_n C 3 dX12_mayBe_20 rfl rfl ?_
        refine o_cVI C [vI z3] mb_X12_isDry (by decide) (fun _ hu => c_X12_isDry hz3 hμ hu) rfl (Nat.le_of_ble_eq_true rfl) h mi_X12_isDry me_X12_isDry lkm_RX12_256 kt_53 rfl rfl rfl dX12_mayBe_21 (fun x1 μ2 hx1 hμ2 h => ?_)
        refine o_if_ne (tgt := 61) C hx1 dX12_mayBe_24 (by decide) h (fun _ h => ?_) (fun _ h => ?_)
        · refine o_iconst C dX12_mayBe_61 ?_
          refine o_istore_n (lv2 := [(2, vI 0), (0, gR G 53), (1, vI z1), (3, vI z3)]) C dX12_mayBe_62 rfl (by decide) rfl ?_
          refine o_iinc (lv2 := fun x3 => [(3, vI x3), (2, vI 0), (0, gR G 53), (1, vI z1)]) C 3 dX12_mayBe_63 rfl (by decide) (fun _ => rfl) h (fun x3 hx3 h => ?_)
          refine o_goto (tgt := 7) C dX12_mayBe_66 (by decide) ?_
          exact WM.sub [2, 3, 1, 0] rfl (ih z1 hz1 0 ⟨by decide, by decide⟩ x3 hx3 μ2 hμ2 h)
        · refine o_aload_n C 0 dX12_mayBe_27 rfl rfl ?_
          refine o_getR (j := 49) C kt_53 rfl rfl (Nat.le_of_ble_eq_true rfl) lkf_RX12_126 dX12_mayBe_28 ?_
          refine o_iload_n C 3 dX12_mayBe_31 rfl rfl ?_
          refine o_iald C kt_92 rfl hz3 dX12_mayBe_32 h (fun h => ?_)
          refine o_ldc (v := (-10000009)) C lkc_RX12_132 rfl dX12_mayBe_33 ?_
          refine o_icmp_eq (tgt := 57) C (hμ2.i kt_92 (by decide) _) ⟨by decide, by decide⟩ dX12_mayBe_35 (by decide) h (fun _ h => ?_) (fun _ h => ?_)
          · refine o_iconst C dX12_mayBe_57 ?_
            refine o_goto (tgt := 62) C dX12_mayBe_58 (by decide) ?_
            refine o_istore_n (lv2 := [(2, vI 1), (0, gR G 53), (1, vI z1), (3, vI z3)]) C dX12_mayBe_62 rfl (by decide) rfl ?_
            refine o_iinc (lv2 := fun x4 => [(3, vI x4), (2, vI 1), (0, gR G 53), (1, vI z1)]) C 3 dX12_mayBe_63 rfl (by decide) (fun _ => rfl) h (fun x4 hx4 h => ?_)
            refine o_goto (tgt := 7) C dX12_mayBe_66 (by decide) ?_
            exact WM.sub [2, 3, 1, 0] rfl (ih z1 hz1 1 ⟨by decide, by decide⟩ x4 hx4 μ2 hμ2 h)
          · refine o_aload_n C 0 dX12_mayBe_38 rfl rfl ?_
            refine o_aload_n C 0 dX12_mayBe_39 rfl rfl ?_
            refine o_getR (j := 23) C kt_53 rfl rfl (Nat.le_of_ble_eq_true rfl) lkf_RX12_61 dX12_mayBe_40 ?_
            refine o_iload_n C 3 dX12_mayBe_43 rfl rfl ?_
            refine o_lald C kt_71 rfl hz3 dX12_mayBe_44 h (fun h => ?_)
            refine o_cVI C [vJ (μ2.1 71 z3)] mb_X12_milliOf (by decide) (fun _ hu => c_X12_milliOf (hμ2.l kt_71 _) hμ2 hu) rfl (Nat.le_of_ble_eq_true rfl) h mi_X12_milliOf me_X12_milliOf lkm_RX12_243 kt_53 rfl rfl rfl dX12_mayBe_45 (fun x5 μ6 hx5 hμ6 h => ?_)
            refine o_aload_n C 0 dX12_mayBe_48 rfl rfl ?_
            refine o_getR (j := 49) C kt_53 rfl rfl (Nat.le_of_ble_eq_true rfl) lkf_RX12_126 dX12_mayBe_49 ?_
            refine o_iload_n C 3 dX12_mayBe_52 rfl rfl ?_
            refine o_iald C kt_92 rfl hz3 dX12_mayBe_53 h (fun h => ?_)
            refine o_icmp_lt (tgt := 61) C hx5 (hμ6.i kt_92 (by decide) _) dX12_mayBe_54 (by decide) h (fun _ h => ?_) (fun _ h => ?_)
            · refine o_iconst C dX12_mayBe_61 ?_
              refine o_istore_n (lv2 := [(2, vI 0), (0, gR G 53), (1, vI z1), (3, vI z3)]) C dX12_mayBe_62 rfl (by decide) rfl ?_
              refine o_iinc (lv2 := fun x7 => [(3, vI x7), (2, vI 0), (0, gR G 53), (1, vI z1)]) C 3 dX12_mayBe_63 rfl (by decide) (fun _ => rfl) h (fun x7 hx7 h => ?_)
              refine o_goto (tgt := 7) C dX12_mayBe_66 (by decide) ?_
              exact WM.sub [2, 3, 1, 0] rfl (ih z1 hz1 0 ⟨by decide, by decide⟩ x7 hx7 μ6 hμ6 h)
            · refine o_iconst C dX12_mayBe_57 ?_
              refine o_goto (tgt := 62) C dX12_mayBe_58 (by decide) ?_
              refine o_istore_n (lv2 := [(2, vI 1), (0, gR G 53), (1, vI z1), (3, vI z3)]) C dX12_mayBe_62 rfl (by decide) rfl ?_
              refine o_iinc (lv2 := fun x8 => [(3, vI x8), (2, vI 1), (0, gR G 53), (1, vI z1)]) C 3 dX12_mayBe_63 rfl (by decide) (fun _ => rfl) h (fun x8 hx8 h => ?_)
              refine o_goto (tgt := 7) C dX12_mayBe_66 (by decide) ?_
              exact WM.sub [2, 3, 1, 0] rfl (ih z1 hz1 1 ⟨by decide, by decide⟩ x8 hx8 μ6 hμ6 h)
def f_X12_mayBe (z1 : Int) (μ : GM) : Option (Int × GM) :=
  bd (f_X12_solves μ) fun x1 μ2 =>
  k_X12_mayBe_7 FU z1 x1 0 μ2
set_option maxHeartbeats 4000000 in
set_option maxRecDepth 100000 in
theorem w_X12_mayBe_0 {G : GX} {u : Int × GM} (C : CX G 4 cX12_mayBe 4 RX12) (hQ : gQI G (some .boolean) u) {z1 : Int} (hz1 : r32 z1) {μ : GM} (hμ : gRg μ) (h : f_X12_mayBe z1 μ = some u) : WM G 4 μ 0 [(0, gR G 53), (1, vI z1)] [] := by
  unfold f_X12_mayBe at h
  refine o_aload_n C 0 dX12_mayBe_0 rfl rfl ?_
  refine o_cVI C [] mb_X12_solves (by decide) (fun _ hu => c_X12_solves hμ hu) rfl (Nat.le_of_ble_eq_true rfl) h mi_X12_solves me_X12_solves lkm_RX12_221 kt_53 rfl rfl rfl dX12_mayBe_1 (fun x1 μ2 hx1 hμ2 h => ?_)
  refine o_istore_n (lv2 := [(2, vI x1), (0, gR G 53), (1, vI z1)]) C dX12_mayBe_4 rfl (by decide) rfl ?_
  refine o_iconst C dX12_mayBe_5 ?_
  refine o_istore_n (lv2 := [(3, vI 0), (2, vI x1), (0, gR G 53), (1, vI z1)]) C dX12_mayBe_6 rfl (by decide) rfl ?_
  exact WM.sub [2, 3, 1, 0] rfl (w_X12_mayBe_7 C hQ FU z1 hz1 x1 hx1 0 ⟨by decide, by decide⟩ μ2 hμ2 h)
theorem c_X12_mayBe {z1 : Int} (hz1 : r32 z1) {μ : GM} (hμ : gRg μ) {u : Int × GM} (h : f_X12_mayBe z1 μ = some u) : MtI 4 yX12_mayBe cX12_mayBe 4 (some .boolean) (fun ad => [.ref (ad 53), vI z1]) μ u := MtI.of pf_X12_mayBe (fun _ => Nat.le_of_ble_eq_true rfl) (fun G C hQ => w_X12_mayBe_0 C hQ hz1 hμ h)
def k_X12_plan_201 (kL45 : Int → Int → GM → Option (Int × GM)) (z1 : Int) (z2 : Int) (z4 : Int) (z5 : Int) (μ : GM) : Option (Int × GM) :=
  bd (f_X12_mayBe z1 μ) fun x1 μ2 =>
  if x1 = 0 then
    lt (w32 (z2 + 1)) fun x3 =>
    kL45 z1 x3 μ2
  else
    lm (gF μ2 53 50 z4) fun μ4 =>
    lm (gF μ4 53 51 z5) fun μ5 =>
    lm (gF μ5 53 52 z2) fun μ6 =>
    lt (w32 (z2 + 1)) fun x7 =>
    kL45 z1 x7 μ6
set_option maxHeartbeats 4000000 in
set_option maxRecDepth 100000 in
theorem w_X12_plan_201 {G : GX} {u : Int × GM} (C : CX G 5 cX12_plan 7 RX12) (hQ : gQV G none u) {kL45 : Int → Int → GM → Option (Int × GM)} (hL45 : ∀ (z1 : Int) (hz1 : r32 z1) (z2 : Int) (hz2 : r32 z2) (μ : GM) (hμ : gRg μ), kL45 z1 z2 μ = some u → WM G 7 μ 45 [(0, gR G 53), (1, vI z1), (2, vI z2)] []) {z1 : Int} (hz1 : r32 z1) {z2 : Int} (hz2 : r32 z2) {z4 : Int} (hz4 : r32 z4) {z5 : Int} (hz5 : r32 z5) {μ : GM} (hμ : gRg μ) (h : k_X12_plan_201 kL45 z1 z2 z4 z5 μ = some u) : WM G 7 μ 201 [(0, gR G 53), (1, vI z1), (2, vI z2), (4, vI z4), (5, vI z5)] [] := by
  unfold k_X12_plan_201 at h
  refine o_aload_n C 0 dX12_plan_201 rfl rfl ?_
  refine o_iload_n C 1 dX12_plan_202 rfl rfl ?_
  refine o_cVI C [vI z1] mb_X12_mayBe (by decide) (fun _ hu => c_X12_mayBe hz1 hμ hu) rfl (Nat.le_of_ble_eq_true rfl) h mi_X12_mayBe me_X12_mayBe lkm_RX12_383 kt_53 rfl rfl rfl dX12_plan_203 (fun x1 μ2 hx1 hμ2 h => ?_)
  refine o_if_eq (tgt := 226) C hx1 dX12_plan_206 (by decide) h (fun _ h => ?_) (fun _ h => ?_)
  · refine o_iinc (lv2 := fun x3 => [(2, vI x3), (0, gR G 53), (1, vI z1), (4, vI z4), (5, vI z5)]) C 2 dX12_plan_226 rfl (by decide) (fun _ => rfl) h (fun x3 hx3 h => ?_)
    refine o_goto (tgt := 45) C dX12_plan_229 (by decide) ?_
    exact WM.sub [1, 2, 0] rfl (hL45 z1 hz1 x3 hx3 μ2 hμ2 h)
  · refine o_aload_n C 0 dX12_plan_209 rfl rfl ?_
    refine o_iload C 3 dX12_plan_210 rfl ?_
    refine o_putI (j := 50) C kt_53 rfl rfl tyX12_ok nmX12 (Nat.le_of_ble_eq_true rfl) lkf_RX12_371 rfl rfl hz4 hμ2 dX12_plan_212 h (fun μ4 hμ4 h => ?_)
    refine o_aload_n C 0 dX12_plan_215 rfl rfl ?_
    refine o_iload C 4 dX12_plan_216 rfl ?_
    refine o_putI (j := 51) C kt_53 rfl rfl tyX12_ok nmX12 (Nat.le_of_ble_eq_true rfl) lkf_RX12_374 rfl rfl hz5 hμ4 dX12_plan_218 h (fun μ5 hμ5 h => ?_)
    refine o_aload_n C 0 dX12_plan_221 rfl rfl ?_
    refine o_iload_n C 2 dX12_plan_222 rfl rfl ?_
    refine o_putI (j := 52) C kt_53 rfl rfl tyX12_ok nmX12 (Nat.le_of_ble_eq_true rfl) lkf_RX12_377 rfl rfl hz2 hμ5 dX12_plan_223 h (fun μ6 hμ6 h => ?_)
    refine o_iinc (lv2 := fun x7 => [(2, vI x7), (0, gR G 53), (1, vI z1), (4, vI z4), (5, vI z5)]) C 2 dX12_plan_226 rfl (by decide) (fun _ => rfl) h (fun x7 hx7 h => ?_)
    refine o_goto (tgt := 45) C dX12_plan_229 (by decide) ?_
    exact WM.sub [1, 2, 0] rfl (hL45 z1 hz1 x7 hx7 μ6 hμ6 h)
def k_X12_plan_118 (kL45 : Int → Int → GM → Option (Int × GM)) : Nat → Int → Int → Int → Int → Int → GM → Option (Int × GM)
  | 0, _, _, _, _, _, _ => none
  | n + 1, z1, z2, z4, z5, z6, μ =>
    if z6 < (μ.2 53 18) then
      ck (0 ≤ z6 ∧ z6 < 3) (
      ck (0 ≤ z6 ∧ z6 < 3) (
      lt (w32 (z4 + (w32 ((μ.1 73 z6) * (μ.1 69 z6))))) fun x3 =>
      ck (0 ≤ z6 ∧ z6 < 3) (
      lt (w32 (z5 + (μ.1 73 z6))) fun x4 =>
      lt (w32 (z6 + 1)) fun x5 =>
      k_X12_plan_118 kL45 n z1 z2 x3 x4 x5 μ)))
    else
      if (μ.2 53 50) = (-10000009) then
        k_X12_plan_201 kL45 z1 z2 z4 z5 μ
      else
        if (μ.2 53 50) < z4 then
          k_X12_plan_201 kL45 z1 z2 z4 z5 μ
        else
          if z4 = (μ.2 53 50) then
            if z5 < (μ.2 53 51) then
              k_X12_plan_201 kL45 z1 z2 z4 z5 μ
            else
              lt (w32 (z2 + 1)) fun x2 =>
              kL45 z1 x2 μ
          else
            lt (w32 (z2 + 1)) fun x1 =>
            kL45 z1 x1 μ
set_option maxHeartbeats 4000000 in
set_option maxRecDepth 100000 in
theorem w_X12_plan_118 {G : GX} {u : Int × GM} (C : CX G 5 cX12_plan 7 RX12) (hQ : gQV G none u) {kL45 : Int → Int → GM → Option (Int × GM)} (hL45 : ∀ (z1 : Int) (hz1 : r32 z1) (z2 : Int) (hz2 : r32 z2) (μ : GM) (hμ : gRg μ), kL45 z1 z2 μ = some u → WM G 7 μ 45 [(0, gR G 53), (1, vI z1), (2, vI z2)] []) : ∀ (n : Nat) (z1 : Int) (hz1 : r32 z1) (z2 : Int) (hz2 : r32 z2) (z4 : Int) (hz4 : r32 z4) (z5 : Int) (hz5 : r32 z5) (z6 : Int) (hz6 : r32 z6) (μ : GM) (hμ : gRg μ), k_X12_plan_118 kL45 n z1 z2 z4 z5 z6 μ = some u → WM G 7 μ 118 [(0, gR G 53), (1, vI z1), (2, vI z2), (4, vI z4), (5, vI z5), (6, vI z6)] [] := by
  intro n
  induction n with
  | zero =>
    intro z1 hz1 z2 hz2 z4 hz4 z5 hz5 z6 hz6 μ hμ h
    cases h
  | succ n ih =>
    intro z1 hz1 z2 hz2 z4 hz4 z5 hz5 z6 hz6 μ hμ h
    rw [k_X12_plan_118] at h
    refine o_iload C 5 dX12_plan_118 rfl ?_
    refine o_aload_n C 0 dX12_plan_120 rfl rfl ?_
    refine o_getI (j := 18) C kt_53 rfl rfl (Nat.le_of_ble_eq_true rfl) lkf_RX12_144 dX12_plan_121 ?_
    refine o_icmp_ge (tgt := 165) C hz6 (hμ.fi kt_53 rfl (by decide)) dX12_plan_124 (by decide) h (fun _ h => ?_) (fun _ h => ?_)
    · refine o_aload_n C 0 dX12_plan_165 rfl rfl ?_
      refine o_getI (j := 50) C kt_53 rfl rfl (Nat.le_of_ble_eq_true rfl) lkf_RX12_371 dX12_plan_166 ?_
      refine o_ldc (v := (-10000009)) C lkc_RX12_132 rfl dX12_plan_169 ?_
      refine o_icmp_eq (tgt := 201) C (hμ.fi kt_53 rfl (by decide)) ⟨by decide, by decide⟩ dX12_plan_171 (by decide) h (fun _ h => ?_) (fun _ h => ?_)
      · exact WM.sub [0, 1, 2, 3, 4] rfl (w_X12_plan_201 C hQ hL45 hz1 hz2 hz4 hz5 hμ h)
      · refine o_iload C 3 dX12_plan_174 rfl ?_
        refine o_aload_n C 0 dX12_plan_176 rfl rfl ?_
        refine o_getI (j := 50) C kt_53 rfl rfl (Nat.le_of_ble_eq_true rfl) lkf_RX12_371 dX12_plan_177 ?_
        refine o_icmp_gt (tgt := 201) C hz4 (hμ.fi kt_53 rfl (by decide)) dX12_plan_180 (by decide) h (fun _ h => ?_) (fun _ h => ?_)
        · exact WM.sub [0, 1, 2, 3, 4] rfl (w_X12_plan_201 C hQ hL45 hz1 hz2 hz4 hz5 hμ h)
        · refine o_iload C 3 dX12_plan_183 rfl ?_
          refine o_aload_n C 0 dX12_plan_185 rfl rfl ?_
          refine o_getI (j := 50) C kt_53 rfl rfl (Nat.le_of_ble_eq_true rfl) lkf_RX12_371 dX12_plan_186 ?_
          refine o_icmp_ne (tgt := 226) C hz4 (hμ.fi kt_53 rfl (by decide)) dX12_plan_189 (by decide) h (fun _ h => ?_) (fun _ h => ?_)
          · refine o_iinc (lv2 := fun x1 => [(2, vI x1), (0, gR G 53), (1, vI z1), (4, vI z4), (5, vI z5), (6, vI z6)]) C 2 dX12_plan_226 rfl (by decide) (fun _ => rfl) h (fun x1 hx1 h => ?_)
            refine o_goto (tgt := 45) C dX12_plan_229 (by decide) ?_
            exact WM.sub [1, 2, 0] rfl (hL45 z1 hz1 x1 hx1 μ hμ h)
          · refine o_iload C 4 dX12_plan_192 rfl ?_
            refine o_aload_n C 0 dX12_plan_194 rfl rfl ?_
            refine o_getI (j := 51) C kt_53 rfl rfl (Nat.le_of_ble_eq_true rfl) lkf_RX12_374 dX12_plan_195 ?_
            refine o_icmp_ge (tgt := 226) C hz5 (hμ.fi kt_53 rfl (by decide)) dX12_plan_198 (by decide) h (fun _ h => ?_) (fun _ h => ?_)
            · refine o_iinc (lv2 := fun x2 => [(2, vI x2), (0, gR G 53), (1, vI z1), (4, vI z4), (5, vI z5), (6, vI z6)]) C 2 dX12_plan_226 rfl (by decide) (fun _ => rfl) h (fun x2 hx2 h => ?_)
              refine o_goto (tgt := 45) C dX12_plan_229 (by decide) ?_
              exact WM.sub [1, 2, 0] rfl (hL45 z1 hz1 x2 hx2 μ hμ h)
            · exact WM.sub [0, 1, 2, 3, 4] rfl (w_X12_plan_201 C hQ hL45 hz1 hz2 hz4 hz5 hμ h)
    · refine o_iload C 3 dX12_plan_127 rfl ?_
      refine o_aload_n C 0 dX12_plan_129 rfl rfl ?_
      refine o_getR (j := 27) C kt_53 rfl rfl (Nat.le_of_ble_eq_true rfl) lkf_RX12_68 dX12_plan_130 ?_
      refine o_iload C 5 dX12_plan_133 rfl ?_
      refine o_iald C kt_73 rfl hz6 dX12_plan_135 h (fun h => ?_)
      refine o_aload_n C 0 dX12_plan_136 rfl rfl ?_
      refine o_getR (j := 21) C kt_53 rfl rfl (Nat.le_of_ble_eq_true rfl) lkf_RX12_55 dX12_plan_137 ?_
      refine o_iload C 5 dX12_plan_140 rfl ?_
      refine o_iald C kt_69 rfl hz6 dX12_plan_142 h (fun h => ?_)
      refine o_imul C dX12_plan_143 ?_
      refine o_iadd C dX12_plan_144 ?_
      refine o_lt h (r32_w _) (fun x3 hx3 h => ?_)
      refine o_istore (lv2 := [(4, vI x3), (0, gR G 53), (1, vI z1), (2, vI z2), (5, vI z5), (6, vI z6)]) C dX12_plan_145 (by decide) rfl ?_
      refine o_iload C 4 dX12_plan_147 rfl ?_
      refine o_aload_n C 1 dX12_plan_149 rfl rfl ?_
      refine o_getR (j := 27) C kt_53 rfl rfl (Nat.le_of_ble_eq_true rfl) lkf_RX12_68 dX12_plan_150 ?_
      refine o_iload C 5 dX12_plan_153 rfl ?_
      refine o_iald C kt_73 rfl hz6 dX12_plan_155 h (fun h => ?_)
      refine o_iadd C dX12_plan_156 ?_
      refine o_lt h (r32_w _) (fun x4 hx4 h => ?_)
      refine o_istore (lv2 := [(5, vI x4), (4, vI x3), (0, gR G 53), (1, vI z1), (2, vI z2), (6, vI z6)]) C dX12_plan_157 (by decide) rfl ?_
      refine o_iinc (lv2 := fun x5 => [(6, vI x5), (5, vI x4), (4, vI x3), (0, gR G 53), (1, vI z1), (2, vI z2)]) C 5 dX12_plan_159 rfl (by decide) (fun _ => rfl) h (fun x5 hx5 h => ?_)
      refine o_goto (tgt := 118) C dX12_plan_162 (by decide) ?_
      exact WM.sub [3, 4, 5, 2, 1, 0] rfl (ih z1 hz1 z2 hz2 x3 hx3 x4 hx4 x5 hx5 μ hμ h)
def k_X12_plan_99 (kL45 : Int → Int → GM → Option (Int × GM)) (z1 : Int) (z2 : Int) (s0 : Int) (μ : GM) : Option (Int × GM) :=
  if s0 = 0 then
    lt (w32 (z2 + 1)) fun x1 =>
    kL45 z1 x1 μ
  else
    bd (f_X12_draws z2 μ) fun _x2 μ3 =>
    k_X12_plan_118 kL45 FU z1 z2 0 0 0 μ3
set_option maxHeartbeats 4000000 in
set_option maxRecDepth 100000 in
theorem w_X12_plan_99 {G : GX} {u : Int × GM} (C : CX G 5 cX12_plan 7 RX12) (hQ : gQV G none u) {kL45 : Int → Int → GM → Option (Int × GM)} (hL45 : ∀ (z1 : Int) (hz1 : r32 z1) (z2 : Int) (hz2 : r32 z2) (μ : GM) (hμ : gRg μ), kL45 z1 z2 μ = some u → WM G 7 μ 45 [(0, gR G 53), (1, vI z1), (2, vI z2)] []) {z1 : Int} (hz1 : r32 z1) {z2 : Int} (hz2 : r32 z2) {s0 : Int} (hs0 : r32 s0) {μ : GM} (hμ : gRg μ) (h : k_X12_plan_99 kL45 z1 z2 s0 μ = some u) : WM G 7 μ 99 [(0, gR G 53), (1, vI z1), (2, vI z2)] [vI s0] := by
  unfold k_X12_plan_99 at h
  refine o_istore_n (lv2 := [(3, vI s0), (0, gR G 53), (1, vI z1), (2, vI z2)]) C dX12_plan_99 rfl (by decide) rfl ?_
  refine o_iload_n C 0 dX12_plan_100 rfl rfl ?_
  refine o_if_eq (tgt := 226) C hs0 dX12_plan_101 (by decide) h (fun _ h => ?_) (fun _ h => ?_)
  · refine o_iinc (lv2 := fun x1 => [(2, vI x1), (3, vI s0), (0, gR G 53), (1, vI z1)]) C 3 dX12_plan_226 rfl (by decide) (fun _ => rfl) h (fun x1 hx1 h => ?_)
    refine o_goto (tgt := 45) C dX12_plan_229 (by decide) ?_
    exact WM.sub [2, 3, 0] rfl (hL45 z1 hz1 x1 hx1 μ hμ h)
  · refine o_aload_n C 1 dX12_plan_104 rfl rfl ?_
    refine o_iload_n C 3 dX12_plan_105 rfl rfl ?_
    refine o_cVV C [vI z2] mb_X12_draws (by decide) (fun _ hu => c_X12_draws hz2 hμ hu) rfl (Nat.le_of_ble_eq_true rfl) h mi_X12_draws me_X12_draws lkm_RX12_380 kt_53 rfl rfl rfl dX12_plan_106 (fun _x2 μ3 hμ3 h => ?_)
    refine o_iconst C dX12_plan_109 ?_
    refine o_istore (lv2 := [(4, vI 0), (3, vI s0), (0, gR G 53), (1, vI z1), (2, vI z2)]) C dX12_plan_110 (by decide) rfl ?_
    refine o_iconst C dX12_plan_112 ?_
    refine o_istore (lv2 := [(5, vI 0), (4, vI 0), (3, vI s0), (0, gR G 53), (1, vI z1), (2, vI z2)]) C dX12_plan_113 (by decide) rfl ?_
    refine o_iconst C dX12_plan_115 ?_
    refine o_istore (lv2 := [(6, vI 0), (5, vI 0), (4, vI 0), (3, vI s0), (0, gR G 53), (1, vI z1), (2, vI z2)]) C dX12_plan_116 (by decide) rfl ?_
    exact WM.sub [4, 5, 6, 2, 1, 0] rfl (w_X12_plan_118 C hQ hL45 FU z1 hz1 z2 hz2 0 ⟨by decide, by decide⟩ 0 ⟨by decide, by decide⟩ 0 ⟨by decide, by decide⟩ μ3 hμ3 h)
def k_X12_plan_98 (kL45 : Int → Int → GM → Option (Int × GM)) (z1 : Int) (z2 : Int) (μ : GM) : Option (Int × GM) :=
  k_X12_plan_99 kL45 z1 z2 0 μ
set_option maxHeartbeats 4000000 in
set_option maxRecDepth 100000 in
theorem w_X12_plan_98 {G : GX} {u : Int × GM} (C : CX G 5 cX12_plan 7 RX12) (hQ : gQV G none u) {kL45 : Int → Int → GM → Option (Int × GM)} (hL45 : ∀ (z1 : Int) (hz1 : r32 z1) (z2 : Int) (hz2 : r32 z2) (μ : GM) (hμ : gRg μ), kL45 z1 z2 μ = some u → WM G 7 μ 45 [(0, gR G 53), (1, vI z1), (2, vI z2)] []) {z1 : Int} (hz1 : r32 z1) {z2 : Int} (hz2 : r32 z2) {μ : GM} (hμ : gRg μ) (h : k_X12_plan_98 kL45 z1 z2 μ = some u) : WM G 7 μ 98 [(0, gR G 53), (1, vI z1), (2, vI z2)] [] := by
  unfold k_X12_plan_98 at h
  refine o_iconst C dX12_plan_98 ?_
  exact WM.sub [0, 1, 2] rfl (w_X12_plan_99 C hQ hL45 hz1 hz2 ⟨by decide, by decide⟩ hμ h)
def k_X12_plan_80 (kL45 : Int → Int → GM → Option (Int × GM)) (z1 : Int) (z2 : Int) (μ : GM) : Option (Int × GM) :=
  if 2 < (μ.2 53 18) then
    k_X12_plan_99 kL45 z1 z2 1 μ
  else
    ck (5 ≠ 0) (
    if (Int.tmod z2 5) = 0 then
      k_X12_plan_99 kL45 z1 z2 1 μ
    else
      k_X12_plan_98 kL45 z1 z2 μ)
set_option maxHeartbeats 4000000 in
set_option maxRecDepth 100000 in
theorem w_X12_plan_80 {G : GX} {u : Int × GM} (C : CX G 5 cX12_plan 7 RX12) (hQ : gQV G none u) {kL45 : Int → Int → GM → Option (Int × GM)} (hL45 : ∀ (z1 : Int) (hz1 : r32 z1) (z2 : Int) (hz2 : r32 z2) (μ : GM) (hμ : gRg μ), kL45 z1 z2 μ = some u → WM G 7 μ 45 [(0, gR G 53), (1, vI z1), (2, vI z2)] []) {z1 : Int} (hz1 : r32 z1) {z2 : Int} (hz2 : r32 z2) {μ : GM} (hμ : gRg μ) (h : k_X12_plan_80 kL45 z1 z2 μ = some u) : WM G 7 μ 80 [(0, gR G 53), (1, vI z1), (2, vI z2)] [] := by
  unfold k_X12_plan_80 at h
  refine o_aload_n C 0 dX12_plan_80 rfl rfl ?_
  refine o_getI (j := 18) C kt_53 rfl rfl (Nat.le_of_ble_eq_true rfl) lkf_RX12_144 dX12_plan_81 ?_
  refine o_iconst C dX12_plan_84 ?_
  refine o_icmp_gt (tgt := 94) C (hμ.fi kt_53 rfl (by decide)) ⟨by decide, by decide⟩ dX12_plan_85 (by decide) h (fun _ h => ?_) (fun _ h => ?_)
  · refine o_iconst C dX12_plan_94 ?_
    refine o_goto (tgt := 99) C dX12_plan_95 (by decide) ?_
    exact WM.sub [0, 1, 2] rfl (w_X12_plan_99 C hQ hL45 hz1 hz2 ⟨by decide, by decide⟩ hμ h)
  · refine o_iload_n C 2 dX12_plan_88 rfl rfl ?_
    refine o_iconst C dX12_plan_89 ?_
    refine o_irem C hz2 ⟨by decide, by decide⟩ dX12_plan_90 h (fun h => ?_)
    refine o_if_ne (tgt := 98) C (r32_rem _ hz2) dX12_plan_91 (by decide) h (fun _ h => ?_) (fun _ h => ?_)
    · exact WM.sub [0, 1, 2] rfl (w_X12_plan_98 C hQ hL45 hz1 hz2 hμ h)
    · refine o_iconst C dX12_plan_94 ?_
      refine o_goto (tgt := 99) C dX12_plan_95 (by decide) ?_
      exact WM.sub [0, 1, 2] rfl (w_X12_plan_99 C hQ hL45 hz1 hz2 ⟨by decide, by decide⟩ hμ h)
def k_X12_plan_64 (kL45 : Int → Int → GM → Option (Int × GM)) (z1 : Int) (z2 : Int) (μ : GM) : Option (Int × GM) :=
  if 1 < (μ.2 53 18) then
    k_X12_plan_80 kL45 z1 z2 μ
  else
    ck (5 ≠ 0) (
    ck (5 ≠ 0) (
    if (Int.tmod (w32 (Int.tdiv z2 5)) 5) = 0 then
      k_X12_plan_80 kL45 z1 z2 μ
    else
      k_X12_plan_98 kL45 z1 z2 μ))
set_option maxHeartbeats 4000000 in
set_option maxRecDepth 100000 in
theorem w_X12_plan_64 {G : GX} {u : Int × GM} (C : CX G 5 cX12_plan 7 RX12) (hQ : gQV G none u) {kL45 : Int → Int → GM → Option (Int × GM)} (hL45 : ∀ (z1 : Int) (hz1 : r32 z1) (z2 : Int) (hz2 : r32 z2) (μ : GM) (hμ : gRg μ), kL45 z1 z2 μ = some u → WM G 7 μ 45 [(0, gR G 53), (1, vI z1), (2, vI z2)] []) {z1 : Int} (hz1 : r32 z1) {z2 : Int} (hz2 : r32 z2) {μ : GM} (hμ : gRg μ) (h : k_X12_plan_64 kL45 z1 z2 μ = some u) : WM G 7 μ 64 [(0, gR G 53), (1, vI z1), (2, vI z2)] [] := by
  unfold k_X12_plan_64 at h
  refine o_aload_n C 0 dX12_plan_64 rfl rfl ?_
  refine o_getI (j := 18) C kt_53 rfl rfl (Nat.le_of_ble_eq_true rfl) lkf_RX12_144 dX12_plan_65 ?_
  refine o_iconst C dX12_plan_68 ?_
  refine o_icmp_gt (tgt := 80) C (hμ.fi kt_53 rfl (by decide)) ⟨by decide, by decide⟩ dX12_plan_69 (by decide) h (fun _ h => ?_) (fun _ h => ?_)
  · exact WM.sub [0, 1, 2] rfl (w_X12_plan_80 C hQ hL45 hz1 hz2 hμ h)
  · refine o_iload_n C 2 dX12_plan_72 rfl rfl ?_
    refine o_iconst C dX12_plan_73 ?_
    refine o_idiv C hz2 ⟨by decide, by decide⟩ dX12_plan_74 h (fun h => ?_)
    refine o_iconst C dX12_plan_75 ?_
    refine o_irem C (r32_w _) ⟨by decide, by decide⟩ dX12_plan_76 h (fun h => ?_)
    refine o_if_ne (tgt := 98) C (r32_rem _ (r32_w _)) dX12_plan_77 (by decide) h (fun _ h => ?_) (fun _ h => ?_)
    · exact WM.sub [0, 1, 2] rfl (w_X12_plan_98 C hQ hL45 hz1 hz2 hμ h)
    · exact WM.sub [0, 1, 2] rfl (w_X12_plan_80 C hQ hL45 hz1 hz2 hμ h)
def k_X12_plan_45 : Nat → Int → Int → GM → Option (Int × GM)
  | 0, _, _, _ => none
  | n + 1, z1, z2, μ =>
    if z2 < 125 then
      if 0 < (μ.2 53 18) then
        k_X12_plan_64 (k_X12_plan_45 n) z1 z2 μ
      else
        if z2 < 25 then
          k_X12_plan_64 (k_X12_plan_45 n) z1 z2 μ
        else
          k_X12_plan_98 (k_X12_plan_45 n) z1 z2 μ
    else
      some (0, μ)
set_option maxHeartbeats 4000000 in
set_option maxRecDepth 100000 in
theorem w_X12_plan_45 {G : GX} {u : Int × GM} (C : CX G 5 cX12_plan 7 RX12) (hQ : gQV G none u) : ∀ (n : Nat) (z1 : Int) (hz1 : r32 z1) (z2 : Int) (hz2 : r32 z2) (μ : GM) (hμ : gRg μ), k_X12_plan_45 n z1 z2 μ = some u → WM G 7 μ 45 [(0, gR G 53), (1, vI z1), (2, vI z2)] [] := by
  intro n
  induction n with
  | zero =>
    intro z1 hz1 z2 hz2 μ hμ h
    cases h
  | succ n ih =>
    intro z1 hz1 z2 hz2 μ hμ h
    rw [k_X12_plan_45] at h
    refine o_iload_n C 2 dX12_plan_45 rfl rfl ?_
    refine o_bipush (v := 125) C dX12_plan_46 (by decide) ?_
    refine o_icmp_ge (tgt := 232) C hz2 ⟨by decide, by decide⟩ dX12_plan_48 (by decide) h (fun _ h => ?_) (fun _ h => ?_)
    · exact o_vret C hQ dX12_plan_232 h hμ
    · refine o_aload_n C 0 dX12_plan_51 rfl rfl ?_
      refine o_getI (j := 18) C kt_53 rfl rfl (Nat.le_of_ble_eq_true rfl) lkf_RX12_144 dX12_plan_52 ?_
      refine o_if_gt (tgt := 64) C (hμ.fi kt_53 rfl (by decide)) dX12_plan_55 (by decide) h (fun _ h => ?_) (fun _ h => ?_)
      · exact WM.sub [0, 1, 2] rfl (w_X12_plan_64 C hQ ih hz1 hz2 hμ h)
      · refine o_iload_n C 2 dX12_plan_58 rfl rfl ?_
        refine o_bipush (v := 25) C dX12_plan_59 (by decide) ?_
        refine o_icmp_ge (tgt := 98) C hz2 ⟨by decide, by decide⟩ dX12_plan_61 (by decide) h (fun _ h => ?_) (fun _ h => ?_)
        · exact WM.sub [0, 1, 2] rfl (w_X12_plan_98 C hQ ih hz1 hz2 hμ h)
        · exact WM.sub [0, 1, 2] rfl (w_X12_plan_64 C hQ ih hz1 hz2 hμ h)
def k_X12_plan_25 (s0 : Int) (μ : GM) : Option (Int × GM) :=
  lm (gF μ 53 50 (-10000009)) fun μ1 =>
  lm (gF μ1 53 51 0) fun μ2 =>
  lm (gF μ2 53 52 (-10000009)) fun μ3 =>
  k_X12_plan_45 FU s0 0 μ3
set_option maxHeartbeats 4000000 in
set_option maxRecDepth 100000 in
theorem w_X12_plan_25 {G : GX} {u : Int × GM} (C : CX G 5 cX12_plan 7 RX12) (hQ : gQV G none u) {s0 : Int} (hs0 : r32 s0) {μ : GM} (hμ : gRg μ) (h : k_X12_plan_25 s0 μ = some u) : WM G 7 μ 25 [(0, gR G 53)] [vI s0] := by
  unfold k_X12_plan_25 at h
  refine o_istore_n (lv2 := [(1, vI s0), (0, gR G 53)]) C dX12_plan_25 rfl (by decide) rfl ?_
  refine o_aload_n C 1 dX12_plan_26 rfl rfl ?_
  refine o_ldc (v := (-10000009)) C lkc_RX12_132 rfl dX12_plan_27 ?_
  refine o_putI (j := 50) C kt_53 rfl rfl tyX12_ok nmX12 (Nat.le_of_ble_eq_true rfl) lkf_RX12_371 rfl rfl ⟨by decide, by decide⟩ hμ dX12_plan_29 h (fun μ1 hμ1 h => ?_)
  refine o_aload_n C 1 dX12_plan_32 rfl rfl ?_
  refine o_iconst C dX12_plan_33 ?_
  refine o_putI (j := 51) C kt_53 rfl rfl tyX12_ok nmX12 (Nat.le_of_ble_eq_true rfl) lkf_RX12_374 rfl rfl ⟨by decide, by decide⟩ hμ1 dX12_plan_34 h (fun μ2 hμ2 h => ?_)
  refine o_aload_n C 1 dX12_plan_37 rfl rfl ?_
  refine o_ldc (v := (-10000009)) C lkc_RX12_132 rfl dX12_plan_38 ?_
  refine o_putI (j := 52) C kt_53 rfl rfl tyX12_ok nmX12 (Nat.le_of_ble_eq_true rfl) lkf_RX12_377 rfl rfl ⟨by decide, by decide⟩ hμ2 dX12_plan_40 h (fun μ3 hμ3 h => ?_)
  refine o_iconst C dX12_plan_43 ?_
  refine o_istore_n (lv2 := [(2, vI 0), (1, vI s0), (0, gR G 53)]) C dX12_plan_44 rfl (by decide) rfl ?_
  exact WM.sub [2, 1, 0] rfl (w_X12_plan_45 C hQ FU s0 hs0 0 ⟨by decide, by decide⟩ μ3 hμ3 h)
def k_X12_plan_24 (μ : GM) : Option (Int × GM) :=
  k_X12_plan_25 0 μ
set_option maxHeartbeats 4000000 in
set_option maxRecDepth 100000 in
theorem w_X12_plan_24 {G : GX} {u : Int × GM} (C : CX G 5 cX12_plan 7 RX12) (hQ : gQV G none u) {μ : GM} (hμ : gRg μ) (h : k_X12_plan_24 μ = some u) : WM G 7 μ 24 [(0, gR G 53)] [] := by
  unfold k_X12_plan_24 at h
  refine o_iconst C dX12_plan_24 ?_
  exact WM.sub [0] rfl (w_X12_plan_25 C hQ ⟨by decide, by decide⟩ hμ h)
def f_X12_plan (μ : GM) : Option (Int × GM) :=
  bd (f_X12_asIs μ) fun _x1 μ2 =>
  if 0 < (μ2.2 53 44) then
    bd (f_X12_faultOf μ2) fun x3 μ4 =>
    if x3 = (-10000009) then
      k_X12_plan_25 1 μ4
    else
      k_X12_plan_24 μ4
  else
    k_X12_plan_24 μ2
set_option maxHeartbeats 4000000 in
set_option maxRecDepth 100000 in
theorem w_X12_plan_0 {G : GX} {u : Int × GM} (C : CX G 5 cX12_plan 7 RX12) (hQ : gQV G none u) {μ : GM} (hμ : gRg μ) (h : f_X12_plan μ = some u) : WM G 7 μ 0 [(0, gR G 53)] [] := by
  unfold f_X12_plan at h
  refine o_aload_n C 0 dX12_plan_0 rfl rfl ?_
  refine o_cVV C [] mb_X12_asIs (by decide) (fun _ hu => c_X12_asIs hμ hu) rfl (Nat.le_of_ble_eq_true rfl) h mi_X12_asIs me_X12_asIs lkm_RX12_218 kt_53 rfl rfl rfl dX12_plan_1 (fun _x1 μ2 hμ2 h => ?_)
  refine o_aload_n C 0 dX12_plan_4 rfl rfl ?_
  refine o_getI (j := 44) C kt_53 rfl rfl (Nat.le_of_ble_eq_true rfl) lkf_RX12_340 dX12_plan_5 ?_
  refine o_if_le (tgt := 24) C (hμ2.fi kt_53 rfl (by decide)) dX12_plan_8 (by decide) h (fun _ h => ?_) (fun _ h => ?_)
  · exact WM.sub [0] rfl (w_X12_plan_24 C hQ hμ2 h)
  · refine o_aload_n C 0 dX12_plan_11 rfl rfl ?_
    refine o_cVI C [] mb_X12_faultOf (by decide) (fun _ hu => c_X12_faultOf hμ2 hu) rfl (Nat.le_of_ble_eq_true rfl) h mi_X12_faultOf me_X12_faultOf lkm_RX12_353 kt_53 rfl rfl rfl dX12_plan_12 (fun x3 μ4 hx3 hμ4 h => ?_)
    refine o_ldc (v := (-10000009)) C lkc_RX12_132 rfl dX12_plan_15 ?_
    refine o_icmp_ne (tgt := 24) C hx3 ⟨by decide, by decide⟩ dX12_plan_17 (by decide) h (fun _ h => ?_) (fun _ h => ?_)
    · exact WM.sub [0] rfl (w_X12_plan_24 C hQ hμ4 h)
    · refine o_iconst C dX12_plan_20 ?_
      refine o_goto (tgt := 25) C dX12_plan_21 (by decide) ?_
      exact WM.sub [0] rfl (w_X12_plan_25 C hQ ⟨by decide, by decide⟩ hμ4 h)
theorem c_X12_plan {μ : GM} (hμ : gRg μ) {u : Int × GM} (h : f_X12_plan μ = some u) : MtV 5 yX12_plan cX12_plan 7 none (fun ad => [.ref (ad 53)]) μ u := MtV.of pf_X12_plan (fun _ => Nat.le_of_ble_eq_true rfl) (fun G C hQ => w_X12_plan_0 C hQ hμ h)
def f_X12_worth (μ : GM) : Option (Int × GM) :=
  lm (gF μ 53 0 0) fun μ1 =>
  bd (f_X12_plan μ1) fun _x2 μ3 =>
  some ((μ3.2 53 50), μ3)
set_option maxHeartbeats 4000000 in
set_option maxRecDepth 100000 in
theorem w_X12_worth_0 {G : GX} {u : Int × GM} (C : CX G 6 cX12_worth 1 RX12) (hQ : gQI G (some .int) u) {μ : GM} (hμ : gRg μ) (h : f_X12_worth μ = some u) : WM G 1 μ 0 [(0, gR G 53)] [] := by
  unfold f_X12_worth at h
  refine o_aload_n C 0 dX12_worth_0 rfl rfl ?_
  refine o_iconst C dX12_worth_1 ?_
  refine o_putI (j := 0) C kt_53 rfl rfl tyX12_ok nmX12 (Nat.le_of_ble_eq_true rfl) lkf_RX12_133 rfl rfl ⟨by decide, by decide⟩ hμ dX12_worth_2 h (fun μ1 hμ1 h => ?_)
  refine o_aload_n C 0 dX12_worth_5 rfl rfl ?_
  refine o_cVV C [] mb_X12_plan (by decide) (fun _ hu => c_X12_plan hμ1 hu) rfl (Nat.le_of_ble_eq_true rfl) h mi_X12_plan me_X12_plan lkm_RX12_387 kt_53 rfl rfl rfl dX12_worth_6 (fun _x2 μ3 hμ3 h => ?_)
  refine o_aload_n C 0 dX12_worth_9 rfl rfl ?_
  refine o_getI (j := 50) C kt_53 rfl rfl (Nat.le_of_ble_eq_true rfl) lkf_RX12_371 dX12_worth_10 ?_
  exact o_iret C hQ dX12_worth_13 h (hμ3.fi kt_53 rfl (by decide)) hμ3
theorem c_X12_worth {μ : GM} (hμ : gRg μ) {u : Int × GM} (h : f_X12_worth μ = some u) : MtI 6 yX12_worth cX12_worth 1 (some .int) (fun ad => [.ref (ad 53)]) μ u := MtI.of pf_X12_worth (fun _ => Nat.le_of_ble_eq_true rfl) (fun G C hQ => w_X12_worth_0 C hQ hμ h)
