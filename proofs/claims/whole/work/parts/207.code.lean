def k_X4_holdsWith_261 (a1 : Nat) (μ : GM) : Option (Int × GM) :=
  ck (0 ≤ (μ.2 42 4) ∧ (μ.2 42 4) < 201) (
  if (μ.1 44 (μ.2 42 4)) = 0 then
    ck (0 ≤ (μ.2 42 4) ∧ (μ.2 42 4) < 201) (
    if (μ.1 45 (μ.2 42 4)) = 0 then
      some (0 % 2, μ)
    else
      some (1 % 2, μ))
  else
    some (1 % 2, μ))
set_option maxHeartbeats 4000000 in
set_option maxRecDepth 100000 in
theorem w_X4_holdsWith_261 {G : GX} {u : Int × GM} (C : CX G 4 cX4_holdsWith 5 RX4) (hQ : gQI G (some .boolean) u) {a1 : Nat} (ha1 : gKT[a1]? = some (0, 3, 0, [])) {μ : GM} (hμ : gRg μ) (h : k_X4_holdsWith_261 a1 μ = some u) : WM G 5 μ 261 [(0, gR G 42)] [] := by
  unfold k_X4_holdsWith_261 at h
  refine o_aload_n C 0 dX4_holdsWith_261 rfl rfl ?_
  refine o_getR (j := 7) C kt_42 rfl rfl (Nat.le_of_ble_eq_true rfl) lkf_RX4_28 dX4_holdsWith_262 ?_
  refine o_aload_n C 0 dX4_holdsWith_265 rfl rfl ?_
  refine o_getI (j := 4) C kt_42 rfl rfl (Nat.le_of_ble_eq_true rfl) lkf_RX4_19 dX4_holdsWith_266 ?_
  refine o_zald C kt_44 rfl (hμ.fi kt_42 rfl (by decide)) dX4_holdsWith_269 h (fun h => ?_)
  refine o_if_ne (tgt := 285) C (hμ.i kt_44 (by decide) _) dX4_holdsWith_270 (by decide) h (fun _ h => ?_) (fun _ h => ?_)
  · refine o_iconst C dX4_holdsWith_285 ?_
    refine o_goto (tgt := 290) C dX4_holdsWith_286 (by decide) ?_
    exact o_zret C hQ dX4_holdsWith_290 h hμ
  · refine o_aload_n C 0 dX4_holdsWith_273 rfl rfl ?_
    refine o_getR (j := 8) C kt_42 rfl rfl (Nat.le_of_ble_eq_true rfl) lkf_RX4_32 dX4_holdsWith_274 ?_
    refine o_aload_n C 0 dX4_holdsWith_277 rfl rfl ?_
    refine o_getI (j := 4) C kt_42 rfl rfl (Nat.le_of_ble_eq_true rfl) lkf_RX4_19 dX4_holdsWith_278 ?_
    refine o_zald C kt_45 rfl (hμ.fi kt_42 rfl (by decide)) dX4_holdsWith_281 h (fun h => ?_)
    refine o_if_eq (tgt := 289) C (hμ.i kt_45 (by decide) _) dX4_holdsWith_282 (by decide) h (fun _ h => ?_) (fun _ h => ?_)
    · refine o_iconst C dX4_holdsWith_289 ?_
      exact o_zret C hQ dX4_holdsWith_290 h hμ
    · refine o_iconst C dX4_holdsWith_285 ?_
      refine o_goto (tgt := 290) C dX4_holdsWith_286 (by decide) ?_
      exact o_zret C hQ dX4_holdsWith_290 h hμ
def k_X4_holdsWith_225 (kL16 : Int → GM → Option (Int × GM)) (a1 : Nat) (z2 : Int) (s1 : Int) (s2 : Int) (μ : GM) : Option (Int × GM) :=
  ck (0 ≤ s1 ∧ s1 < 201) (lm (gA μ 44 s1 (s2 % 2)) fun μ1 =>
  ck (0 ≤ (μ1.2 42 4) ∧ (μ1.2 42 4) < 201) (lm (gA μ1 45 (μ1.2 42 4) (1 % 2)) fun μ2 =>
  lt (w32 (z2 + 1)) fun x3 =>
  kL16 x3 μ2))
set_option maxHeartbeats 4000000 in
set_option maxRecDepth 100000 in
theorem w_X4_holdsWith_225 {G : GX} {u : Int × GM} (C : CX G 4 cX4_holdsWith 5 RX4) (hQ : gQI G (some .boolean) u) {a1 : Nat} (ha1 : gKT[a1]? = some (0, 3, 0, [])) {kL16 : Int → GM → Option (Int × GM)} (hL16 : ∀ (z2 : Int) (hz2 : r32 z2) (μ : GM) (hμ : gRg μ), kL16 z2 μ = some u → WM G 5 μ 16 [(0, gR G 42), (1, gR G a1), (2, vI z2)] []) {z2 : Int} (hz2 : r32 z2) {s1 : Int} (hs1 : r32 s1) {s2 : Int} (hs2 : r32 s2) {μ : GM} (hμ : gRg μ) (h : k_X4_holdsWith_225 kL16 a1 z2 s1 s2 μ = some u) : WM G 5 μ 225 [(0, gR G 42), (1, gR G a1), (2, vI z2)] [vI s2, vI s1, gR G 44] := by
  unfold k_X4_holdsWith_225 at h
  refine o_zast C kt_44 rfl hs1 hs2 hμ dX4_holdsWith_225 h (fun μ1 hμ1 h => ?_)
  refine o_aload_n C 0 dX4_holdsWith_226 rfl rfl ?_
  refine o_getR (j := 8) C kt_42 rfl rfl (Nat.le_of_ble_eq_true rfl) lkf_RX4_32 dX4_holdsWith_227 ?_
  refine o_aload_n C 0 dX4_holdsWith_230 rfl rfl ?_
  refine o_getI (j := 4) C kt_42 rfl rfl (Nat.le_of_ble_eq_true rfl) lkf_RX4_19 dX4_holdsWith_231 ?_
  refine o_iconst C dX4_holdsWith_234 ?_
  refine o_zast C kt_45 rfl (hμ1.fi kt_42 rfl (by decide)) ⟨by decide, by decide⟩ hμ1 dX4_holdsWith_235 h (fun μ2 hμ2 h => ?_)
  refine o_goto (tgt := 255) C dX4_holdsWith_236 (by decide) ?_
  refine o_iinc (lv2 := fun x3 => [(2, vI x3), (0, gR G 42), (1, gR G a1)]) C 2 dX4_holdsWith_255 rfl (by decide) (fun _ => rfl) h (fun x3 hx3 h => ?_)
  refine o_goto (tgt := 16) C dX4_holdsWith_258 (by decide) ?_
  exact WM.sub [1, 2, 0] rfl (hL16 x3 hx3 μ2 hμ2 h)
def k_X4_holdsWith_173 (kL16 : Int → GM → Option (Int × GM)) (a1 : Nat) (z2 : Int) (z4 : Int) (μ : GM) : Option (Int × GM) :=
  bd (f_X4_put z4 μ) fun _x1 μ2 =>
  lt (w32 (z2 + 1)) fun x3 =>
  kL16 x3 μ2
set_option maxHeartbeats 4000000 in
set_option maxRecDepth 100000 in
theorem w_X4_holdsWith_173 {G : GX} {u : Int × GM} (C : CX G 4 cX4_holdsWith 5 RX4) (hQ : gQI G (some .boolean) u) {a1 : Nat} (ha1 : gKT[a1]? = some (0, 3, 0, [])) {kL16 : Int → GM → Option (Int × GM)} (hL16 : ∀ (z2 : Int) (hz2 : r32 z2) (μ : GM) (hμ : gRg μ), kL16 z2 μ = some u → WM G 5 μ 16 [(0, gR G 42), (1, gR G a1), (2, vI z2)] []) {z2 : Int} (hz2 : r32 z2) {z4 : Int} (hz4 : r32 z4) {μ : GM} (hμ : gRg μ) (h : k_X4_holdsWith_173 kL16 a1 z2 z4 μ = some u) : WM G 5 μ 173 [(0, gR G 42), (1, gR G a1), (2, vI z2), (4, vI z4)] [] := by
  unfold k_X4_holdsWith_173 at h
  refine o_aload_n C 0 dX4_holdsWith_173 rfl rfl ?_
  refine o_iload C 3 dX4_holdsWith_174 rfl ?_
  refine o_cVV C [vI z4] mb_X4_put (by decide) (fun _ hu => c_X4_put hz4 hμ hu) rfl (Nat.le_of_ble_eq_true rfl) h mi_X4_put me_X4_put lkm_RX4_113 kt_42 rfl rfl rfl dX4_holdsWith_176 (fun _x1 μ2 hμ2 h => ?_)
  refine o_goto (tgt := 255) C dX4_holdsWith_179 (by decide) ?_
  refine o_iinc (lv2 := fun x3 => [(2, vI x3), (0, gR G 42), (1, gR G a1), (4, vI z4)]) C 2 dX4_holdsWith_255 rfl (by decide) (fun _ => rfl) h (fun x3 hx3 h => ?_)
  refine o_goto (tgt := 16) C dX4_holdsWith_258 (by decide) ?_
  exact WM.sub [1, 2, 0] rfl (hL16 x3 hx3 μ2 hμ2 h)
def k_X4_holdsWith_154 (kL16 : Int → GM → Option (Int × GM)) (a1 : Nat) (z2 : Int) (s0 : Int) (μ : GM) : Option (Int × GM) :=
  if 0 < (μ.2 42 4) then
    lm (gF μ 42 4 (w32 ((μ.2 42 4) - 1))) fun μ1 =>
    k_X4_holdsWith_173 kL16 a1 z2 s0 μ1
  else
    k_X4_holdsWith_173 kL16 a1 z2 s0 μ
set_option maxHeartbeats 4000000 in
set_option maxRecDepth 100000 in
theorem w_X4_holdsWith_154 {G : GX} {u : Int × GM} (C : CX G 4 cX4_holdsWith 5 RX4) (hQ : gQI G (some .boolean) u) {a1 : Nat} (ha1 : gKT[a1]? = some (0, 3, 0, [])) {kL16 : Int → GM → Option (Int × GM)} (hL16 : ∀ (z2 : Int) (hz2 : r32 z2) (μ : GM) (hμ : gRg μ), kL16 z2 μ = some u → WM G 5 μ 16 [(0, gR G 42), (1, gR G a1), (2, vI z2)] []) {z2 : Int} (hz2 : r32 z2) {s0 : Int} (hs0 : r32 s0) {μ : GM} (hμ : gRg μ) (h : k_X4_holdsWith_154 kL16 a1 z2 s0 μ = some u) : WM G 5 μ 154 [(0, gR G 42), (1, gR G a1), (2, vI z2)] [vI s0] := by
  unfold k_X4_holdsWith_154 at h
  refine o_istore (lv2 := [(4, vI s0), (0, gR G 42), (1, gR G a1), (2, vI z2)]) C dX4_holdsWith_154 (by decide) rfl ?_
  refine o_aload_n C 1 dX4_holdsWith_156 rfl rfl ?_
  refine o_getI (j := 4) C kt_42 rfl rfl (Nat.le_of_ble_eq_true rfl) lkf_RX4_19 dX4_holdsWith_157 ?_
  refine o_if_le (tgt := 173) C (hμ.fi kt_42 rfl (by decide)) dX4_holdsWith_160 (by decide) h (fun _ h => ?_) (fun _ h => ?_)
  · exact WM.sub [1, 2, 3, 0] rfl (w_X4_holdsWith_173 C hQ ha1 hL16 hz2 hs0 hμ h)
  · refine o_aload_n C 1 dX4_holdsWith_163 rfl rfl ?_
    refine o_dupr C dX4_holdsWith_164 ?_
    refine o_getI (j := 4) C kt_42 rfl rfl (Nat.le_of_ble_eq_true rfl) lkf_RX4_19 dX4_holdsWith_165 ?_
    refine o_iconst C dX4_holdsWith_168 ?_
    refine o_isub C dX4_holdsWith_169 ?_
    refine o_putI (j := 4) C kt_42 rfl rfl tyX4_ok nmX4 (Nat.le_of_ble_eq_true rfl) lkf_RX4_19 rfl rfl (r32_w _) hμ dX4_holdsWith_170 h (fun μ1 hμ1 h => ?_)
    exact WM.sub [1, 2, 3, 0] rfl (w_X4_holdsWith_173 C hQ ha1 hL16 hz2 hs0 hμ1 h)
def k_X4_holdsWith_112 (kL16 : Int → GM → Option (Int × GM)) (a1 : Nat) (z2 : Int) (μ : GM) : Option (Int × GM) :=
  bd (f_X4_open μ) fun _x1 μ2 =>
  lt (w32 (z2 + 1)) fun x3 =>
  kL16 x3 μ2
set_option maxHeartbeats 4000000 in
set_option maxRecDepth 100000 in
theorem w_X4_holdsWith_112 {G : GX} {u : Int × GM} (C : CX G 4 cX4_holdsWith 5 RX4) (hQ : gQI G (some .boolean) u) {a1 : Nat} (ha1 : gKT[a1]? = some (0, 3, 0, [])) {kL16 : Int → GM → Option (Int × GM)} (hL16 : ∀ (z2 : Int) (hz2 : r32 z2) (μ : GM) (hμ : gRg μ), kL16 z2 μ = some u → WM G 5 μ 16 [(0, gR G 42), (1, gR G a1), (2, vI z2)] []) {z2 : Int} (hz2 : r32 z2) {μ : GM} (hμ : gRg μ) (h : k_X4_holdsWith_112 kL16 a1 z2 μ = some u) : WM G 5 μ 112 [(0, gR G 42), (1, gR G a1), (2, vI z2)] [] := by
  unfold k_X4_holdsWith_112 at h
  refine o_aload_n C 0 dX4_holdsWith_112 rfl rfl ?_
  refine o_cVV C [] mb_X4_open (by decide) (fun _ hu => c_X4_open hμ hu) rfl (Nat.le_of_ble_eq_true rfl) h mi_X4_open me_X4_open lkm_RX4_110 kt_42 rfl rfl rfl dX4_holdsWith_113 (fun _x1 μ2 hμ2 h => ?_)
  refine o_goto (tgt := 255) C dX4_holdsWith_116 (by decide) ?_
  refine o_iinc (lv2 := fun x3 => [(2, vI x3), (0, gR G 42), (1, gR G a1)]) C 2 dX4_holdsWith_255 rfl (by decide) (fun _ => rfl) h (fun x3 hx3 h => ?_)
  refine o_goto (tgt := 16) C dX4_holdsWith_258 (by decide) ?_
  exact WM.sub [1, 2, 0] rfl (hL16 x3 hx3 μ2 hμ2 h)
def k_X4_holdsWith_16 (a1 : Nat) : Nat → Int → GM → Option (Int × GM)
  | 0, _, _ => none
  | n + 1, z2, μ =>
    if z2 < 200 then
      if (μ.2 42 10) < (μ.2 42 2) then
        lm (gF μ 42 10 (w32 ((μ.2 42 10) + 1))) fun μ1 =>
        ck (0 ≤ (μ.2 42 10) ∧ (μ.2 42 10) < 200) (
        lt (μ1.1 43 (μ.2 42 10)) fun x2 =>
        if x2 = 33 then
          ck (0 ≤ (μ1.2 42 4) ∧ (μ1.2 42 4) < 201) (
          if (μ1.1 46 (μ1.2 42 4)) = 0 then
            ck (0 ≤ (μ1.2 42 4) ∧ (μ1.2 42 4) < 201) (lm (gA μ1 46 (μ1.2 42 4) (1 % 2)) fun μ12 =>
            lt (w32 (z2 + 1)) fun x13 =>
            k_X4_holdsWith_16 a1 n x13 μ12)
          else
            ck (0 ≤ (μ1.2 42 4) ∧ (μ1.2 42 4) < 201) (lm (gA μ1 46 (μ1.2 42 4) (0 % 2)) fun μ10 =>
            lt (w32 (z2 + 1)) fun x11 =>
            k_X4_holdsWith_16 a1 n x11 μ10))
        else
          if x2 = 40 then
            if (μ1.2 42 4) < 200 then
              lm (gF μ1 42 4 (w32 ((μ1.2 42 4) + 1))) fun μ9 =>
              k_X4_holdsWith_112 (k_X4_holdsWith_16 a1 n) a1 z2 μ9
            else
              k_X4_holdsWith_112 (k_X4_holdsWith_16 a1 n) a1 z2 μ1
          else
            if x2 = 41 then
              ck (0 ≤ (μ1.2 42 4) ∧ (μ1.2 42 4) < 201) (
              if (μ1.1 44 (μ1.2 42 4)) = 0 then
                ck (0 ≤ (μ1.2 42 4) ∧ (μ1.2 42 4) < 201) (
                if (μ1.1 45 (μ1.2 42 4)) = 0 then
                  k_X4_holdsWith_154 (k_X4_holdsWith_16 a1 n) a1 z2 0 μ1
                else
                  k_X4_holdsWith_154 (k_X4_holdsWith_16 a1 n) a1 z2 1 μ1)
              else
                k_X4_holdsWith_154 (k_X4_holdsWith_16 a1 n) a1 z2 1 μ1)
            else
              if x2 = 124 then
                ck (0 ≤ (μ1.2 42 4) ∧ (μ1.2 42 4) < 201) (
                if (μ1.1 44 (μ1.2 42 4)) = 0 then
                  ck (0 ≤ (μ1.2 42 4) ∧ (μ1.2 42 4) < 201) (
                  if (μ1.1 45 (μ1.2 42 4)) = 0 then
                    k_X4_holdsWith_225 (k_X4_holdsWith_16 a1 n) a1 z2 (μ1.2 42 4) 0 μ1
                  else
                    k_X4_holdsWith_225 (k_X4_holdsWith_16 a1 n) a1 z2 (μ1.2 42 4) 1 μ1)
                else
                  k_X4_holdsWith_225 (k_X4_holdsWith_16 a1 n) a1 z2 (μ1.2 42 4) 1 μ1)
              else
                if x2 = 38 then
                  lt (w32 (z2 + 1)) fun x3 =>
                  k_X4_holdsWith_16 a1 n x3 μ1
                else
                  bd (f_X4_ask a1 x2 μ1) fun x4 μ5 =>
                  bd (f_X4_put x4 μ5) fun _x6 μ7 =>
                  lt (w32 (z2 + 1)) fun x8 =>
                  k_X4_holdsWith_16 a1 n x8 μ7)
      else
        k_X4_holdsWith_261 a1 μ
    else
      k_X4_holdsWith_261 a1 μ
set_option maxHeartbeats 4000000 in
set_option maxRecDepth 100000 in
theorem w_X4_holdsWith_16 {G : GX} {u : Int × GM} (C : CX G 4 cX4_holdsWith 5 RX4) (hQ : gQI G (some .boolean) u) {a1 : Nat} (ha1 : gKT[a1]? = some (0, 3, 0, [])) : ∀ (n : Nat) (z2 : Int) (hz2 : r32 z2) (μ : GM) (hμ : gRg μ), k_X4_holdsWith_16 a1 n z2 μ = some u → WM G 5 μ 16 [(0, gR G 42), (1, gR G a1), (2, vI z2)] [] := by
  intro n
  induction n with
  | zero =>
    intro z2 hz2 μ hμ h
    cases h
  | succ n ih =>
    intro z2 hz2 μ hμ h
    rw [k_X4_holdsWith_16] at h
    refine o_iload_n C 2 dX4_holdsWith_16 rfl rfl ?_
    refine o_sipush (v := 200) C dX4_holdsWith_17 (by decide) ?_
    refine o_icmp_ge (tgt := 261) C hz2 ⟨by decide, by decide⟩ dX4_holdsWith_20 (by decide) h (fun _ h => ?_) (fun _ h => ?_)
    · exact WM.sub [0] rfl (w_X4_holdsWith_261 C hQ ha1 hμ h)
    · refine o_aload_n C 0 dX4_holdsWith_23 rfl rfl ?_
      refine o_getI (j := 10) C kt_42 rfl rfl (Nat.le_of_ble_eq_true rfl) lkf_RX4_38 dX4_holdsWith_24 ?_
      refine o_aload_n C 0 dX4_holdsWith_27 rfl rfl ?_
      refine o_getI (j := 2) C kt_42 rfl rfl (Nat.le_of_ble_eq_true rfl) lkf_RX4_9 dX4_holdsWith_28 ?_
      refine o_icmp_ge (tgt := 261) C (hμ.fi kt_42 rfl (by decide)) (hμ.fi kt_42 rfl (by decide)) dX4_holdsWith_31 (by decide) h (fun _ h => ?_) (fun _ h => ?_)
      · exact WM.sub [0] rfl (w_X4_holdsWith_261 C hQ ha1 hμ h)
      · refine o_aload_n C 0 dX4_holdsWith_34 rfl rfl ?_
        refine o_getR (j := 3) C kt_42 rfl rfl (Nat.le_of_ble_eq_true rfl) lkf_RX4_15 dX4_holdsWith_35 ?_
        refine o_aload_n C 0 dX4_holdsWith_38 rfl rfl ?_
        refine o_dupr C dX4_holdsWith_39 ?_
        refine o_getI (j := 10) C kt_42 rfl rfl (Nat.le_of_ble_eq_true rfl) lkf_RX4_38 dX4_holdsWith_40 ?_
        refine o_dupx1ri C dX4_holdsWith_43 ?_
        refine o_iconst C dX4_holdsWith_44 ?_
        refine o_iadd C dX4_holdsWith_45 ?_
        refine o_putI (j := 10) C kt_42 rfl rfl tyX4_ok nmX4 (Nat.le_of_ble_eq_true rfl) lkf_RX4_38 rfl rfl (r32_w _) hμ dX4_holdsWith_46 h (fun μ1 hμ1 h => ?_)
        refine o_iald C kt_43 rfl (hμ.fi kt_42 rfl (by decide)) dX4_holdsWith_49 h (fun h => ?_)
        refine o_lt h (hμ1.i kt_43 (by decide) _) (fun x2 hx2 h => ?_)
        refine o_istore_n (lv2 := [(3, vI x2), (0, gR G 42), (1, gR G a1), (2, vI z2)]) C dX4_holdsWith_50 rfl (by decide) rfl ?_
        refine o_iload_n C 0 dX4_holdsWith_51 rfl rfl ?_
        refine o_bipush (v := 33) C dX4_holdsWith_52 (by decide) ?_
        refine o_icmp_ne (tgt := 86) C hx2 ⟨by decide, by decide⟩ dX4_holdsWith_54 (by decide) h (fun _ h => ?_) (fun _ h => ?_)
        · refine o_iload_n C 0 dX4_holdsWith_86 rfl rfl ?_
          refine o_bipush (v := 40) C dX4_holdsWith_87 (by decide) ?_
          refine o_icmp_ne (tgt := 119) C hx2 ⟨by decide, by decide⟩ dX4_holdsWith_89 (by decide) h (fun _ h => ?_) (fun _ h => ?_)
          · refine o_iload_n C 0 dX4_holdsWith_119 rfl rfl ?_
            refine o_bipush (v := 41) C dX4_holdsWith_120 (by decide) ?_
            refine o_icmp_ne (tgt := 182) C hx2 ⟨by decide, by decide⟩ dX4_holdsWith_122 (by decide) h (fun _ h => ?_) (fun _ h => ?_)
            · refine o_iload_n C 0 dX4_holdsWith_182 rfl rfl ?_
              refine o_bipush (v := 124) C dX4_holdsWith_183 (by decide) ?_
              refine o_icmp_ne (tgt := 239) C hx2 ⟨by decide, by decide⟩ dX4_holdsWith_185 (by decide) h (fun _ h => ?_) (fun _ h => ?_)
              · refine o_iload_n C 0 dX4_holdsWith_239 rfl rfl ?_
                refine o_bipush (v := 38) C dX4_holdsWith_240 (by decide) ?_
                refine o_icmp_eq (tgt := 255) C hx2 ⟨by decide, by decide⟩ dX4_holdsWith_242 (by decide) h (fun _ h => ?_) (fun _ h => ?_)
                · refine o_iinc (lv2 := fun x3 => [(2, vI x3), (3, vI x2), (0, gR G 42), (1, gR G a1)]) C 3 dX4_holdsWith_255 rfl (by decide) (fun _ => rfl) h (fun x3 hx3 h => ?_)
                  refine o_goto (tgt := 16) C dX4_holdsWith_258 (by decide) ?_
                  exact WM.sub [2, 3, 0] rfl (ih x3 hx3 μ1 hμ1 h)
                · refine o_aload_n C 1 dX4_holdsWith_245 rfl rfl ?_
                  refine o_aload_n C 1 dX4_holdsWith_246 rfl rfl ?_
                  refine o_iload_n C 0 dX4_holdsWith_247 rfl rfl ?_
                  refine o_aload_n C 2 dX4_holdsWith_248 rfl rfl ?_
                  refine o_cVI C [vI x2, gR G a1] mb_X4_ask (by decide) (fun _ hu => c_X4_ask ha1 hx2 hμ1 hu) rfl (Nat.le_of_ble_eq_true rfl) h mi_X4_ask me_X4_ask lkm_RX4_117 kt_42 rfl rfl rfl dX4_holdsWith_249 (fun x4 μ5 hx4 hμ5 h => ?_)
                  refine o_cVV C [vI x4] mb_X4_put (by decide) (fun _ hu => c_X4_put hx4 hμ5 hu) rfl (Nat.le_of_ble_eq_true rfl) h mi_X4_put me_X4_put lkm_RX4_113 kt_42 rfl rfl rfl dX4_holdsWith_252 (fun _x6 μ7 hμ7 h => ?_)
                  refine o_iinc (lv2 := fun x8 => [(2, vI x8), (3, vI x2), (0, gR G 42), (1, gR G a1)]) C 3 dX4_holdsWith_255 rfl (by decide) (fun _ => rfl) h (fun x8 hx8 h => ?_)
                  refine o_goto (tgt := 16) C dX4_holdsWith_258 (by decide) ?_
                  exact WM.sub [2, 3, 0] rfl (ih x8 hx8 μ7 hμ7 h)
              · refine o_aload_n C 1 dX4_holdsWith_188 rfl rfl ?_
                refine o_getR (j := 7) C kt_42 rfl rfl (Nat.le_of_ble_eq_true rfl) lkf_RX4_28 dX4_holdsWith_189 ?_
                refine o_aload_n C 1 dX4_holdsWith_192 rfl rfl ?_
                refine o_getI (j := 4) C kt_42 rfl rfl (Nat.le_of_ble_eq_true rfl) lkf_RX4_19 dX4_holdsWith_193 ?_
                refine o_aload_n C 1 dX4_holdsWith_196 rfl rfl ?_
                refine o_getR (j := 7) C kt_42 rfl rfl (Nat.le_of_ble_eq_true rfl) lkf_RX4_28 dX4_holdsWith_197 ?_
                refine o_aload_n C 1 dX4_holdsWith_200 rfl rfl ?_
                refine o_getI (j := 4) C kt_42 rfl rfl (Nat.le_of_ble_eq_true rfl) lkf_RX4_19 dX4_holdsWith_201 ?_
                refine o_zald C kt_44 rfl (hμ1.fi kt_42 rfl (by decide)) dX4_holdsWith_204 h (fun h => ?_)
                refine o_if_ne (tgt := 220) C (hμ1.i kt_44 (by decide) _) dX4_holdsWith_205 (by decide) h (fun _ h => ?_) (fun _ h => ?_)
                · refine o_iconst C dX4_holdsWith_220 ?_
                  refine o_goto (tgt := 225) C dX4_holdsWith_221 (by decide) ?_
                  exact WM.sub [1, 2, 3] rfl (w_X4_holdsWith_225 C hQ ha1 ih hz2 (hμ1.fi kt_42 rfl (by decide)) ⟨by decide, by decide⟩ hμ1 h)
                · refine o_aload_n C 1 dX4_holdsWith_208 rfl rfl ?_
                  refine o_getR (j := 8) C kt_42 rfl rfl (Nat.le_of_ble_eq_true rfl) lkf_RX4_32 dX4_holdsWith_209 ?_
                  refine o_aload_n C 1 dX4_holdsWith_212 rfl rfl ?_
                  refine o_getI (j := 4) C kt_42 rfl rfl (Nat.le_of_ble_eq_true rfl) lkf_RX4_19 dX4_holdsWith_213 ?_
                  refine o_zald C kt_45 rfl (hμ1.fi kt_42 rfl (by decide)) dX4_holdsWith_216 h (fun h => ?_)
                  refine o_if_eq (tgt := 224) C (hμ1.i kt_45 (by decide) _) dX4_holdsWith_217 (by decide) h (fun _ h => ?_) (fun _ h => ?_)
                  · refine o_iconst C dX4_holdsWith_224 ?_
                    exact WM.sub [1, 2, 3] rfl (w_X4_holdsWith_225 C hQ ha1 ih hz2 (hμ1.fi kt_42 rfl (by decide)) ⟨by decide, by decide⟩ hμ1 h)
                  · refine o_iconst C dX4_holdsWith_220 ?_
                    refine o_goto (tgt := 225) C dX4_holdsWith_221 (by decide) ?_
                    exact WM.sub [1, 2, 3] rfl (w_X4_holdsWith_225 C hQ ha1 ih hz2 (hμ1.fi kt_42 rfl (by decide)) ⟨by decide, by decide⟩ hμ1 h)
            · refine o_aload_n C 1 dX4_holdsWith_125 rfl rfl ?_
              refine o_getR (j := 7) C kt_42 rfl rfl (Nat.le_of_ble_eq_true rfl) lkf_RX4_28 dX4_holdsWith_126 ?_
              refine o_aload_n C 1 dX4_holdsWith_129 rfl rfl ?_
              refine o_getI (j := 4) C kt_42 rfl rfl (Nat.le_of_ble_eq_true rfl) lkf_RX4_19 dX4_holdsWith_130 ?_
              refine o_zald C kt_44 rfl (hμ1.fi kt_42 rfl (by decide)) dX4_holdsWith_133 h (fun h => ?_)
              refine o_if_ne (tgt := 149) C (hμ1.i kt_44 (by decide) _) dX4_holdsWith_134 (by decide) h (fun _ h => ?_) (fun _ h => ?_)
              · refine o_iconst C dX4_holdsWith_149 ?_
                refine o_goto (tgt := 154) C dX4_holdsWith_150 (by decide) ?_
                exact WM.sub [1, 2, 3] rfl (w_X4_holdsWith_154 C hQ ha1 ih hz2 ⟨by decide, by decide⟩ hμ1 h)
              · refine o_aload_n C 1 dX4_holdsWith_137 rfl rfl ?_
                refine o_getR (j := 8) C kt_42 rfl rfl (Nat.le_of_ble_eq_true rfl) lkf_RX4_32 dX4_holdsWith_138 ?_
                refine o_aload_n C 1 dX4_holdsWith_141 rfl rfl ?_
                refine o_getI (j := 4) C kt_42 rfl rfl (Nat.le_of_ble_eq_true rfl) lkf_RX4_19 dX4_holdsWith_142 ?_
                refine o_zald C kt_45 rfl (hμ1.fi kt_42 rfl (by decide)) dX4_holdsWith_145 h (fun h => ?_)
                refine o_if_eq (tgt := 153) C (hμ1.i kt_45 (by decide) _) dX4_holdsWith_146 (by decide) h (fun _ h => ?_) (fun _ h => ?_)
                · refine o_iconst C dX4_holdsWith_153 ?_
                  exact WM.sub [1, 2, 3] rfl (w_X4_holdsWith_154 C hQ ha1 ih hz2 ⟨by decide, by decide⟩ hμ1 h)
                · refine o_iconst C dX4_holdsWith_149 ?_
                  refine o_goto (tgt := 154) C dX4_holdsWith_150 (by decide) ?_
                  exact WM.sub [1, 2, 3] rfl (w_X4_holdsWith_154 C hQ ha1 ih hz2 ⟨by decide, by decide⟩ hμ1 h)
          · refine o_aload_n C 1 dX4_holdsWith_92 rfl rfl ?_
            refine o_getI (j := 4) C kt_42 rfl rfl (Nat.le_of_ble_eq_true rfl) lkf_RX4_19 dX4_holdsWith_93 ?_
            refine o_sipush (v := 200) C dX4_holdsWith_96 (by decide) ?_
            refine o_icmp_ge (tgt := 112) C (hμ1.fi kt_42 rfl (by decide)) ⟨by decide, by decide⟩ dX4_holdsWith_99 (by decide) h (fun _ h => ?_) (fun _ h => ?_)
            · exact WM.sub [1, 2, 3] rfl (w_X4_holdsWith_112 C hQ ha1 ih hz2 hμ1 h)
            · refine o_aload_n C 1 dX4_holdsWith_102 rfl rfl ?_
              refine o_dupr C dX4_holdsWith_103 ?_
              refine o_getI (j := 4) C kt_42 rfl rfl (Nat.le_of_ble_eq_true rfl) lkf_RX4_19 dX4_holdsWith_104 ?_
              refine o_iconst C dX4_holdsWith_107 ?_
              refine o_iadd C dX4_holdsWith_108 ?_
              refine o_putI (j := 4) C kt_42 rfl rfl tyX4_ok nmX4 (Nat.le_of_ble_eq_true rfl) lkf_RX4_19 rfl rfl (r32_w _) hμ1 dX4_holdsWith_109 h (fun μ9 hμ9 h => ?_)
              exact WM.sub [1, 2, 3] rfl (w_X4_holdsWith_112 C hQ ha1 ih hz2 hμ9 h)
        · refine o_aload_n C 1 dX4_holdsWith_57 rfl rfl ?_
          refine o_getR (j := 9) C kt_42 rfl rfl (Nat.le_of_ble_eq_true rfl) lkf_RX4_35 dX4_holdsWith_58 ?_
          refine o_aload_n C 1 dX4_holdsWith_61 rfl rfl ?_
          refine o_getI (j := 4) C kt_42 rfl rfl (Nat.le_of_ble_eq_true rfl) lkf_RX4_19 dX4_holdsWith_62 ?_
          refine o_aload_n C 1 dX4_holdsWith_65 rfl rfl ?_
          refine o_getR (j := 9) C kt_42 rfl rfl (Nat.le_of_ble_eq_true rfl) lkf_RX4_35 dX4_holdsWith_66 ?_
          refine o_aload_n C 1 dX4_holdsWith_69 rfl rfl ?_
          refine o_getI (j := 4) C kt_42 rfl rfl (Nat.le_of_ble_eq_true rfl) lkf_RX4_19 dX4_holdsWith_70 ?_
          refine o_zald C kt_46 rfl (hμ1.fi kt_42 rfl (by decide)) dX4_holdsWith_73 h (fun h => ?_)
          refine o_if_ne (tgt := 81) C (hμ1.i kt_46 (by decide) _) dX4_holdsWith_74 (by decide) h (fun _ h => ?_) (fun _ h => ?_)
          · refine o_iconst C dX4_holdsWith_81 ?_
            refine o_zast C kt_46 rfl (hμ1.fi kt_42 rfl (by decide)) ⟨by decide, by decide⟩ hμ1 dX4_holdsWith_82 h (fun μ10 hμ10 h => ?_)
            refine o_goto (tgt := 255) C dX4_holdsWith_83 (by decide) ?_
            refine o_iinc (lv2 := fun x11 => [(2, vI x11), (3, vI x2), (0, gR G 42), (1, gR G a1)]) C 3 dX4_holdsWith_255 rfl (by decide) (fun _ => rfl) h (fun x11 hx11 h => ?_)
            refine o_goto (tgt := 16) C dX4_holdsWith_258 (by decide) ?_
            exact WM.sub [2, 3, 0] rfl (ih x11 hx11 μ10 hμ10 h)
          · refine o_iconst C dX4_holdsWith_77 ?_
            refine o_goto (tgt := 82) C dX4_holdsWith_78 (by decide) ?_
            refine o_zast C kt_46 rfl (hμ1.fi kt_42 rfl (by decide)) ⟨by decide, by decide⟩ hμ1 dX4_holdsWith_82 h (fun μ12 hμ12 h => ?_)
            refine o_goto (tgt := 255) C dX4_holdsWith_83 (by decide) ?_
            refine o_iinc (lv2 := fun x13 => [(2, vI x13), (3, vI x2), (0, gR G 42), (1, gR G a1)]) C 3 dX4_holdsWith_255 rfl (by decide) (fun _ => rfl) h (fun x13 hx13 h => ?_)
            refine o_goto (tgt := 16) C dX4_holdsWith_258 (by decide) ?_
            exact WM.sub [2, 3, 0] rfl (ih x13 hx13 μ12 hμ12 h)
def f_X4_holdsWith (a1 : Nat) (μ : GM) : Option (Int × GM) :=
  lm (gF μ 42 4 0) fun μ1 =>
  bd (f_X4_open μ1) fun _x2 μ3 =>
  lm (gF μ3 42 10 0) fun μ4 =>
  k_X4_holdsWith_16 a1 FU 0 μ4
set_option maxHeartbeats 4000000 in
set_option maxRecDepth 100000 in
theorem w_X4_holdsWith_0 {G : GX} {u : Int × GM} (C : CX G 4 cX4_holdsWith 5 RX4) (hQ : gQI G (some .boolean) u) {a1 : Nat} (ha1 : gKT[a1]? = some (0, 3, 0, [])) {μ : GM} (hμ : gRg μ) (h : f_X4_holdsWith a1 μ = some u) : WM G 5 μ 0 [(0, gR G 42), (1, gR G a1)] [] := by
  unfold f_X4_holdsWith at h
  refine o_aload_n C 0 dX4_holdsWith_0 rfl rfl ?_
  refine o_iconst C dX4_holdsWith_1 ?_
  refine o_putI (j := 4) C kt_42 rfl rfl tyX4_ok nmX4 (Nat.le_of_ble_eq_true rfl) lkf_RX4_19 rfl rfl ⟨by decide, by decide⟩ hμ dX4_holdsWith_2 h (fun μ1 hμ1 h => ?_)
  refine o_aload_n C 0 dX4_holdsWith_5 rfl rfl ?_
  refine o_cVV C [] mb_X4_open (by decide) (fun _ hu => c_X4_open hμ1 hu) rfl (Nat.le_of_ble_eq_true rfl) h mi_X4_open me_X4_open lkm_RX4_110 kt_42 rfl rfl rfl dX4_holdsWith_6 (fun _x2 μ3 hμ3 h => ?_)
  refine o_aload_n C 0 dX4_holdsWith_9 rfl rfl ?_
  refine o_iconst C dX4_holdsWith_10 ?_
  refine o_putI (j := 10) C kt_42 rfl rfl tyX4_ok nmX4 (Nat.le_of_ble_eq_true rfl) lkf_RX4_38 rfl rfl ⟨by decide, by decide⟩ hμ3 dX4_holdsWith_11 h (fun μ4 hμ4 h => ?_)
  refine o_iconst C dX4_holdsWith_14 ?_
  refine o_istore_n (lv2 := [(2, vI 0), (0, gR G 42), (1, gR G a1)]) C dX4_holdsWith_15 rfl (by decide) rfl ?_
  exact WM.sub [1, 2, 0] rfl (w_X4_holdsWith_16 C hQ ha1 FU 0 ⟨by decide, by decide⟩ μ4 hμ4 h)
theorem c_X4_holdsWith {a1 : Nat} (ha1 : gKT[a1]? = some (0, 3, 0, [])) {μ : GM} (hμ : gRg μ) {u : Int × GM} (h : f_X4_holdsWith a1 μ = some u) : MtI 4 yX4_holdsWith cX4_holdsWith 5 (some .boolean) (fun ad => [.ref (ad 42), .ref (ad a1)]) μ u := MtI.of pf_X4_holdsWith (fun _ => Nat.le_of_ble_eq_true rfl) (fun G C hQ => w_X4_holdsWith_0 C hQ ha1 hμ h)
def k_X5_setLevels_15 : Nat → Int → Int → GM → Option (Int × GM)
  | 0, _, _, _ => none
  | n + 1, z2, z3, μ =>
    if z3 < 0 then
      some (0, μ)
    else
      ck (5 ≠ 0) (
      ck (0 ≤ z3 ∧ z3 < 3) (lm (gA μ 50 z3 (Int.tmod z2 5)) fun μ1 =>
      ck (5 ≠ 0) (
      lt (w32 (Int.tdiv z2 5)) fun x2 =>
      ck (0 ≤ z3 ∧ z3 < 3) (
      bd (f_X9_rateAt z3 (μ1.1 50 z3) μ1) fun x3 μ4 =>
      ck (0 ≤ z3 ∧ z3 < 3) (lm (gA μ4 51 z3 x3) fun μ5 =>
      lt (w32 (z3 + (-1))) fun x6 =>
      k_X5_setLevels_15 n x2 x6 μ5)))))
set_option maxHeartbeats 4000000 in
set_option maxRecDepth 100000 in
theorem w_X5_setLevels_15 {G : GX} {u : Int × GM} (C : CX G 1 cX5_setLevels 4 RX5) (hQ : gQV G none u) : ∀ (n : Nat) (z2 : Int) (hz2 : r32 z2) (z3 : Int) (hz3 : r32 z3) (μ : GM) (hμ : gRg μ), k_X5_setLevels_15 n z2 z3 μ = some u → WM G 4 μ 15 [(0, gR G 47), (2, vI z2), (3, vI z3)] [] := by
  intro n
  induction n with
  | zero =>
    intro z2 hz2 z3 hz3 μ hμ h
    cases h
  | succ n ih =>
    intro z2 hz2 z3 hz3 μ hμ h
    rw [k_X5_setLevels_15] at h
    refine o_iload_n C 2 dX5_setLevels_15 rfl rfl ?_
    refine o_if_lt (tgt := 61) C hz3 dX5_setLevels_16 (by decide) h (fun _ h => ?_) (fun _ h => ?_)
    · exact o_vret C hQ dX5_setLevels_61 h hμ
    · refine o_aload_n C 0 dX5_setLevels_19 rfl rfl ?_
      refine o_getR (j := 5) C kt_47 rfl rfl (Nat.le_of_ble_eq_true rfl) lkf_RX5_18 dX5_setLevels_20 ?_
      refine o_iload_n C 2 dX5_setLevels_23 rfl rfl ?_
      refine o_iload_n C 1 dX5_setLevels_24 rfl rfl ?_
      refine o_iconst C dX5_setLevels_25 ?_
      refine o_irem C hz2 ⟨by decide, by decide⟩ dX5_setLevels_26 h (fun h => ?_)
      refine o_iast C kt_50 rfl hz3 (r32_rem _ hz2) hμ dX5_setLevels_27 h (fun μ1 hμ1 h => ?_)
      refine o_iload_n C 1 dX5_setLevels_28 rfl rfl ?_
      refine o_iconst C dX5_setLevels_29 ?_
      refine o_idiv C hz2 ⟨by decide, by decide⟩ dX5_setLevels_30 h (fun h => ?_)
      refine o_lt h (r32_w _) (fun x2 hx2 h => ?_)
      refine o_istore_n (lv2 := [(2, vI x2), (0, gR G 47), (3, vI z3)]) C dX5_setLevels_31 rfl (by decide) rfl ?_
      refine o_aload_n C 1 dX5_setLevels_32 rfl rfl ?_
      refine o_getR (j := 6) C kt_47 rfl rfl (Nat.le_of_ble_eq_true rfl) lkf_RX5_21 dX5_setLevels_33 ?_
      refine o_iload_n C 2 dX5_setLevels_36 rfl rfl ?_
      refine o_aload_n C 1 dX5_setLevels_37 rfl rfl ?_
      refine o_getR (j := 0) C kt_47 rfl rfl (Nat.le_of_ble_eq_true rfl) lkf_RX5_27 dX5_setLevels_38 ?_
      refine o_getR (j := 7) C kt_1 rfl rfl (Nat.le_of_ble_eq_true rfl) lkf_RX5_52 dX5_setLevels_41 ?_
      refine o_iload_n C 2 dX5_setLevels_44 rfl rfl ?_
      refine o_aload_n C 1 dX5_setLevels_45 rfl rfl ?_
      refine o_getR (j := 5) C kt_47 rfl rfl (Nat.le_of_ble_eq_true rfl) lkf_RX5_18 dX5_setLevels_46 ?_
      refine o_iload_n C 2 dX5_setLevels_49 rfl rfl ?_
      refine o_iald C kt_50 rfl hz3 dX5_setLevels_50 h (fun h => ?_)
      refine o_cVI C [vI z3, vI (μ1.1 50 z3)] mb_X9_rateAt (by decide) (fun _ hu => c_X9_rateAt hz3 (hμ1.i kt_50 (by decide) _) hμ1 hu) rfl (Nat.le_of_ble_eq_true rfl) h mi_X9_rateAt me_X9_rateAt lkm_RX5_85 kt_18 rfl rfl rfl dX5_setLevels_51 (fun x3 μ4 hx3 hμ4 h => ?_)
      refine o_iast C kt_51 rfl hz3 hx3 hμ4 dX5_setLevels_54 h (fun μ5 hμ5 h => ?_)
      refine o_iinc (lv2 := fun x6 => [(3, vI x6), (2, vI x2), (0, gR G 47)]) C 2 dX5_setLevels_55 rfl (by decide) (fun _ => rfl) h (fun x6 hx6 h => ?_)
      refine o_goto (tgt := 15) C dX5_setLevels_58 (by decide) ?_
      exact WM.sub [2, 1, 0] rfl (ih x2 hx2 x6 hx6 μ5 hμ5 h)
def f_X5_setLevels (z1 : Int) (μ : GM) : Option (Int × GM) :=
  lt (w32 ((μ.2 18 0) - 1)) fun x1 =>
  k_X5_setLevels_15 FU z1 x1 μ
set_option maxHeartbeats 4000000 in
set_option maxRecDepth 100000 in
theorem w_X5_setLevels_0 {G : GX} {u : Int × GM} (C : CX G 1 cX5_setLevels 4 RX5) (hQ : gQV G none u) {z1 : Int} (hz1 : r32 z1) {μ : GM} (hμ : gRg μ) (h : f_X5_setLevels z1 μ = some u) : WM G 4 μ 0 [(0, gR G 47), (1, vI z1)] [] := by
  unfold f_X5_setLevels at h
  refine o_iload_n C 1 dX5_setLevels_0 rfl rfl ?_
  refine o_istore_n (lv2 := [(2, vI z1), (0, gR G 47), (1, vI z1)]) C dX5_setLevels_1 rfl (by decide) rfl ?_
  refine o_aload_n C 1 dX5_setLevels_2 rfl rfl ?_
  refine o_getR (j := 0) C kt_47 rfl rfl (Nat.le_of_ble_eq_true rfl) lkf_RX5_27 dX5_setLevels_3 ?_
  refine o_getR (j := 7) C kt_1 rfl rfl (Nat.le_of_ble_eq_true rfl) lkf_RX5_52 dX5_setLevels_6 ?_
  refine o_getI (j := 0) C kt_18 rfl rfl (Nat.le_of_ble_eq_true rfl) lkf_RX5_58 dX5_setLevels_9 ?_
  refine o_iconst C dX5_setLevels_12 ?_
  refine o_isub C dX5_setLevels_13 ?_
  refine o_lt h (r32_w _) (fun x1 hx1 h => ?_)
  refine o_istore_n (lv2 := [(3, vI x1), (2, vI z1), (0, gR G 47), (1, vI z1)]) C dX5_setLevels_14 rfl (by decide) rfl ?_
  exact WM.sub [2, 1, 0] rfl (w_X5_setLevels_15 C hQ FU z1 hz1 x1 hx1 μ hμ h)
theorem c_X5_setLevels {z1 : Int} (hz1 : r32 z1) {μ : GM} (hμ : gRg μ) {u : Int × GM} (h : f_X5_setLevels z1 μ = some u) : MtV 1 yX5_setLevels cX5_setLevels 4 none (fun ad => [.ref (ad 47), vI z1]) μ u := MtV.of pf_X5_setLevels (fun _ => Nat.le_of_ble_eq_true rfl) (fun G C hQ => w_X5_setLevels_0 C hQ hz1 hμ h)
def k_X5_gainOf_4 : Nat → Int → Int → GM → Option (Int × GM)
  | 0, _, _, _ => none
  | n + 1, z1, z2, μ =>
    if z2 < (μ.2 18 0) then
      ck (0 ≤ z2 ∧ z2 < 3) (
      ck (0 ≤ z2 ∧ z2 < 3) (
      lt (w32 (z1 + (w32 ((μ.1 51 z2) * (μ.1 21 z2))))) fun x1 =>
      lt (w32 (z2 + 1)) fun x2 =>
      k_X5_gainOf_4 n x1 x2 μ))
    else
      some (z1, μ)
set_option maxHeartbeats 4000000 in
set_option maxRecDepth 100000 in
theorem w_X5_gainOf_4 {G : GX} {u : Int × GM} (C : CX G 0 cX5_gainOf 3 RX5) (hQ : gQI G (some .int) u) : ∀ (n : Nat) (z1 : Int) (hz1 : r32 z1) (z2 : Int) (hz2 : r32 z2) (μ : GM) (hμ : gRg μ), k_X5_gainOf_4 n z1 z2 μ = some u → WM G 3 μ 4 [(0, gR G 47), (1, vI z1), (2, vI z2)] [] := by
  intro n
  induction n with
  | zero =>
    intro z1 hz1 z2 hz2 μ hμ h
    cases h
  | succ n ih =>
    intro z1 hz1 z2 hz2 μ hμ h
    rw [k_X5_gainOf_4] at h
    refine o_iload_n C 2 dX5_gainOf_4 rfl rfl ?_
    refine o_aload_n C 0 dX5_gainOf_5 rfl rfl ?_
    refine o_getR (j := 0) C kt_47 rfl rfl (Nat.le_of_ble_eq_true rfl) lkf_RX5_27 dX5_gainOf_6 ?_
    refine o_getR (j := 7) C kt_1 rfl rfl (Nat.le_of_ble_eq_true rfl) lkf_RX5_52 dX5_gainOf_9 ?_
    refine o_getI (j := 0) C kt_18 rfl rfl (Nat.le_of_ble_eq_true rfl) lkf_RX5_58 dX5_gainOf_12 ?_
    refine o_icmp_ge (tgt := 46) C hz2 (hμ.fi kt_18 rfl (by decide)) dX5_gainOf_15 (by decide) h (fun _ h => ?_) (fun _ h => ?_)
    · refine o_iload_n C 1 dX5_gainOf_46 rfl rfl ?_
      exact o_iret C hQ dX5_gainOf_47 h hz1 hμ
    · refine o_iload_n C 1 dX5_gainOf_18 rfl rfl ?_
      refine o_aload_n C 0 dX5_gainOf_19 rfl rfl ?_
      refine o_getR (j := 6) C kt_47 rfl rfl (Nat.le_of_ble_eq_true rfl) lkf_RX5_21 dX5_gainOf_20 ?_
      refine o_iload_n C 2 dX5_gainOf_23 rfl rfl ?_
      refine o_iald C kt_51 rfl hz2 dX5_gainOf_24 h (fun h => ?_)
      refine o_aload_n C 0 dX5_gainOf_25 rfl rfl ?_
      refine o_getR (j := 0) C kt_47 rfl rfl (Nat.le_of_ble_eq_true rfl) lkf_RX5_27 dX5_gainOf_26 ?_
      refine o_getR (j := 7) C kt_1 rfl rfl (Nat.le_of_ble_eq_true rfl) lkf_RX5_52 dX5_gainOf_29 ?_
      refine o_getR (j := 3) C kt_18 rfl rfl (Nat.le_of_ble_eq_true rfl) lkf_RX5_89 dX5_gainOf_32 ?_
      refine o_iload_n C 2 dX5_gainOf_35 rfl rfl ?_
      refine o_iald C kt_21 rfl hz2 dX5_gainOf_36 h (fun h => ?_)
      refine o_imul C dX5_gainOf_37 ?_
      refine o_iadd C dX5_gainOf_38 ?_
      refine o_lt h (r32_w _) (fun x1 hx1 h => ?_)
      refine o_istore_n (lv2 := [(1, vI x1), (0, gR G 47), (2, vI z2)]) C dX5_gainOf_39 rfl (by decide) rfl ?_
      refine o_iinc (lv2 := fun x2 => [(2, vI x2), (1, vI x1), (0, gR G 47)]) C 2 dX5_gainOf_40 rfl (by decide) (fun _ => rfl) h (fun x2 hx2 h => ?_)
      refine o_goto (tgt := 4) C dX5_gainOf_43 (by decide) ?_
      exact WM.sub [2, 1, 0] rfl (ih x1 hx1 x2 hx2 μ hμ h)
def f_X5_gainOf (μ : GM) : Option (Int × GM) :=
  k_X5_gainOf_4 FU 0 0 μ
set_option maxHeartbeats 4000000 in
set_option maxRecDepth 100000 in
theorem w_X5_gainOf_0 {G : GX} {u : Int × GM} (C : CX G 0 cX5_gainOf 3 RX5) (hQ : gQI G (some .int) u) {μ : GM} (hμ : gRg μ) (h : f_X5_gainOf μ = some u) : WM G 3 μ 0 [(0, gR G 47)] [] := by
  unfold f_X5_gainOf at h
  refine o_iconst C dX5_gainOf_0 ?_
  refine o_istore_n (lv2 := [(1, vI 0), (0, gR G 47)]) C dX5_gainOf_1 rfl (by decide) rfl ?_
  refine o_iconst C dX5_gainOf_2 ?_
  refine o_istore_n (lv2 := [(2, vI 0), (1, vI 0), (0, gR G 47)]) C dX5_gainOf_3 rfl (by decide) rfl ?_
  exact WM.sub [2, 1, 0] rfl (w_X5_gainOf_4 C hQ FU 0 ⟨by decide, by decide⟩ 0 ⟨by decide, by decide⟩ μ hμ h)
theorem c_X5_gainOf {μ : GM} (hμ : gRg μ) {u : Int × GM} (h : f_X5_gainOf μ = some u) : MtI 0 yX5_gainOf cX5_gainOf 3 (some .int) (fun ad => [.ref (ad 47)]) μ u := MtI.of pf_X5_gainOf (fun _ => Nat.le_of_ble_eq_true rfl) (fun G C hQ => w_X5_gainOf_0 C hQ hμ h)
def k_X5_sumOfRates_4 : Nat → Int → Int → GM → Option (Int × GM)
  | 0, _, _, _ => none
  | n + 1, z1, z2, μ =>
    if z2 < (μ.2 18 0) then
      ck (0 ≤ z2 ∧ z2 < 3) (
      lt (w32 (z1 + (μ.1 51 z2))) fun x1 =>
      lt (w32 (z2 + 1)) fun x2 =>
      k_X5_sumOfRates_4 n x1 x2 μ)
    else
      some (z1, μ)
set_option maxHeartbeats 4000000 in
set_option maxRecDepth 100000 in
theorem w_X5_sumOfRates_4 {G : GX} {u : Int × GM} (C : CX G 0 cX5_sumOfRates 3 RX5) (hQ : gQI G (some .int) u) : ∀ (n : Nat) (z1 : Int) (hz1 : r32 z1) (z2 : Int) (hz2 : r32 z2) (μ : GM) (hμ : gRg μ), k_X5_sumOfRates_4 n z1 z2 μ = some u → WM G 3 μ 4 [(0, gR G 47), (1, vI z1), (2, vI z2)] [] := by
  intro n
  induction n with
  | zero =>
    intro z1 hz1 z2 hz2 μ hμ h
    cases h
  | succ n ih =>
    intro z1 hz1 z2 hz2 μ hμ h
    rw [k_X5_sumOfRates_4] at h
    refine o_iload_n C 2 dX5_sumOfRates_4 rfl rfl ?_
    refine o_aload_n C 0 dX5_sumOfRates_5 rfl rfl ?_
    refine o_getR (j := 0) C kt_47 rfl rfl (Nat.le_of_ble_eq_true rfl) lkf_RX5_27 dX5_sumOfRates_6 ?_
    refine o_getR (j := 7) C kt_1 rfl rfl (Nat.le_of_ble_eq_true rfl) lkf_RX5_52 dX5_sumOfRates_9 ?_
    refine o_getI (j := 0) C kt_18 rfl rfl (Nat.le_of_ble_eq_true rfl) lkf_RX5_58 dX5_sumOfRates_12 ?_
    refine o_icmp_ge (tgt := 33) C hz2 (hμ.fi kt_18 rfl (by decide)) dX5_sumOfRates_15 (by decide) h (fun _ h => ?_) (fun _ h => ?_)
    · refine o_iload_n C 1 dX5_sumOfRates_33 rfl rfl ?_
      exact o_iret C hQ dX5_sumOfRates_34 h hz1 hμ
    · refine o_iload_n C 1 dX5_sumOfRates_18 rfl rfl ?_
      refine o_aload_n C 0 dX5_sumOfRates_19 rfl rfl ?_
      refine o_getR (j := 6) C kt_47 rfl rfl (Nat.le_of_ble_eq_true rfl) lkf_RX5_21 dX5_sumOfRates_20 ?_
      refine o_iload_n C 2 dX5_sumOfRates_23 rfl rfl ?_
      refine o_iald C kt_51 rfl hz2 dX5_sumOfRates_24 h (fun h => ?_)
      refine o_iadd C dX5_sumOfRates_25 ?_
      refine o_lt h (r32_w _) (fun x1 hx1 h => ?_)
      refine o_istore_n (lv2 := [(1, vI x1), (0, gR G 47), (2, vI z2)]) C dX5_sumOfRates_26 rfl (by decide) rfl ?_
      refine o_iinc (lv2 := fun x2 => [(2, vI x2), (1, vI x1), (0, gR G 47)]) C 2 dX5_sumOfRates_27 rfl (by decide) (fun _ => rfl) h (fun x2 hx2 h => ?_)
      refine o_goto (tgt := 4) C dX5_sumOfRates_30 (by decide) ?_
      exact WM.sub [2, 1, 0] rfl (ih x1 hx1 x2 hx2 μ hμ h)
def f_X5_sumOfRates (μ : GM) : Option (Int × GM) :=
  k_X5_sumOfRates_4 FU 0 0 μ
set_option maxHeartbeats 4000000 in
set_option maxRecDepth 100000 in
theorem w_X5_sumOfRates_0 {G : GX} {u : Int × GM} (C : CX G 0 cX5_sumOfRates 3 RX5) (hQ : gQI G (some .int) u) {μ : GM} (hμ : gRg μ) (h : f_X5_sumOfRates μ = some u) : WM G 3 μ 0 [(0, gR G 47)] [] := by
  unfold f_X5_sumOfRates at h
  refine o_iconst C dX5_sumOfRates_0 ?_
  refine o_istore_n (lv2 := [(1, vI 0), (0, gR G 47)]) C dX5_sumOfRates_1 rfl (by decide) rfl ?_
  refine o_iconst C dX5_sumOfRates_2 ?_
  refine o_istore_n (lv2 := [(2, vI 0), (1, vI 0), (0, gR G 47)]) C dX5_sumOfRates_3 rfl (by decide) rfl ?_
  exact WM.sub [2, 1, 0] rfl (w_X5_sumOfRates_4 C hQ FU 0 ⟨by decide, by decide⟩ 0 ⟨by decide, by decide⟩ μ hμ h)
theorem c_X5_sumOfRates {μ : GM} (hμ : gRg μ) {u : Int × GM} (h : f_X5_sumOfRates μ = some u) : MtI 0 yX5_sumOfRates cX5_sumOfRates 3 (some .int) (fun ad => [.ref (ad 47)]) μ u := MtI.of pf_X5_sumOfRates (fun _ => Nat.le_of_ble_eq_true rfl) (fun G C hQ => w_X5_sumOfRates_0 C hQ hμ h)
def k_X5_mayBe_18 : Nat → Int → Int → GM → Option (Int × GM)
  | 0, _, _, _ => none
  | n + 1, z1, z2, μ =>
    if z2 < (μ.2 1 0) then
      bd (f_X6_isDry 94 z2 μ) fun x3 μ4 =>
      if x3 = 0 then
        ck (0 ≤ z2 ∧ z2 < 6) (
        if (μ4.1 48 z2) = (-10000009) then
          lt (w32 (z2 + 1)) fun x5 =>
          k_X5_mayBe_18 n z1 x5 μ4
        else
          bd (f_X6_headMilli 94 z2 μ4) fun x6 μ7 =>
          ck (0 ≤ z2 ∧ z2 < 6) (
          if x6 < (μ7.1 48 z2) then
            some (0 % 2, μ7)
          else
            lt (w32 (z2 + 1)) fun x8 =>
            k_X5_mayBe_18 n z1 x8 μ7))
      else
        some (0 % 2, μ4)
    else
      if z1 = 0 then
        some (1 % 2, μ)
      else
        bd (f_X4_holdsWith 51 μ) fun x1 μ2 =>
        if x1 = 0 then
          some (0 % 2, μ2)
        else
          some (1 % 2, μ2)
set_option maxHeartbeats 4000000 in
set_option maxRecDepth 100000 in
theorem w_X5_mayBe_18 {G : GX} {u : Int × GM} (C : CX G 5 cX5_mayBe 3 RX5) (hQ : gQI G (some .boolean) u) : ∀ (n : Nat) (z1 : Int) (hz1 : r32 z1) (z2 : Int) (hz2 : r32 z2) (μ : GM) (hμ : gRg μ), k_X5_mayBe_18 n z1 z2 μ = some u → WM G 3 μ 18 [(0, gR G 47), (1, vI z1), (2, vI z2)] [] := by
  intro n
  induction n with
  | zero =>
    intro z1 hz1 z2 hz2 μ hμ h
    cases h
  | succ n ih =>
    intro z1 hz1 z2 hz2 μ hμ h
    rw [k_X5_mayBe_18] at h
    refine o_iload_n C 2 dX5_mayBe_18 rfl rfl ?_
    refine o_aload_n C 0 dX5_mayBe_19 rfl rfl ?_
    refine o_getR (j := 0) C kt_47 rfl rfl (Nat.le_of_ble_eq_true rfl) lkf_RX5_27 dX5_mayBe_20 ?_
    refine o_getI (j := 0) C kt_1 rfl rfl (Nat.le_of_ble_eq_true rfl) lkf_RX5_98 dX5_mayBe_23 ?_
    refine o_icmp_ge (tgt := 78) C hz2 (hμ.fi kt_1 rfl (by decide)) dX5_mayBe_26 (by decide) h (fun _ h => ?_) (fun _ h => ?_)
    · refine o_iload_n C 1 dX5_mayBe_78 rfl rfl ?_
      refine o_if_eq (tgt := 96) C hz1 dX5_mayBe_79 (by decide) h (fun _ h => ?_) (fun _ h => ?_)
      · refine o_iconst C dX5_mayBe_96 ?_
        refine o_goto (tgt := 101) C dX5_mayBe_97 (by decide) ?_
        exact o_zret C hQ dX5_mayBe_101 h hμ
      · refine o_aload_n C 0 dX5_mayBe_82 rfl rfl ?_
        refine o_getR (j := 2) C kt_47 rfl rfl (Nat.le_of_ble_eq_true rfl) lkf_RX5_35 dX5_mayBe_83 ?_
        refine o_aload_n C 0 dX5_mayBe_86 rfl rfl ?_
        refine o_getR (j := 6) C kt_47 rfl rfl (Nat.le_of_ble_eq_true rfl) lkf_RX5_21 dX5_mayBe_87 ?_
        refine o_cVI C [gR G 51] mb_X4_holdsWith (by decide) (fun _ hu => c_X4_holdsWith kt_51 hμ hu) rfl (Nat.le_of_ble_eq_true rfl) h mi_X4_holdsWith me_X4_holdsWith lkm_RX5_109 kt_42 rfl rfl rfl dX5_mayBe_90 (fun x1 μ2 hx1 hμ2 h => ?_)
        refine o_if_eq (tgt := 100) C hx1 dX5_mayBe_93 (by decide) h (fun _ h => ?_) (fun _ h => ?_)
        · refine o_iconst C dX5_mayBe_100 ?_
          exact o_zret C hQ dX5_mayBe_101 h hμ2
        · refine o_iconst C dX5_mayBe_96 ?_
          refine o_goto (tgt := 101) C dX5_mayBe_97 (by decide) ?_
          exact o_zret C hQ dX5_mayBe_101 h hμ2
    · refine o_aload_n C 0 dX5_mayBe_29 rfl rfl ?_
      refine o_getR (j := 1) C kt_47 rfl rfl (Nat.le_of_ble_eq_true rfl) lkf_RX5_31 dX5_mayBe_30 ?_
      refine o_iload_n C 2 dX5_mayBe_33 rfl rfl ?_
      refine o_cVI C [vI z2] mb_X6_isDry (by decide) (fun _ hu => c_X6_isDry gRt_A hz2 hμ hu) rfl (Nat.le_of_ble_eq_true rfl) h mi_X6_isDry me_X6_isDry lkm_RX5_101 kt_94 rfl rfl rfl dX5_mayBe_34 (fun x3 μ4 hx3 hμ4 h => ?_)
      refine o_if_eq (tgt := 42) C hx3 dX5_mayBe_37 (by decide) h (fun _ h => ?_) (fun _ h => ?_)
      · refine o_aload_n C 0 dX5_mayBe_42 rfl rfl ?_
        refine o_getR (j := 3) C kt_47 rfl rfl (Nat.le_of_ble_eq_true rfl) lkf_RX5_9 dX5_mayBe_43 ?_
        refine o_iload_n C 2 dX5_mayBe_46 rfl rfl ?_
        refine o_iald C kt_48 rfl hz2 dX5_mayBe_47 h (fun h => ?_)
        refine o_ldc (v := (-10000009)) C lkc_RX5_39 rfl dX5_mayBe_48 ?_
        refine o_icmp_eq (tgt := 72) C (hμ4.i kt_48 (by decide) _) ⟨by decide, by decide⟩ dX5_mayBe_50 (by decide) h (fun _ h => ?_) (fun _ h => ?_)
        · refine o_iinc (lv2 := fun x5 => [(2, vI x5), (0, gR G 47), (1, vI z1)]) C 2 dX5_mayBe_72 rfl (by decide) (fun _ => rfl) h (fun x5 hx5 h => ?_)
          refine o_goto (tgt := 18) C dX5_mayBe_75 (by decide) ?_
          exact WM.sub [1, 2, 0] rfl (ih z1 hz1 x5 hx5 μ4 hμ4 h)
        · refine o_aload_n C 0 dX5_mayBe_53 rfl rfl ?_
          refine o_getR (j := 1) C kt_47 rfl rfl (Nat.le_of_ble_eq_true rfl) lkf_RX5_31 dX5_mayBe_54 ?_
          refine o_iload_n C 2 dX5_mayBe_57 rfl rfl ?_
          refine o_cVI C [vI z2] mb_X6_headMilli (by decide) (fun _ hu => c_X6_headMilli gRt_A hz2 hμ4 hu) rfl (Nat.le_of_ble_eq_true rfl) h mi_X6_headMilli me_X6_headMilli lkm_RX5_105 kt_94 rfl rfl rfl dX5_mayBe_58 (fun x6 μ7 hx6 hμ7 h => ?_)
          refine o_aload_n C 0 dX5_mayBe_61 rfl rfl ?_
          refine o_getR (j := 3) C kt_47 rfl rfl (Nat.le_of_ble_eq_true rfl) lkf_RX5_9 dX5_mayBe_62 ?_
          refine o_iload_n C 2 dX5_mayBe_65 rfl rfl ?_
          refine o_iald C kt_48 rfl hz2 dX5_mayBe_66 h (fun h => ?_)
          refine o_icmp_ge (tgt := 72) C hx6 (hμ7.i kt_48 (by decide) _) dX5_mayBe_67 (by decide) h (fun _ h => ?_) (fun _ h => ?_)
          · refine o_iinc (lv2 := fun x8 => [(2, vI x8), (0, gR G 47), (1, vI z1)]) C 2 dX5_mayBe_72 rfl (by decide) (fun _ => rfl) h (fun x8 hx8 h => ?_)
            refine o_goto (tgt := 18) C dX5_mayBe_75 (by decide) ?_
            exact WM.sub [1, 2, 0] rfl (ih z1 hz1 x8 hx8 μ7 hμ7 h)
          · refine o_iconst C dX5_mayBe_70 ?_
            exact o_zret C hQ dX5_mayBe_71 h hμ7
      · refine o_iconst C dX5_mayBe_40 ?_
        exact o_zret C hQ dX5_mayBe_41 h hμ4
def f_X5_mayBe (z1 : Int) (μ : GM) : Option (Int × GM) :=
  bd (f_X6_settle 94 51 μ) fun x1 μ2 =>
  if x1 = 0 then
    some (0 % 2, μ2)
  else
    k_X5_mayBe_18 FU z1 0 μ2
set_option maxHeartbeats 4000000 in
set_option maxRecDepth 100000 in
theorem w_X5_mayBe_0 {G : GX} {u : Int × GM} (C : CX G 5 cX5_mayBe 3 RX5) (hQ : gQI G (some .boolean) u) {z1 : Int} (hz1 : r32 z1) {μ : GM} (hμ : gRg μ) (h : f_X5_mayBe z1 μ = some u) : WM G 3 μ 0 [(0, gR G 47), (1, vI z1)] [] := by
  unfold f_X5_mayBe at h
  refine o_aload_n C 0 dX5_mayBe_0 rfl rfl ?_
  refine o_getR (j := 1) C kt_47 rfl rfl (Nat.le_of_ble_eq_true rfl) lkf_RX5_31 dX5_mayBe_1 ?_
  refine o_aload_n C 0 dX5_mayBe_4 rfl rfl ?_
  refine o_getR (j := 6) C kt_47 rfl rfl (Nat.le_of_ble_eq_true rfl) lkf_RX5_21 dX5_mayBe_5 ?_
  refine o_cVI C [gR G 51] mb_X6_settle (by decide) (fun _ hu => c_X6_settle gRt_A kt_51 hμ hu) rfl (Nat.le_of_ble_eq_true rfl) h mi_X6_settle me_X6_settle lkm_RX5_92 kt_94 rfl rfl rfl dX5_mayBe_8 (fun x1 μ2 hx1 hμ2 h => ?_)
  refine o_if_ne (tgt := 16) C hx1 dX5_mayBe_11 (by decide) h (fun _ h => ?_) (fun _ h => ?_)
  · refine o_iconst C dX5_mayBe_16 ?_
    refine o_istore_n (lv2 := [(2, vI 0), (0, gR G 47), (1, vI z1)]) C dX5_mayBe_17 rfl (by decide) rfl ?_
    exact WM.sub [1, 2, 0] rfl (w_X5_mayBe_18 C hQ FU z1 hz1 0 ⟨by decide, by decide⟩ μ2 hμ2 h)
  · refine o_iconst C dX5_mayBe_14 ?_
    exact o_zret C hQ dX5_mayBe_15 h hμ2
theorem c_X5_mayBe {z1 : Int} (hz1 : r32 z1) {μ : GM} (hμ : gRg μ) {u : Int × GM} (h : f_X5_mayBe z1 μ = some u) : MtI 5 yX5_mayBe cX5_mayBe 3 (some .boolean) (fun ad => [.ref (ad 47), vI z1]) μ u := MtI.of pf_X5_mayBe (fun _ => Nat.le_of_ble_eq_true rfl) (fun G C hQ => w_X5_mayBe_0 C hQ hz1 hμ h)
def k_X5_findBest_103 (kL49 : Int → Int → Int → Int → Int → GM → Option (Int × GM)) (z1 : Int) (z2 : Int) (z3 : Int) (z4 : Int) (z5 : Int) (z6 : Int) (z7 : Int) (s0 : Int) (μ : GM) : Option (Int × GM) :=
  if s0 = 0 then
    lt (w32 (z5 + 1)) fun x1 =>
    kL49 z1 z2 z3 z4 x1 μ
  else
    bd (f_X5_mayBe z1 μ) fun x2 μ3 =>
    if x2 = 0 then
      lt (w32 (z5 + 1)) fun x4 =>
      kL49 z1 z2 z3 z4 x4 μ3
    else
      ck (0 ≤ 0 ∧ 0 ≤ 0 ∧ 0 ≤ 3 ∧ 0 + 3 ≤ ((3 : Nat) : Int) ∧ 0 + 3 ≤ ((3 : Nat) : Int)) (lm (gCopy μ3 50 0 49 0 3) fun μ5 =>
      lt (w32 (z5 + 1)) fun x6 =>
      kL49 z1 z6 z7 z4 x6 μ5)
set_option maxHeartbeats 4000000 in
set_option maxRecDepth 100000 in
theorem w_X5_findBest_103 {G : GX} {u : Int × GM} (C : CX G 6 cX5_findBest 9 RX5) (hQ : gQI G (some .int) u) {kL49 : Int → Int → Int → Int → Int → GM → Option (Int × GM)} (hL49 : ∀ (z1 : Int) (hz1 : r32 z1) (z2 : Int) (hz2 : r32 z2) (z3 : Int) (hz3 : r32 z3) (z4 : Int) (hz4 : r32 z4) (z5 : Int) (hz5 : r32 z5) (μ : GM) (hμ : gRg μ), kL49 z1 z2 z3 z4 z5 μ = some u → WM G 9 μ 49 [(0, gR G 47), (1, vI z1), (2, vI z2), (3, vI z3), (4, vI z4), (5, vI z5)] []) {z1 : Int} (hz1 : r32 z1) {z2 : Int} (hz2 : r32 z2) {z3 : Int} (hz3 : r32 z3) {z4 : Int} (hz4 : r32 z4) {z5 : Int} (hz5 : r32 z5) {z6 : Int} (hz6 : r32 z6) {z7 : Int} (hz7 : r32 z7) {s0 : Int} (hs0 : r32 s0) {μ : GM} (hμ : gRg μ) (h : k_X5_findBest_103 kL49 z1 z2 z3 z4 z5 z6 z7 s0 μ = some u) : WM G 9 μ 103 [(0, gR G 47), (1, vI z1), (2, vI z2), (3, vI z3), (4, vI z4), (5, vI z5), (6, vI z6), (7, vI z7)] [vI s0] := by
  unfold k_X5_findBest_103 at h
  refine o_istore (lv2 := [(8, vI s0), (0, gR G 47), (1, vI z1), (2, vI z2), (3, vI z3), (4, vI z4), (5, vI z5), (6, vI z6), (7, vI z7)]) C dX5_findBest_103 (by decide) rfl ?_
  refine o_iload C 0 dX5_findBest_105 rfl ?_
  refine o_if_eq (tgt := 138) C hs0 dX5_findBest_107 (by decide) h (fun _ h => ?_) (fun _ h => ?_)
  · refine o_iinc (lv2 := fun x1 => [(5, vI x1), (8, vI s0), (0, gR G 47), (1, vI z1), (2, vI z2), (3, vI z3), (4, vI z4), (6, vI z6), (7, vI z7)]) C 6 dX5_findBest_138 rfl (by decide) (fun _ => rfl) h (fun x1 hx1 h => ?_)
    refine o_goto (tgt := 49) C dX5_findBest_141 (by decide) ?_
    exact WM.sub [2, 3, 4, 5, 6, 0] rfl (hL49 z1 hz1 z2 hz2 z3 hz3 z4 hz4 x1 hx1 μ hμ h)
  · refine o_aload_n C 1 dX5_findBest_110 rfl rfl ?_
    refine o_iload_n C 2 dX5_findBest_111 rfl rfl ?_
    refine o_cVI C [vI z1] mb_X5_mayBe (by decide) (fun _ hu => c_X5_mayBe hz1 hμ hu) rfl (Nat.le_of_ble_eq_true rfl) h mi_X5_mayBe me_X5_mayBe lkm_RX5_75 kt_47 rfl rfl rfl dX5_findBest_112 (fun x2 μ3 hx2 hμ3 h => ?_)
    refine o_if_eq (tgt := 138) C hx2 dX5_findBest_115 (by decide) h (fun _ h => ?_) (fun _ h => ?_)
    · refine o_iinc (lv2 := fun x4 => [(5, vI x4), (8, vI s0), (0, gR G 47), (1, vI z1), (2, vI z2), (3, vI z3), (4, vI z4), (6, vI z6), (7, vI z7)]) C 6 dX5_findBest_138 rfl (by decide) (fun _ => rfl) h (fun x4 hx4 h => ?_)
      refine o_goto (tgt := 49) C dX5_findBest_141 (by decide) ?_
      exact WM.sub [2, 3, 4, 5, 6, 0] rfl (hL49 z1 hz1 z2 hz2 z3 hz3 z4 hz4 x4 hx4 μ3 hμ3 h)
    · refine o_iload C 7 dX5_findBest_118 rfl ?_
      refine o_istore_n (lv2 := [(2, vI z6), (8, vI s0), (0, gR G 47), (1, vI z1), (3, vI z3), (4, vI z4), (5, vI z5), (6, vI z6), (7, vI z7)]) C dX5_findBest_120 rfl (by decide) rfl ?_
      refine o_iload C 8 dX5_findBest_121 rfl ?_
      refine o_istore_n (lv2 := [(3, vI z7), (2, vI z6), (8, vI s0), (0, gR G 47), (1, vI z1), (4, vI z4), (5, vI z5), (6, vI z6), (7, vI z7)]) C dX5_findBest_123 rfl (by decide) rfl ?_
      refine o_aload_n C 3 dX5_findBest_124 rfl rfl ?_
      refine o_getR (j := 5) C kt_47 rfl rfl (Nat.le_of_ble_eq_true rfl) lkf_RX5_18 dX5_findBest_125 ?_
      refine o_iconst C dX5_findBest_128 ?_
      refine o_aload_n C 3 dX5_findBest_129 rfl rfl ?_
      refine o_getR (j := 4) C kt_47 rfl rfl (Nat.le_of_ble_eq_true rfl) lkf_RX5_15 dX5_findBest_130 ?_
      refine o_iconst C dX5_findBest_133 ?_
      refine o_iconst C dX5_findBest_134 ?_
      refine o_copyi C kt_50 kt_49 ⟨by decide, by decide⟩ ⟨by decide, by decide⟩ ⟨by decide, by decide⟩ hμ3 lkm_RX5_79 acp_nat acp_sta acp_ini (by decide) rfl dX5_findBest_135 h (fun μ5 hμ5 h => ?_)
      refine o_iinc (lv2 := fun x6 => [(5, vI x6), (3, vI z7), (2, vI z6), (8, vI s0), (0, gR G 47), (1, vI z1), (4, vI z4), (6, vI z6), (7, vI z7)]) C 6 dX5_findBest_138 rfl (by decide) (fun _ => rfl) h (fun x6 hx6 h => ?_)
      refine o_goto (tgt := 49) C dX5_findBest_141 (by decide) ?_
      exact WM.sub [4, 5, 2, 1, 6, 0] rfl (hL49 z1 hz1 z6 hz6 z7 hz7 z4 hz4 x6 hx6 μ5 hμ5 h)
def k_X5_findBest_102 (kL49 : Int → Int → Int → Int → Int → GM → Option (Int × GM)) (z1 : Int) (z2 : Int) (z3 : Int) (z4 : Int) (z5 : Int) (z6 : Int) (z7 : Int) (μ : GM) : Option (Int × GM) :=
  k_X5_findBest_103 kL49 z1 z2 z3 z4 z5 z6 z7 0 μ
set_option maxHeartbeats 4000000 in
set_option maxRecDepth 100000 in
theorem w_X5_findBest_102 {G : GX} {u : Int × GM} (C : CX G 6 cX5_findBest 9 RX5) (hQ : gQI G (some .int) u) {kL49 : Int → Int → Int → Int → Int → GM → Option (Int × GM)} (hL49 : ∀ (z1 : Int) (hz1 : r32 z1) (z2 : Int) (hz2 : r32 z2) (z3 : Int) (hz3 : r32 z3) (z4 : Int) (hz4 : r32 z4) (z5 : Int) (hz5 : r32 z5) (μ : GM) (hμ : gRg μ), kL49 z1 z2 z3 z4 z5 μ = some u → WM G 9 μ 49 [(0, gR G 47), (1, vI z1), (2, vI z2), (3, vI z3), (4, vI z4), (5, vI z5)] []) {z1 : Int} (hz1 : r32 z1) {z2 : Int} (hz2 : r32 z2) {z3 : Int} (hz3 : r32 z3) {z4 : Int} (hz4 : r32 z4) {z5 : Int} (hz5 : r32 z5) {z6 : Int} (hz6 : r32 z6) {z7 : Int} (hz7 : r32 z7) {μ : GM} (hμ : gRg μ) (h : k_X5_findBest_102 kL49 z1 z2 z3 z4 z5 z6 z7 μ = some u) : WM G 9 μ 102 [(0, gR G 47), (1, vI z1), (2, vI z2), (3, vI z3), (4, vI z4), (5, vI z5), (6, vI z6), (7, vI z7)] [] := by
  unfold k_X5_findBest_102 at h
  refine o_iconst C dX5_findBest_102 ?_
  exact WM.sub [0, 1, 2, 3, 4, 5, 6, 7] rfl (w_X5_findBest_103 C hQ hL49 hz1 hz2 hz3 hz4 hz5 hz6 hz7 ⟨by decide, by decide⟩ hμ h)
def k_X5_findBest_49 : Nat → Int → Int → Int → Int → Int → GM → Option (Int × GM)
  | 0, _, _, _, _, _, _ => none
  | n + 1, z1, z2, z3, z4, z5, μ =>
    if z5 < z4 then
      bd (f_X5_setLevels z5 μ) fun _x1 μ2 =>
      bd (f_X5_gainOf μ2) fun x3 μ4 =>
      bd (f_X5_sumOfRates μ4) fun x5 μ6 =>
      if z2 = (-10000009) then
        k_X5_findBest_103 (k_X5_findBest_49 n) z1 z2 z3 z4 z5 x3 x5 1 μ6
      else
        if z2 < x3 then
          k_X5_findBest_103 (k_X5_findBest_49 n) z1 z2 z3 z4 z5 x3 x5 1 μ6
        else
          if x3 = z2 then
            if x5 < z3 then
              k_X5_findBest_103 (k_X5_findBest_49 n) z1 z2 z3 z4 z5 x3 x5 1 μ6
            else
              k_X5_findBest_102 (k_X5_findBest_49 n) z1 z2 z3 z4 z5 x3 x5 μ6
          else
            k_X5_findBest_102 (k_X5_findBest_49 n) z1 z2 z3 z4 z5 x3 x5 μ6
    else
      some (z2, μ)
set_option maxHeartbeats 4000000 in
set_option maxRecDepth 100000 in
theorem w_X5_findBest_49 {G : GX} {u : Int × GM} (C : CX G 6 cX5_findBest 9 RX5) (hQ : gQI G (some .int) u) : ∀ (n : Nat) (z1 : Int) (hz1 : r32 z1) (z2 : Int) (hz2 : r32 z2) (z3 : Int) (hz3 : r32 z3) (z4 : Int) (hz4 : r32 z4) (z5 : Int) (hz5 : r32 z5) (μ : GM) (hμ : gRg μ), k_X5_findBest_49 n z1 z2 z3 z4 z5 μ = some u → WM G 9 μ 49 [(0, gR G 47), (1, vI z1), (2, vI z2), (3, vI z3), (4, vI z4), (5, vI z5)] [] := by
  intro n
  induction n with
  | zero =>
    intro z1 hz1 z2 hz2 z3 hz3 z4 hz4 z5 hz5 μ hμ h
    cases h
  | succ n ih =>
    intro z1 hz1 z2 hz2 z3 hz3 z4 hz4 z5 hz5 μ hμ h
    rw [k_X5_findBest_49] at h
    refine o_iload C 5 dX5_findBest_49 rfl ?_
    refine o_iload C 4 dX5_findBest_51 rfl ?_
    refine o_icmp_ge (tgt := 144) C hz5 hz4 dX5_findBest_53 (by decide) h (fun _ h => ?_) (fun _ h => ?_)
    · refine o_iload_n C 2 dX5_findBest_144 rfl rfl ?_
      exact o_iret C hQ dX5_findBest_145 h hz2 hμ
    · refine o_aload_n C 0 dX5_findBest_56 rfl rfl ?_
      refine o_iload C 5 dX5_findBest_57 rfl ?_
      refine o_cVV C [vI z5] mb_X5_setLevels (by decide) (fun _ hu => c_X5_setLevels hz5 hμ hu) rfl (Nat.le_of_ble_eq_true rfl) h mi_X5_setLevels me_X5_setLevels lkm_RX5_64 kt_47 rfl rfl rfl dX5_findBest_59 (fun _x1 μ2 hμ2 h => ?_)
      refine o_aload_n C 0 dX5_findBest_62 rfl rfl ?_
      refine o_cVI C [] mb_X5_gainOf (by decide) (fun _ hu => c_X5_gainOf hμ2 hu) rfl (Nat.le_of_ble_eq_true rfl) h mi_X5_gainOf me_X5_gainOf lkm_RX5_68 kt_47 rfl rfl rfl dX5_findBest_63 (fun x3 μ4 hx3 hμ4 h => ?_)
      refine o_istore (lv2 := [(6, vI x3), (0, gR G 47), (1, vI z1), (2, vI z2), (3, vI z3), (4, vI z4), (5, vI z5)]) C dX5_findBest_66 (by decide) rfl ?_
      refine o_aload_n C 1 dX5_findBest_68 rfl rfl ?_
      refine o_cVI C [] mb_X5_sumOfRates (by decide) (fun _ hu => c_X5_sumOfRates hμ4 hu) rfl (Nat.le_of_ble_eq_true rfl) h mi_X5_sumOfRates me_X5_sumOfRates lkm_RX5_72 kt_47 rfl rfl rfl dX5_findBest_69 (fun x5 μ6 hx5 hμ6 h => ?_)
      refine o_istore (lv2 := [(7, vI x5), (6, vI x3), (0, gR G 47), (1, vI z1), (2, vI z2), (3, vI z3), (4, vI z4), (5, vI z5)]) C dX5_findBest_72 (by decide) rfl ?_
      refine o_iload_n C 4 dX5_findBest_74 rfl rfl ?_
      refine o_ldc (v := (-10000009)) C lkc_RX5_39 rfl dX5_findBest_75 ?_
      refine o_icmp_eq (tgt := 98) C hz2 ⟨by decide, by decide⟩ dX5_findBest_77 (by decide) h (fun _ h => ?_) (fun _ h => ?_)
      · refine o_iconst C dX5_findBest_98 ?_
        refine o_goto (tgt := 103) C dX5_findBest_99 (by decide) ?_
        exact WM.sub [2, 3, 4, 5, 6, 7, 1, 0] rfl (w_X5_findBest_103 C hQ ih hz1 hz2 hz3 hz4 hz5 hx3 hx5 ⟨by decide, by decide⟩ hμ6 h)
      · refine o_iload C 1 dX5_findBest_80 rfl ?_
        refine o_iload_n C 4 dX5_findBest_82 rfl rfl ?_
        refine o_icmp_gt (tgt := 98) C hx3 hz2 dX5_findBest_83 (by decide) h (fun _ h => ?_) (fun _ h => ?_)
        · refine o_iconst C dX5_findBest_98 ?_
          refine o_goto (tgt := 103) C dX5_findBest_99 (by decide) ?_
          exact WM.sub [2, 3, 4, 5, 6, 7, 1, 0] rfl (w_X5_findBest_103 C hQ ih hz1 hz2 hz3 hz4 hz5 hx3 hx5 ⟨by decide, by decide⟩ hμ6 h)
        · refine o_iload C 1 dX5_findBest_86 rfl ?_
          refine o_iload_n C 4 dX5_findBest_88 rfl rfl ?_
          refine o_icmp_ne (tgt := 102) C hx3 hz2 dX5_findBest_89 (by decide) h (fun _ h => ?_) (fun _ h => ?_)
          · exact WM.sub [2, 3, 4, 5, 6, 7, 1, 0] rfl (w_X5_findBest_102 C hQ ih hz1 hz2 hz3 hz4 hz5 hx3 hx5 hμ6 h)
          · refine o_iload C 0 dX5_findBest_92 rfl ?_
            refine o_iload_n C 5 dX5_findBest_94 rfl rfl ?_
            refine o_icmp_ge (tgt := 102) C hx5 hz3 dX5_findBest_95 (by decide) h (fun _ h => ?_) (fun _ h => ?_)
            · exact WM.sub [2, 3, 4, 5, 6, 7, 1, 0] rfl (w_X5_findBest_102 C hQ ih hz1 hz2 hz3 hz4 hz5 hx3 hx5 hμ6 h)
            · refine o_iconst C dX5_findBest_98 ?_
              refine o_goto (tgt := 103) C dX5_findBest_99 (by decide) ?_
              exact WM.sub [2, 3, 4, 5, 6, 7, 1, 0] rfl (w_X5_findBest_103 C hQ ih hz1 hz2 hz3 hz4 hz5 hx3 hx5 ⟨by decide, by decide⟩ hμ6 h)
def k_X5_findBest_19 : Nat → Int → Int → Int → Int → Int → GM → Option (Int × GM)
  | 0, _, _, _, _, _, _ => none
  | n + 1, z1, z2, z3, z4, z5, μ =>
    if z5 < (μ.2 18 0) then
      lt (w32 (z4 * 5)) fun x1 =>
      lt (w32 (z5 + 1)) fun x2 =>
      k_X5_findBest_19 n z1 z2 z3 x1 x2 μ
    else
      k_X5_findBest_49 FU z1 z2 z3 z4 0 μ
set_option maxHeartbeats 4000000 in
set_option maxRecDepth 100000 in
theorem w_X5_findBest_19 {G : GX} {u : Int × GM} (C : CX G 6 cX5_findBest 9 RX5) (hQ : gQI G (some .int) u) : ∀ (n : Nat) (z1 : Int) (hz1 : r32 z1) (z2 : Int) (hz2 : r32 z2) (z3 : Int) (hz3 : r32 z3) (z4 : Int) (hz4 : r32 z4) (z5 : Int) (hz5 : r32 z5) (μ : GM) (hμ : gRg μ), k_X5_findBest_19 n z1 z2 z3 z4 z5 μ = some u → WM G 9 μ 19 [(0, gR G 47), (1, vI z1), (2, vI z2), (3, vI z3), (4, vI z4), (5, vI z5)] [] := by
  intro n
  induction n with
  | zero =>
    intro z1 hz1 z2 hz2 z3 hz3 z4 hz4 z5 hz5 μ hμ h
    cases h
  | succ n ih =>
    intro z1 hz1 z2 hz2 z3 hz3 z4 hz4 z5 hz5 μ hμ h
    rw [k_X5_findBest_19] at h
    refine o_iload C 5 dX5_findBest_19 rfl ?_
    refine o_aload_n C 0 dX5_findBest_21 rfl rfl ?_
    refine o_getR (j := 0) C kt_47 rfl rfl (Nat.le_of_ble_eq_true rfl) lkf_RX5_27 dX5_findBest_22 ?_
    refine o_getR (j := 7) C kt_1 rfl rfl (Nat.le_of_ble_eq_true rfl) lkf_RX5_52 dX5_findBest_25 ?_
    refine o_getI (j := 0) C kt_18 rfl rfl (Nat.le_of_ble_eq_true rfl) lkf_RX5_58 dX5_findBest_28 ?_
    refine o_icmp_ge (tgt := 46) C hz5 (hμ.fi kt_18 rfl (by decide)) dX5_findBest_31 (by decide) h (fun _ h => ?_) (fun _ h => ?_)
    · refine o_iconst C dX5_findBest_46 ?_
      refine o_istore (lv2 := [(5, vI 0), (0, gR G 47), (1, vI z1), (2, vI z2), (3, vI z3), (4, vI z4)]) C dX5_findBest_47 (by decide) rfl ?_
      exact WM.sub [1, 2, 3, 4, 5, 0] rfl (w_X5_findBest_49 C hQ FU z1 hz1 z2 hz2 z3 hz3 z4 hz4 0 ⟨by decide, by decide⟩ μ hμ h)
    · refine o_iload C 4 dX5_findBest_34 rfl ?_
      refine o_iconst C dX5_findBest_36 ?_
      refine o_imul C dX5_findBest_37 ?_
      refine o_lt h (r32_w _) (fun x1 hx1 h => ?_)
      refine o_istore (lv2 := [(4, vI x1), (0, gR G 47), (1, vI z1), (2, vI z2), (3, vI z3), (5, vI z5)]) C dX5_findBest_38 (by decide) rfl ?_
      refine o_iinc (lv2 := fun x2 => [(5, vI x2), (4, vI x1), (0, gR G 47), (1, vI z1), (2, vI z2), (3, vI z3)]) C 5 dX5_findBest_40 rfl (by decide) (fun _ => rfl) h (fun x2 hx2 h => ?_)
      refine o_goto (tgt := 19) C dX5_findBest_43 (by decide) ?_
      exact WM.sub [2, 3, 4, 5, 1, 0] rfl (ih z1 hz1 z2 hz2 z3 hz3 x1 hx1 x2 hx2 μ hμ h)
def f_X5_findBest (μ : GM) : Option (Int × GM) :=
  bd (f_X4_isPermit μ) fun x1 μ2 =>
  k_X5_findBest_19 FU x1 (-10000009) 0 1 0 μ2
set_option maxHeartbeats 4000000 in
set_option maxRecDepth 100000 in
theorem w_X5_findBest_0 {G : GX} {u : Int × GM} (C : CX G 6 cX5_findBest 9 RX5) (hQ : gQI G (some .int) u) {μ : GM} (hμ : gRg μ) (h : f_X5_findBest μ = some u) : WM G 9 μ 0 [(0, gR G 47)] [] := by
  unfold f_X5_findBest at h
  refine o_aload_n C 0 dX5_findBest_0 rfl rfl ?_
  refine o_getR (j := 2) C kt_47 rfl rfl (Nat.le_of_ble_eq_true rfl) lkf_RX5_35 dX5_findBest_1 ?_
  refine o_cVI C [] mb_X4_isPermit (by decide) (fun _ hu => c_X4_isPermit hμ hu) rfl (Nat.le_of_ble_eq_true rfl) h mi_X4_isPermit me_X4_isPermit lkm_RX5_46 kt_42 rfl rfl rfl dX5_findBest_4 (fun x1 μ2 hx1 hμ2 h => ?_)
  refine o_istore_n (lv2 := [(1, vI x1), (0, gR G 47)]) C dX5_findBest_7 rfl (by decide) rfl ?_
  refine o_ldc (v := (-10000009)) C lkc_RX5_39 rfl dX5_findBest_8 ?_
  refine o_istore_n (lv2 := [(2, vI (-10000009)), (1, vI x1), (0, gR G 47)]) C dX5_findBest_10 rfl (by decide) rfl ?_
  refine o_iconst C dX5_findBest_11 ?_
  refine o_istore_n (lv2 := [(3, vI 0), (2, vI (-10000009)), (1, vI x1), (0, gR G 47)]) C dX5_findBest_12 rfl (by decide) rfl ?_
  refine o_iconst C dX5_findBest_13 ?_
  refine o_istore (lv2 := [(4, vI 1), (3, vI 0), (2, vI (-10000009)), (1, vI x1), (0, gR G 47)]) C dX5_findBest_14 (by decide) rfl ?_
  refine o_iconst C dX5_findBest_16 ?_
  refine o_istore (lv2 := [(5, vI 0), (4, vI 1), (3, vI 0), (2, vI (-10000009)), (1, vI x1), (0, gR G 47)]) C dX5_findBest_17 (by decide) rfl ?_
  exact WM.sub [5, 4, 3, 2, 1, 0] rfl (w_X5_findBest_19 C hQ FU x1 hx1 (-10000009) ⟨by decide, by decide⟩ 0 ⟨by decide, by decide⟩ 1 ⟨by decide, by decide⟩ 0 ⟨by decide, by decide⟩ μ2 hμ2 h)
theorem c_X5_findBest {μ : GM} (hμ : gRg μ) {u : Int × GM} (h : f_X5_findBest μ = some u) : MtI 6 yX5_findBest cX5_findBest 9 (some .int) (fun ad => [.ref (ad 47)]) μ u := MtI.of pf_X5_findBest (fun _ => Nat.le_of_ble_eq_true rfl) (fun G C hQ => w_X5_findBest_0 C hQ hμ h)
def k_X5_milliWith_2 : Nat → Int → Int → Int → GM → Option (Int × GM)
  | 0, _, _, _, _ => none
  | n + 1, z1, z2, z3, μ =>
    if z3 < (μ.2 18 0) then
      if (gand (gshr z1 z3) 1) = 1 then
        ck (0 ≤ z3 ∧ z3 < 3) (
        ck (0 ≤ z3 ∧ z3 < 3) (lm (gA μ 51 z3 (μ.1 22 z3)) fun μ7 =>
        lt (w32 (z3 + 1)) fun x8 =>
        k_X5_milliWith_2 n z1 z2 x8 μ7))
      else
        ck (0 ≤ z3 ∧ z3 < 3) (lm (gA μ 51 z3 0) fun μ5 =>
        lt (w32 (z3 + 1)) fun x6 =>
        k_X5_milliWith_2 n z1 z2 x6 μ5)
    else
      bd (f_X6_settle 94 51 μ) fun x1 μ2 =>
      if x1 = 0 then
        some ((-10000003), μ2)
      else
        bd (f_X6_headMilli 94 z2 μ2) fun x3 μ4 =>
        some (x3, μ4)
set_option maxHeartbeats 4000000 in
set_option maxRecDepth 100000 in
theorem w_X5_milliWith_2 {G : GX} {u : Int × GM} (C : CX G 4 cX5_milliWith 4 RX5) (hQ : gQI G (some .int) u) : ∀ (n : Nat) (z1 : Int) (hz1 : r32 z1) (z2 : Int) (hz2 : r32 z2) (z3 : Int) (hz3 : r32 z3) (μ : GM) (hμ : gRg μ), k_X5_milliWith_2 n z1 z2 z3 μ = some u → WM G 4 μ 2 [(0, gR G 47), (1, vI z1), (2, vI z2), (3, vI z3)] [] := by
  intro n
  induction n with
  | zero =>
    intro z1 hz1 z2 hz2 z3 hz3 μ hμ h
    cases h
  | succ n ih =>
    intro z1 hz1 z2 hz2 z3 hz3 μ hμ h
    rw [k_X5_milliWith_2] at h
    refine o_iload_n C 3 dX5_milliWith_2 rfl rfl ?_
    refine o_aload_n C 0 dX5_milliWith_3 rfl rfl ?_
    refine o_getR (j := 0) C kt_47 rfl rfl (Nat.le_of_ble_eq_true rfl) lkf_RX5_27 dX5_milliWith_4 ?_
    refine o_getR (j := 7) C kt_1 rfl rfl (Nat.le_of_ble_eq_true rfl) lkf_RX5_52 dX5_milliWith_7 ?_
    refine o_getI (j := 0) C kt_18 rfl rfl (Nat.le_of_ble_eq_true rfl) lkf_RX5_58 dX5_milliWith_10 ?_
    refine o_icmp_ge (tgt := 53) C hz3 (hμ.fi kt_18 rfl (by decide)) dX5_milliWith_13 (by decide) h (fun _ h => ?_) (fun _ h => ?_)
    · refine o_aload_n C 0 dX5_milliWith_53 rfl rfl ?_
      refine o_getR (j := 1) C kt_47 rfl rfl (Nat.le_of_ble_eq_true rfl) lkf_RX5_31 dX5_milliWith_54 ?_
      refine o_aload_n C 0 dX5_milliWith_57 rfl rfl ?_
      refine o_getR (j := 6) C kt_47 rfl rfl (Nat.le_of_ble_eq_true rfl) lkf_RX5_21 dX5_milliWith_58 ?_
      refine o_cVI C [gR G 51] mb_X6_settle (by decide) (fun _ hu => c_X6_settle gRt_A kt_51 hμ hu) rfl (Nat.le_of_ble_eq_true rfl) h mi_X6_settle me_X6_settle lkm_RX5_92 kt_94 rfl rfl rfl dX5_milliWith_61 (fun x1 μ2 hx1 hμ2 h => ?_)
      refine o_if_eq (tgt := 78) C hx1 dX5_milliWith_64 (by decide) h (fun _ h => ?_) (fun _ h => ?_)
      · refine o_ldc (v := (-10000003)) C lkc_RX5_115 rfl dX5_milliWith_78 ?_
        exact o_iret C hQ dX5_milliWith_80 h ⟨by decide, by decide⟩ hμ2
      · refine o_aload_n C 0 dX5_milliWith_67 rfl rfl ?_
        refine o_getR (j := 1) C kt_47 rfl rfl (Nat.le_of_ble_eq_true rfl) lkf_RX5_31 dX5_milliWith_68 ?_
        refine o_iload_n C 2 dX5_milliWith_71 rfl rfl ?_
        refine o_cVI C [vI z2] mb_X6_headMilli (by decide) (fun _ hu => c_X6_headMilli gRt_A hz2 hμ2 hu) rfl (Nat.le_of_ble_eq_true rfl) h mi_X6_headMilli me_X6_headMilli lkm_RX5_105 kt_94 rfl rfl rfl dX5_milliWith_72 (fun x3 μ4 hx3 hμ4 h => ?_)
        refine o_goto (tgt := 80) C dX5_milliWith_75 (by decide) ?_
        exact o_iret C hQ dX5_milliWith_80 h hx3 hμ4
    · refine o_aload_n C 0 dX5_milliWith_16 rfl rfl ?_
      refine o_getR (j := 6) C kt_47 rfl rfl (Nat.le_of_ble_eq_true rfl) lkf_RX5_21 dX5_milliWith_17 ?_
      refine o_iload_n C 3 dX5_milliWith_20 rfl rfl ?_
      refine o_iload_n C 1 dX5_milliWith_21 rfl rfl ?_
      refine o_iload_n C 3 dX5_milliWith_22 rfl rfl ?_
      refine o_ishr C dX5_milliWith_23 ?_
      refine o_iconst C dX5_milliWith_24 ?_
      refine o_iand C dX5_milliWith_25 ?_
      refine o_iconst C dX5_milliWith_26 ?_
      refine o_icmp_ne (tgt := 45) C (r32_toInt _) ⟨by decide, by decide⟩ dX5_milliWith_27 (by decide) h (fun _ h => ?_) (fun _ h => ?_)
      · refine o_iconst C dX5_milliWith_45 ?_
        refine o_iast C kt_51 rfl hz3 ⟨by decide, by decide⟩ hμ dX5_milliWith_46 h (fun μ5 hμ5 h => ?_)
        refine o_iinc (lv2 := fun x6 => [(3, vI x6), (0, gR G 47), (1, vI z1), (2, vI z2)]) C 3 dX5_milliWith_47 rfl (by decide) (fun _ => rfl) h (fun x6 hx6 h => ?_)
        refine o_goto (tgt := 2) C dX5_milliWith_50 (by decide) ?_
        exact WM.sub [1, 2, 3, 0] rfl (ih z1 hz1 z2 hz2 x6 hx6 μ5 hμ5 h)
      · refine o_aload_n C 0 dX5_milliWith_30 rfl rfl ?_
        refine o_getR (j := 0) C kt_47 rfl rfl (Nat.le_of_ble_eq_true rfl) lkf_RX5_27 dX5_milliWith_31 ?_
        refine o_getR (j := 7) C kt_1 rfl rfl (Nat.le_of_ble_eq_true rfl) lkf_RX5_52 dX5_milliWith_34 ?_
        refine o_getR (j := 4) C kt_18 rfl rfl (Nat.le_of_ble_eq_true rfl) lkf_RX5_112 dX5_milliWith_37 ?_
        refine o_iload_n C 3 dX5_milliWith_40 rfl rfl ?_
        refine o_iald C kt_22 rfl hz3 dX5_milliWith_41 h (fun h => ?_)
        refine o_goto (tgt := 46) C dX5_milliWith_42 (by decide) ?_
        refine o_iast C kt_51 rfl hz3 (hμ.i kt_22 (by decide) _) hμ dX5_milliWith_46 h (fun μ7 hμ7 h => ?_)
        refine o_iinc (lv2 := fun x8 => [(3, vI x8), (0, gR G 47), (1, vI z1), (2, vI z2)]) C 3 dX5_milliWith_47 rfl (by decide) (fun _ => rfl) h (fun x8 hx8 h => ?_)
        refine o_goto (tgt := 2) C dX5_milliWith_50 (by decide) ?_
        exact WM.sub [1, 2, 3, 0] rfl (ih z1 hz1 z2 hz2 x8 hx8 μ7 hμ7 h)
def f_X5_milliWith (z1 : Int) (z2 : Int) (μ : GM) : Option (Int × GM) :=
  k_X5_milliWith_2 FU z1 z2 0 μ
set_option maxHeartbeats 4000000 in
set_option maxRecDepth 100000 in
theorem w_X5_milliWith_0 {G : GX} {u : Int × GM} (C : CX G 4 cX5_milliWith 4 RX5) (hQ : gQI G (some .int) u) {z1 : Int} (hz1 : r32 z1) {z2 : Int} (hz2 : r32 z2) {μ : GM} (hμ : gRg μ) (h : f_X5_milliWith z1 z2 μ = some u) : WM G 4 μ 0 [(0, gR G 47), (1, vI z1), (2, vI z2)] [] := by
  unfold f_X5_milliWith at h
  refine o_iconst C dX5_milliWith_0 ?_
  refine o_istore_n (lv2 := [(3, vI 0), (0, gR G 47), (1, vI z1), (2, vI z2)]) C dX5_milliWith_1 rfl (by decide) rfl ?_
  exact WM.sub [1, 2, 3, 0] rfl (w_X5_milliWith_2 C hQ FU z1 hz1 z2 hz2 0 ⟨by decide, by decide⟩ μ hμ h)
theorem c_X5_milliWith {z1 : Int} (hz1 : r32 z1) {z2 : Int} (hz2 : r32 z2) {μ : GM} (hμ : gRg μ) {u : Int × GM} (h : f_X5_milliWith z1 z2 μ = some u) : MtI 4 yX5_milliWith cX5_milliWith 4 (some .int) (fun ad => [.ref (ad 47), vI z1, vI z2]) μ u := MtI.of pf_X5_milliWith (fun _ => Nat.le_of_ble_eq_true rfl) (fun G C hQ => w_X5_milliWith_0 C hQ hz1 hz2 hμ h)
def f_X5_harmAt (z1 : Int) (μ : GM) : Option (Int × GM) :=
  bd (f_X5_milliWith 0 z1 μ) fun x1 μ2 =>
  bd (f_X5_milliWith (w32 ((gshl 1 (μ2.2 18 0)) - 1)) z1 μ2) fun x3 μ4 =>
  if x1 = (-10000003) then
    some ((-10000003), μ4)
  else
    if x3 = (-10000003) then
      some ((-10000003), μ4)
    else
      some ((w32 (x1 - x3)), μ4)
set_option maxHeartbeats 4000000 in
set_option maxRecDepth 100000 in
theorem w_X5_harmAt_0 {G : GX} {u : Int × GM} (C : CX G 5 cX5_harmAt 4 RX5) (hQ : gQI G (some .int) u) {z1 : Int} (hz1 : r32 z1) {μ : GM} (hμ : gRg μ) (h : f_X5_harmAt z1 μ = some u) : WM G 4 μ 0 [(0, gR G 47), (1, vI z1)] [] := by
  unfold f_X5_harmAt at h
  refine o_aload_n C 0 dX5_harmAt_0 rfl rfl ?_
  refine o_iconst C dX5_harmAt_1 ?_
  refine o_iload_n C 1 dX5_harmAt_2 rfl rfl ?_
  refine o_cVI C [vI 0, vI z1] mb_X5_milliWith (by decide) (fun _ hu => c_X5_milliWith ⟨by decide, by decide⟩ hz1 hμ hu) rfl (Nat.le_of_ble_eq_true rfl) h mi_X5_milliWith me_X5_milliWith lkm_RX5_116 kt_47 rfl rfl rfl dX5_harmAt_3 (fun x1 μ2 hx1 hμ2 h => ?_)
  refine o_istore_n (lv2 := [(2, vI x1), (0, gR G 47), (1, vI z1)]) C dX5_harmAt_6 rfl (by decide) rfl ?_
  refine o_aload_n C 1 dX5_harmAt_7 rfl rfl ?_
  refine o_iconst C dX5_harmAt_8 ?_
  refine o_aload_n C 1 dX5_harmAt_9 rfl rfl ?_
  refine o_getR (j := 0) C kt_47 rfl rfl (Nat.le_of_ble_eq_true rfl) lkf_RX5_27 dX5_harmAt_10 ?_
  refine o_getR (j := 7) C kt_1 rfl rfl (Nat.le_of_ble_eq_true rfl) lkf_RX5_52 dX5_harmAt_13 ?_
  refine o_getI (j := 0) C kt_18 rfl rfl (Nat.le_of_ble_eq_true rfl) lkf_RX5_58 dX5_harmAt_16 ?_
  refine o_ishl C dX5_harmAt_19 ?_
  refine o_iconst C dX5_harmAt_20 ?_
  refine o_isub C dX5_harmAt_21 ?_
  refine o_iload_n C 2 dX5_harmAt_22 rfl rfl ?_
  refine o_cVI C [vI (w32 ((gshl 1 (μ2.2 18 0)) - 1)), vI z1] mb_X5_milliWith (by decide) (fun _ hu => c_X5_milliWith (r32_w _) hz1 hμ2 hu) rfl (Nat.le_of_ble_eq_true rfl) h mi_X5_milliWith me_X5_milliWith lkm_RX5_116 kt_47 rfl rfl rfl dX5_harmAt_23 (fun x3 μ4 hx3 hμ4 h => ?_)
  refine o_istore_n (lv2 := [(3, vI x3), (2, vI x1), (0, gR G 47), (1, vI z1)]) C dX5_harmAt_26 rfl (by decide) rfl ?_
  refine o_iload_n C 1 dX5_harmAt_27 rfl rfl ?_
  refine o_ldc (v := (-10000003)) C lkc_RX5_115 rfl dX5_harmAt_28 ?_
  refine o_icmp_eq (tgt := 39) C hx1 ⟨by decide, by decide⟩ dX5_harmAt_30 (by decide) h (fun _ h => ?_) (fun _ h => ?_)
  · refine o_ldc (v := (-10000003)) C lkc_RX5_115 rfl dX5_harmAt_39 ?_
    refine o_goto (tgt := 47) C dX5_harmAt_41 (by decide) ?_
    exact o_iret C hQ dX5_harmAt_47 h ⟨by decide, by decide⟩ hμ4
  · refine o_iload_n C 0 dX5_harmAt_33 rfl rfl ?_
    refine o_ldc (v := (-10000003)) C lkc_RX5_115 rfl dX5_harmAt_34 ?_
    refine o_icmp_ne (tgt := 44) C hx3 ⟨by decide, by decide⟩ dX5_harmAt_36 (by decide) h (fun _ h => ?_) (fun _ h => ?_)
    · refine o_iload_n C 1 dX5_harmAt_44 rfl rfl ?_
      refine o_iload_n C 0 dX5_harmAt_45 rfl rfl ?_
      refine o_isub C dX5_harmAt_46 ?_
      exact o_iret C hQ dX5_harmAt_47 h (r32_w _) hμ4
    · refine o_ldc (v := (-10000003)) C lkc_RX5_115 rfl dX5_harmAt_39 ?_
      refine o_goto (tgt := 47) C dX5_harmAt_41 (by decide) ?_
      exact o_iret C hQ dX5_harmAt_47 h ⟨by decide, by decide⟩ hμ4
theorem c_X5_harmAt {z1 : Int} (hz1 : r32 z1) {μ : GM} (hμ : gRg μ) {u : Int × GM} (h : f_X5_harmAt z1 μ = some u) : MtI 5 yX5_harmAt cX5_harmAt 4 (some .int) (fun ad => [.ref (ad 47), vI z1]) μ u := MtI.of pf_X5_harmAt (fun _ => Nat.le_of_ble_eq_true rfl) (fun G C hQ => w_X5_harmAt_0 C hQ hz1 hμ h)
def f_X5_ordersBehind (z1 : Int) (μ : GM) : Option (Int × GM) :=
  bd (f_J6_bitCount_0f7a4 z1 μ) fun x1 μ2 =>
  ck (0 ≤ x1 ∧ x1 < 4) (
  ck (0 ≤ (w32 ((w32 ((μ2.2 18 0) - 1)) - x1)) ∧ (w32 ((w32 ((μ2.2 18 0) - 1)) - x1)) < 4) (
  some ((w32 ((gfac (Int.toNat x1)) * (gfac (Int.toNat (w32 ((w32 ((μ2.2 18 0) - 1)) - x1)))))), μ2)))
set_option maxHeartbeats 4000000 in
set_option maxRecDepth 100000 in
theorem w_X5_ordersBehind_0 {G : GX} {u : Int × GM} (C : CX G 1 cX5_ordersBehind 3 RX5) (hQ : gQI G (some .int) u) {z1 : Int} (hz1 : r32 z1) {μ : GM} (hμ : gRg μ) (h : f_X5_ordersBehind z1 μ = some u) : WM G 3 μ 0 [(0, gR G 47), (1, vI z1)] [] := by
  unfold f_X5_ordersBehind at h
  refine o_iload_n C 1 dX5_ordersBehind_0 rfl rfl ?_
  refine o_cSI C [vI z1] mb_J6_bitCount_0f7a4 (by decide) (fun _ hu => c_J6_bitCount_0f7a4 hz1 hμ hu) rfl (Nat.le_of_ble_eq_true rfl) h ms_J6_bitCount_0f7a4 lkm_RX5_125 rfl rfl dX5_ordersBehind_1 (fun x1 μ2 hx1 hμ2 h => ?_)
  refine o_istore_n (lv2 := [(2, vI x1), (0, gR G 47), (1, vI z1)]) C dX5_ordersBehind_4 rfl (by decide) rfl ?_
  refine o_getsF C rfl lkf_RX5_122 dX5_ordersBehind_5 ?_
  refine o_iload_n C 0 dX5_ordersBehind_8 rfl rfl ?_
  refine o_faci C hx1 dX5_ordersBehind_9 h (fun h => ?_)
  refine o_getsF C rfl lkf_RX5_122 dX5_ordersBehind_10 ?_
  refine o_aload_n C 1 dX5_ordersBehind_13 rfl rfl ?_
  refine o_getR (j := 0) C kt_47 rfl rfl (Nat.le_of_ble_eq_true rfl) lkf_RX5_27 dX5_ordersBehind_14 ?_
  refine o_getR (j := 7) C kt_1 rfl rfl (Nat.le_of_ble_eq_true rfl) lkf_RX5_52 dX5_ordersBehind_17 ?_
  refine o_getI (j := 0) C kt_18 rfl rfl (Nat.le_of_ble_eq_true rfl) lkf_RX5_58 dX5_ordersBehind_20 ?_
  refine o_iconst C dX5_ordersBehind_23 ?_
  refine o_isub C dX5_ordersBehind_24 ?_
  refine o_iload_n C 0 dX5_ordersBehind_25 rfl rfl ?_
  refine o_isub C dX5_ordersBehind_26 ?_
  refine o_faci C (r32_w _) dX5_ordersBehind_27 h (fun h => ?_)
  refine o_imul C dX5_ordersBehind_28 ?_
  exact o_iret C hQ dX5_ordersBehind_29 h (r32_w _) hμ2
theorem c_X5_ordersBehind {z1 : Int} (hz1 : r32 z1) {μ : GM} (hμ : gRg μ) {u : Int × GM} (h : f_X5_ordersBehind z1 μ = some u) : MtI 1 yX5_ordersBehind cX5_ordersBehind 3 (some .int) (fun ad => [.ref (ad 47), vI z1]) μ u := MtI.of pf_X5_ordersBehind (fun _ => Nat.le_of_ble_eq_true rfl) (fun G C hQ => w_X5_ordersBehind_0 C hQ hz1 hμ h)
