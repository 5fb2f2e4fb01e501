def k_X6_fits_182 (t : Nat) (a2 : Nat) : Nat → Int → GM → Option (Int × GM)
  | 0, _, _ => none
  | n + 1, z3, μ =>
    if z3 < (μ.2 1 0) then
      bd (f_X6_solve t a2 z3 μ) fun x1 μ2 =>
      ck (0 ≤ z3 ∧ z3 < 6) (lm (gA μ2 (t + 5) z3 x1) fun μ3 =>
      lt (w32 (z3 + 1)) fun x4 =>
      k_X6_fits_182 t a2 n x4 μ3)
    else
      some (1 % 2, μ)
set_option maxHeartbeats 4000000 in
set_option maxRecDepth 100000 in
theorem w_X6_fits_182 {G : GX} {u : Int × GM} (C : CX G 1 cX6_fits 5 RX6) (hQ : gQI G (some .boolean) u) {t : Nat} (ht : gRt t) {a2 : Nat} (ha2 : gKT[a2]? = some (2, 36, 0, [])) : ∀ (n : Nat) (z3 : Int) (hz3 : r32 z3) (μ : GM) (hμ : gRg μ), k_X6_fits_182 t a2 n z3 μ = some u → WM G 5 μ 182 [(0, gR G t), (2, gR G a2), (3, vI z3)] [] := by
  intro n
  induction n with
  | zero =>
    intro z3 hz3 μ hμ h
    cases h
  | succ n ih =>
    intro z3 hz3 μ hμ h
    rw [k_X6_fits_182] at h
    refine o_iload_n C 2 dX6_fits_182 rfl rfl ?_
    refine o_aload_n C 0 dX6_fits_183 rfl rfl ?_
    refine o_getR (j := 0) C (ktR_0 ht) rfl rfl (Nat.le_of_ble_eq_true rfl) lkf_RX6_26 dX6_fits_184 ?_
    refine o_getI (j := 0) C kt_1 rfl rfl (Nat.le_of_ble_eq_true rfl) lkf_RX6_58 dX6_fits_187 ?_
    refine o_icmp_ge (tgt := 211) C hz3 (hμ.fi kt_1 rfl (by decide)) dX6_fits_190 (by decide) h (fun _ h => ?_) (fun _ h => ?_)
    · refine o_iconst C dX6_fits_211 ?_
      exact o_zret C hQ dX6_fits_212 h hμ
    · refine o_aload_n C 0 dX6_fits_193 rfl rfl ?_
      refine o_getR (j := 6) C (ktR_0 ht) rfl rfl (Nat.le_of_ble_eq_true rfl) lkf_RX6_15 dX6_fits_194 ?_
      refine o_iload_n C 2 dX6_fits_197 rfl rfl ?_
      refine o_aload_n C 0 dX6_fits_198 rfl rfl ?_
      refine o_aload_n C 1 dX6_fits_199 rfl rfl ?_
      refine o_iload_n C 2 dX6_fits_200 rfl rfl ?_
      refine o_cVL C [gR G a2, vI z3] mb_X6_solve (by decide) (fun _ hu => c_X6_solve ht ha2 hz3 hμ hu) rfl (Nat.le_of_ble_eq_true rfl) h mi_X6_solve me_X6_solve lkm_RX6_91 (ktR_0 ht) rfl rfl rfl dX6_fits_201 (fun x1 μ2 hx1 hμ2 h => ?_)
      refine o_last C (ktR_5 ht) rfl hz3 hx1 hμ2 dX6_fits_204 h (fun μ3 hμ3 h => ?_)
      refine o_iinc (lv2 := fun x4 => [(3, vI x4), (0, gR G t), (2, gR G a2)]) C 2 dX6_fits_205 rfl (by decide) (fun _ => rfl) h (fun x4 hx4 h => ?_)
      refine o_goto (tgt := 182) C dX6_fits_208 (by decide) ?_
      exact WM.sub [1, 2, 0] rfl (ih x4 hx4 μ3 hμ3 h)
def k_X6_fits_169 (kL91 : Int → Int → GM → Option (Int × GM)) (t : Nat) (a2 : Nat) (z1 : Int) (z3 : Int) (s0 : Int) (s1 : Int) (μ : GM) : Option (Int × GM) :=
  if s0 = s1 then
    lt (w32 (z3 + 1)) fun x1 =>
    kL91 z1 x1 μ
  else
    some (0 % 2, μ)
set_option maxHeartbeats 4000000 in
set_option maxRecDepth 100000 in
theorem w_X6_fits_169 {G : GX} {u : Int × GM} (C : CX G 1 cX6_fits 5 RX6) (hQ : gQI G (some .boolean) u) {t : Nat} (ht : gRt t) {a2 : Nat} (ha2 : gKT[a2]? = some (2, 36, 0, [])) {kL91 : Int → Int → GM → Option (Int × GM)} (hL91 : ∀ (z1 : Int) (hz1 : r32 z1) (z3 : Int) (hz3 : r32 z3) (μ : GM) (hμ : gRg μ), kL91 z1 z3 μ = some u → WM G 5 μ 91 [(0, gR G t), (1, vI z1), (2, gR G a2), (3, vI z3)] []) {z1 : Int} (hz1 : r32 z1) {z3 : Int} (hz3 : r32 z3) {s0 : Int} (hs0 : r32 s0) {s1 : Int} (hs1 : r32 s1) {μ : GM} (hμ : gRg μ) (h : k_X6_fits_169 kL91 t a2 z1 z3 s0 s1 μ = some u) : WM G 5 μ 169 [(0, gR G t), (1, vI z1), (2, gR G a2), (3, vI z3)] [vI s1, vI s0] := by
  unfold k_X6_fits_169 at h
  refine o_icmp_eq (tgt := 174) C hs0 hs1 dX6_fits_169 (by decide) h (fun _ h => ?_) (fun _ h => ?_)
  · refine o_iinc (lv2 := fun x1 => [(3, vI x1), (0, gR G t), (1, vI z1), (2, gR G a2)]) C 3 dX6_fits_174 rfl (by decide) (fun _ => rfl) h (fun x1 hx1 h => ?_)
    refine o_goto (tgt := 91) C dX6_fits_177 (by decide) ?_
    exact WM.sub [1, 2, 3, 0] rfl (hL91 z1 hz1 x1 hx1 μ hμ h)
  · refine o_iconst C dX6_fits_172 ?_
    exact o_zret C hQ dX6_fits_173 h hμ
def k_X6_fits_149 (kL91 : Int → Int → GM → Option (Int × GM)) (t : Nat) (a2 : Nat) (z1 : Int) (z3 : Int) (s0 : Int) (μ : GM) : Option (Int × GM) :=
  if (gand (gshr z1 (w32 (3 + z3))) 1) = 1 then
    k_X6_fits_169 kL91 t a2 z1 z3 s0 1 μ
  else
    k_X6_fits_169 kL91 t a2 z1 z3 s0 0 μ
set_option maxHeartbeats 4000000 in
set_option maxRecDepth 100000 in
theorem w_X6_fits_149 {G : GX} {u : Int × GM} (C : CX G 1 cX6_fits 5 RX6) (hQ : gQI G (some .boolean) u) {t : Nat} (ht : gRt t) {a2 : Nat} (ha2 : gKT[a2]? = some (2, 36, 0, [])) {kL91 : Int → Int → GM → Option (Int × GM)} (hL91 : ∀ (z1 : Int) (hz1 : r32 z1) (z3 : Int) (hz3 : r32 z3) (μ : GM) (hμ : gRg μ), kL91 z1 z3 μ = some u → WM G 5 μ 91 [(0, gR G t), (1, vI z1), (2, gR G a2), (3, vI z3)] []) {z1 : Int} (hz1 : r32 z1) {z3 : Int} (hz3 : r32 z3) {s0 : Int} (hs0 : r32 s0) {μ : GM} (hμ : gRg μ) (h : k_X6_fits_149 kL91 t a2 z1 z3 s0 μ = some u) : WM G 5 μ 149 [(0, gR G t), (1, vI z1), (2, gR G a2), (3, vI z3)] [vI s0] := by
  unfold k_X6_fits_149 at h
  refine o_istore (lv2 := [(4, vI s0), (0, gR G t), (1, vI z1), (2, gR G a2), (3, vI z3)]) C dX6_fits_149 (by decide) rfl ?_
  refine o_iload C 0 dX6_fits_151 rfl ?_
  refine o_iload_n C 2 dX6_fits_153 rfl rfl ?_
  refine o_iconst C dX6_fits_154 ?_
  refine o_iload_n C 4 dX6_fits_155 rfl rfl ?_
  refine o_iadd C dX6_fits_156 ?_
  refine o_ishr C dX6_fits_157 ?_
  refine o_iconst C dX6_fits_158 ?_
  refine o_iand C dX6_fits_159 ?_
  refine o_iconst C dX6_fits_160 ?_
  refine o_icmp_ne (tgt := 168) C (r32_toInt _) ⟨by decide, by decide⟩ dX6_fits_161 (by decide) h (fun _ h => ?_) (fun _ h => ?_)
  · refine o_iconst C dX6_fits_168 ?_
    exact WM.sub [1, 2, 3, 4] rfl (w_X6_fits_169 C hQ ht ha2 hL91 hz1 hz3 hs0 ⟨by decide, by decide⟩ hμ h)
  · refine o_iconst C dX6_fits_164 ?_
    refine o_goto (tgt := 169) C dX6_fits_165 (by decide) ?_
    exact WM.sub [1, 2, 3, 4] rfl (w_X6_fits_169 C hQ ht ha2 hL91 hz1 hz3 hs0 ⟨by decide, by decide⟩ hμ h)
def k_X6_fits_91 (t : Nat) (a2 : Nat) : Nat → Int → Int → GM → Option (Int × GM)
  | 0, _, _, _ => none
  | n + 1, z1, z3, μ =>
    if z3 < (μ.2 14 0) then
      ck (0 ≤ z3 ∧ z3 < 2) (
      bd (f_X6_solve t a2 (μ.1 15 z3) μ) fun x1 μ2 =>
      ck (0 ≤ z3 ∧ z3 < 2) (
      if (w64 ((μ2.1 16 z3) * (μ2.2 t 7))) < x1 then
        k_X6_fits_149 (k_X6_fits_91 t a2 n) t a2 z1 z3 1 μ2
      else
        k_X6_fits_149 (k_X6_fits_91 t a2 n) t a2 z1 z3 0 μ2))
    else
      k_X6_fits_182 t a2 FU 0 μ
set_option maxHeartbeats 4000000 in
set_option maxRecDepth 100000 in
theorem w_X6_fits_91 {G : GX} {u : Int × GM} (C : CX G 1 cX6_fits 5 RX6) (hQ : gQI G (some .boolean) u) {t : Nat} (ht : gRt t) {a2 : Nat} (ha2 : gKT[a2]? = some (2, 36, 0, [])) : ∀ (n : Nat) (z1 : Int) (hz1 : r32 z1) (z3 : Int) (hz3 : r32 z3) (μ : GM) (hμ : gRg μ), k_X6_fits_91 t a2 n z1 z3 μ = some u → WM G 5 μ 91 [(0, gR G t), (1, vI z1), (2, gR G a2), (3, vI z3)] [] := by
  intro n
  induction n with
  | zero =>
    intro z1 hz1 z3 hz3 μ hμ h
    cases h
  | succ n ih =>
    intro z1 hz1 z3 hz3 μ hμ h
    rw [k_X6_fits_91] at h
    refine o_iload_n C 3 dX6_fits_91 rfl rfl ?_
    refine o_aload_n C 0 dX6_fits_92 rfl rfl ?_
    refine o_getR (j := 0) C (ktR_0 ht) rfl rfl (Nat.le_of_ble_eq_true rfl) lkf_RX6_26 dX6_fits_93 ?_
    refine o_getR (j := 6) C kt_1 rfl rfl (Nat.le_of_ble_eq_true rfl) lkf_RX6_98 dX6_fits_96 ?_
    refine o_getI (j := 0) C kt_14 rfl rfl (Nat.le_of_ble_eq_true rfl) lkf_RX6_102 dX6_fits_99 ?_
    refine o_icmp_ge (tgt := 180) C hz3 (hμ.fi kt_14 rfl (by decide)) dX6_fits_102 (by decide) h (fun _ h => ?_) (fun _ h => ?_)
    · refine o_iconst C dX6_fits_180 ?_
      refine o_istore_n (lv2 := [(3, vI 0), (0, gR G t), (1, vI z1), (2, gR G a2)]) C dX6_fits_181 rfl (by decide) rfl ?_
      exact WM.sub [1, 3, 0] rfl (w_X6_fits_182 C hQ ht ha2 FU 0 ⟨by decide, by decide⟩ μ hμ h)
    · refine o_aload_n C 0 dX6_fits_105 rfl rfl ?_
      refine o_aload_n C 2 dX6_fits_106 rfl rfl ?_
      refine o_aload_n C 0 dX6_fits_107 rfl rfl ?_
      refine o_getR (j := 0) C (ktR_0 ht) rfl rfl (Nat.le_of_ble_eq_true rfl) lkf_RX6_26 dX6_fits_108 ?_
      refine o_getR (j := 6) C kt_1 rfl rfl (Nat.le_of_ble_eq_true rfl) lkf_RX6_98 dX6_fits_111 ?_
      refine o_getR (j := 1) C kt_14 rfl rfl (Nat.le_of_ble_eq_true rfl) lkf_RX6_105 dX6_fits_114 ?_
      refine o_iload_n C 3 dX6_fits_117 rfl rfl ?_
      refine o_iald C kt_15 rfl hz3 dX6_fits_118 h (fun h => ?_)
      refine o_cVL C [gR G a2, vI (μ.1 15 z3)] mb_X6_solve (by decide) (fun _ hu => c_X6_solve ht ha2 (hμ.i kt_15 (by decide) _) hμ hu) rfl (Nat.le_of_ble_eq_true rfl) h mi_X6_solve me_X6_solve lkm_RX6_91 (ktR_0 ht) rfl rfl rfl dX6_fits_119 (fun x1 μ2 hx1 hμ2 h => ?_)
      refine o_aload_n C 0 dX6_fits_122 rfl rfl ?_
      refine o_getR (j := 0) C (ktR_0 ht) rfl rfl (Nat.le_of_ble_eq_true rfl) lkf_RX6_26 dX6_fits_123 ?_
      refine o_getR (j := 6) C kt_1 rfl rfl (Nat.le_of_ble_eq_true rfl) lkf_RX6_98 dX6_fits_126 ?_
      refine o_getR (j := 2) C kt_14 rfl rfl (Nat.le_of_ble_eq_true rfl) lkf_RX6_106 dX6_fits_129 ?_
      refine o_iload_n C 3 dX6_fits_132 rfl rfl ?_
      refine o_iald C kt_16 rfl hz3 dX6_fits_133 h (fun h => ?_)
      refine o_i2l C (hμ2.i kt_16 (by decide) _) dX6_fits_134 ?_
      refine o_aload_n C 0 dX6_fits_135 rfl rfl ?_
      refine o_getJ (j := 7) C (ktR_0 ht) rfl rfl (Nat.le_of_ble_eq_true rfl) lkf_RX6_18 dX6_fits_136 ?_
      refine o_lmul C dX6_fits_139 ?_
      refine o_lcmp_le (tgt := 148) C hx1 (r64_w _) dX6_fits_140 dX6_fits_141 (by decide) h (fun _ h => ?_) (fun _ h => ?_)
      · refine o_iconst C dX6_fits_148 ?_
        exact WM.sub [0, 1, 2, 3] rfl (w_X6_fits_149 C hQ ht ha2 ih hz1 hz3 ⟨by decide, by decide⟩ hμ2 h)
      · refine o_iconst C dX6_fits_144 ?_
        refine o_goto (tgt := 149) C dX6_fits_145 (by decide) ?_
        exact WM.sub [0, 1, 2, 3] rfl (w_X6_fits_149 C hQ ht ha2 ih hz1 hz3 ⟨by decide, by decide⟩ hμ2 h)
def k_X6_fits_78 (kL2 : Int → Int → GM → Option (Int × GM)) (t : Nat) (a2 : Nat) (z1 : Int) (z3 : Int) (s0 : Int) (s1 : Int) (μ : GM) : Option (Int × GM) :=
  if s0 = s1 then
    lt (w32 (z3 + 1)) fun x1 =>
    kL2 z1 x1 μ
  else
    some (0 % 2, μ)
set_option maxHeartbeats 4000000 in
set_option maxRecDepth 100000 in
theorem w_X6_fits_78 {G : GX} {u : Int × GM} (C : CX G 1 cX6_fits 5 RX6) (hQ : gQI G (some .boolean) u) {t : Nat} (ht : gRt t) {a2 : Nat} (ha2 : gKT[a2]? = some (2, 36, 0, [])) {kL2 : Int → Int → GM → Option (Int × GM)} (hL2 : ∀ (z1 : Int) (hz1 : r32 z1) (z3 : Int) (hz3 : r32 z3) (μ : GM) (hμ : gRg μ), kL2 z1 z3 μ = some u → WM G 5 μ 2 [(0, gR G t), (1, vI z1), (2, gR G a2), (3, vI z3)] []) {z1 : Int} (hz1 : r32 z1) {z3 : Int} (hz3 : r32 z3) {s0 : Int} (hs0 : r32 s0) {s1 : Int} (hs1 : r32 s1) {μ : GM} (hμ : gRg μ) (h : k_X6_fits_78 kL2 t a2 z1 z3 s0 s1 μ = some u) : WM G 5 μ 78 [(0, gR G t), (1, vI z1), (2, gR G a2), (3, vI z3)] [vI s1, vI s0] := by
  unfold k_X6_fits_78 at h
  refine o_icmp_eq (tgt := 83) C hs0 hs1 dX6_fits_78 (by decide) h (fun _ h => ?_) (fun _ h => ?_)
  · refine o_iinc (lv2 := fun x1 => [(3, vI x1), (0, gR G t), (1, vI z1), (2, gR G a2)]) C 3 dX6_fits_83 rfl (by decide) (fun _ => rfl) h (fun x1 hx1 h => ?_)
    refine o_goto (tgt := 2) C dX6_fits_86 (by decide) ?_
    exact WM.sub [1, 2, 3, 0] rfl (hL2 z1 hz1 x1 hx1 μ hμ h)
  · refine o_iconst C dX6_fits_81 ?_
    exact o_zret C hQ dX6_fits_82 h hμ
def k_X6_fits_60 (kL2 : Int → Int → GM → Option (Int × GM)) (t : Nat) (a2 : Nat) (z1 : Int) (z3 : Int) (s0 : Int) (μ : GM) : Option (Int × GM) :=
  if (gand (gshr z1 z3) 1) = 1 then
    k_X6_fits_78 kL2 t a2 z1 z3 s0 1 μ
  else
    k_X6_fits_78 kL2 t a2 z1 z3 s0 0 μ
set_option maxHeartbeats 4000000 in
set_option maxRecDepth 100000 in
theorem w_X6_fits_60 {G : GX} {u : Int × GM} (C : CX G 1 cX6_fits 5 RX6) (hQ : gQI G (some .boolean) u) {t : Nat} (ht : gRt t) {a2 : Nat} (ha2 : gKT[a2]? = some (2, 36, 0, [])) {kL2 : Int → Int → GM → Option (Int × GM)} (hL2 : ∀ (z1 : Int) (hz1 : r32 z1) (z3 : Int) (hz3 : r32 z3) (μ : GM) (hμ : gRg μ), kL2 z1 z3 μ = some u → WM G 5 μ 2 [(0, gR G t), (1, vI z1), (2, gR G a2), (3, vI z3)] []) {z1 : Int} (hz1 : r32 z1) {z3 : Int} (hz3 : r32 z3) {s0 : Int} (hs0 : r32 s0) {μ : GM} (hμ : gRg μ) (h : k_X6_fits_60 kL2 t a2 z1 z3 s0 μ = some u) : WM G 5 μ 60 [(0, gR G t), (1, vI z1), (2, gR G a2), (3, vI z3)] [vI s0] := by
  unfold k_X6_fits_60 at h
  refine o_istore (lv2 := [(4, vI s0), (0, gR G t), (1, vI z1), (2, gR G a2), (3, vI z3)]) C dX6_fits_60 (by decide) rfl ?_
  refine o_iload C 0 dX6_fits_62 rfl ?_
  refine o_iload_n C 2 dX6_fits_64 rfl rfl ?_
  refine o_iload_n C 4 dX6_fits_65 rfl rfl ?_
  refine o_ishr C dX6_fits_66 ?_
  refine o_iconst C dX6_fits_67 ?_
  refine o_iand C dX6_fits_68 ?_
  refine o_iconst C dX6_fits_69 ?_
  refine o_icmp_ne (tgt := 77) C (r32_toInt _) ⟨by decide, by decide⟩ dX6_fits_70 (by decide) h (fun _ h => ?_) (fun _ h => ?_)
  · refine o_iconst C dX6_fits_77 ?_
    exact WM.sub [1, 2, 3, 4] rfl (w_X6_fits_78 C hQ ht ha2 hL2 hz1 hz3 hs0 ⟨by decide, by decide⟩ hμ h)
  · refine o_iconst C dX6_fits_73 ?_
    refine o_goto (tgt := 78) C dX6_fits_74 (by decide) ?_
    exact WM.sub [1, 2, 3, 4] rfl (w_X6_fits_78 C hQ ht ha2 hL2 hz1 hz3 hs0 ⟨by decide, by decide⟩ hμ h)
def k_X6_fits_2 (t : Nat) (a2 : Nat) : Nat → Int → Int → GM → Option (Int × GM)
  | 0, _, _, _ => none
  | n + 1, z1, z3, μ =>
    if z3 < (μ.2 9 0) then
      ck (0 ≤ z3 ∧ z3 < 3) (
      bd (f_X6_solve t a2 (μ.1 10 z3) μ) fun x1 μ2 =>
      ck (0 ≤ z3 ∧ z3 < 3) (
      if x1 < (w64 ((μ2.1 12 z3) * (μ2.2 t 7))) then
        k_X6_fits_60 (k_X6_fits_2 t a2 n) t a2 z1 z3 0 μ2
      else
        k_X6_fits_60 (k_X6_fits_2 t a2 n) t a2 z1 z3 1 μ2))
    else
      k_X6_fits_91 t a2 FU z1 0 μ
set_option maxHeartbeats 4000000 in
set_option maxRecDepth 100000 in
theorem w_X6_fits_2 {G : GX} {u : Int × GM} (C : CX G 1 cX6_fits 5 RX6) (hQ : gQI G (some .boolean) u) {t : Nat} (ht : gRt t) {a2 : Nat} (ha2 : gKT[a2]? = some (2, 36, 0, [])) : ∀ (n : Nat) (z1 : Int) (hz1 : r32 z1) (z3 : Int) (hz3 : r32 z3) (μ : GM) (hμ : gRg μ), k_X6_fits_2 t a2 n z1 z3 μ = some u → WM G 5 μ 2 [(0, gR G t), (1, vI z1), (2, gR G a2), (3, vI z3)] [] := by
  intro n
  induction n with
  | zero =>
    intro z1 hz1 z3 hz3 μ hμ h
    cases h
  | succ n ih =>
    intro z1 hz1 z3 hz3 μ hμ h
    rw [k_X6_fits_2] at h
    refine o_iload_n C 3 dX6_fits_2 rfl rfl ?_
    refine o_aload_n C 0 dX6_fits_3 rfl rfl ?_
    refine o_getR (j := 0) C (ktR_0 ht) rfl rfl (Nat.le_of_ble_eq_true rfl) lkf_RX6_26 dX6_fits_4 ?_
    refine o_getR (j := 5) C kt_1 rfl rfl (Nat.le_of_ble_eq_true rfl) lkf_RX6_79 dX6_fits_7 ?_
    refine o_getI (j := 0) C kt_9 rfl rfl (Nat.le_of_ble_eq_true rfl) lkf_RX6_83 dX6_fits_10 ?_
    refine o_icmp_ge (tgt := 89) C hz3 (hμ.fi kt_9 rfl (by decide)) dX6_fits_13 (by decide) h (fun _ h => ?_) (fun _ h => ?_)
    · refine o_iconst C dX6_fits_89 ?_
      refine o_istore_n (lv2 := [(3, vI 0), (0, gR G t), (1, vI z1), (2, gR G a2)]) C dX6_fits_90 rfl (by decide) rfl ?_
      exact WM.sub [1, 2, 3, 0] rfl (w_X6_fits_91 C hQ ht ha2 FU z1 hz1 0 ⟨by decide, by decide⟩ μ hμ h)
    · refine o_aload_n C 0 dX6_fits_16 rfl rfl ?_
      refine o_aload_n C 2 dX6_fits_17 rfl rfl ?_
      refine o_aload_n C 0 dX6_fits_18 rfl rfl ?_
      refine o_getR (j := 0) C (ktR_0 ht) rfl rfl (Nat.le_of_ble_eq_true rfl) lkf_RX6_26 dX6_fits_19 ?_
      refine o_getR (j := 5) C kt_1 rfl rfl (Nat.le_of_ble_eq_true rfl) lkf_RX6_79 dX6_fits_22 ?_
      refine o_getR (j := 1) C kt_9 rfl rfl (Nat.le_of_ble_eq_true rfl) lkf_RX6_88 dX6_fits_25 ?_
      refine o_iload_n C 3 dX6_fits_28 rfl rfl ?_
      refine o_iald C kt_10 rfl hz3 dX6_fits_29 h (fun h => ?_)
      refine o_cVL C [gR G a2, vI (μ.1 10 z3)] mb_X6_solve (by decide) (fun _ hu => c_X6_solve ht ha2 (hμ.i kt_10 (by decide) _) hμ hu) rfl (Nat.le_of_ble_eq_true rfl) h mi_X6_solve me_X6_solve lkm_RX6_91 (ktR_0 ht) rfl rfl rfl dX6_fits_30 (fun x1 μ2 hx1 hμ2 h => ?_)
      refine o_aload_n C 0 dX6_fits_33 rfl rfl ?_
      refine o_getR (j := 0) C (ktR_0 ht) rfl rfl (Nat.le_of_ble_eq_true rfl) lkf_RX6_26 dX6_fits_34 ?_
      refine o_getR (j := 5) C kt_1 rfl rfl (Nat.le_of_ble_eq_true rfl) lkf_RX6_79 dX6_fits_37 ?_
      refine o_getR (j := 3) C kt_9 rfl rfl (Nat.le_of_ble_eq_true rfl) lkf_RX6_95 dX6_fits_40 ?_
      refine o_iload_n C 3 dX6_fits_43 rfl rfl ?_
      refine o_iald C kt_12 rfl hz3 dX6_fits_44 h (fun h => ?_)
      refine o_i2l C (hμ2.i kt_12 (by decide) _) dX6_fits_45 ?_
      refine o_aload_n C 0 dX6_fits_46 rfl rfl ?_
      refine o_getJ (j := 7) C (ktR_0 ht) rfl rfl (Nat.le_of_ble_eq_true rfl) lkf_RX6_18 dX6_fits_47 ?_
      refine o_lmul C dX6_fits_50 ?_
      refine o_lcmp_lt (tgt := 59) C hx1 (r64_w _) dX6_fits_51 dX6_fits_52 (by decide) h (fun _ h => ?_) (fun _ h => ?_)
      · refine o_iconst C dX6_fits_59 ?_
        exact WM.sub [0, 1, 2, 3] rfl (w_X6_fits_60 C hQ ht ha2 ih hz1 hz3 ⟨by decide, by decide⟩ hμ2 h)
      · refine o_iconst C dX6_fits_55 ?_
        refine o_goto (tgt := 60) C dX6_fits_56 (by decide) ?_
        exact WM.sub [0, 1, 2, 3] rfl (w_X6_fits_60 C hQ ht ha2 ih hz1 hz3 ⟨by decide, by decide⟩ hμ2 h)
def f_X6_fits (t : Nat) (a2 : Nat) (z1 : Int) (μ : GM) : Option (Int × GM) :=
  k_X6_fits_2 t a2 FU z1 0 μ
set_option maxHeartbeats 4000000 in
set_option maxRecDepth 100000 in
theorem w_X6_fits_0 {G : GX} {u : Int × GM} (C : CX G 1 cX6_fits 5 RX6) (hQ : gQI G (some .boolean) u) {t : Nat} (ht : gRt t) {a2 : Nat} (ha2 : gKT[a2]? = some (2, 36, 0, [])) {z1 : Int} (hz1 : r32 z1) {μ : GM} (hμ : gRg μ) (h : f_X6_fits t a2 z1 μ = some u) : WM G 5 μ 0 [(0, gR G t), (1, vI z1), (2, gR G a2)] [] := by
  unfold f_X6_fits at h
  refine o_iconst C dX6_fits_0 ?_
  refine o_istore_n (lv2 := [(3, vI 0), (0, gR G t), (1, vI z1), (2, gR G a2)]) C dX6_fits_1 rfl (by decide) rfl ?_
  exact WM.sub [1, 2, 3, 0] rfl (w_X6_fits_2 C hQ ht ha2 FU z1 hz1 0 ⟨by decide, by decide⟩ μ hμ h)
theorem c_X6_fits {t : Nat} (ht : gRt t) {a2 : Nat} (ha2 : gKT[a2]? = some (2, 36, 0, [])) {z1 : Int} (hz1 : r32 z1) {μ : GM} (hμ : gRg μ) {u : Int × GM} (h : f_X6_fits t a2 z1 μ = some u) : MtI 1 yX6_fits cX6_fits 5 (some .boolean) (fun ad => [.ref (ad t), vI z1, .ref (ad a2)]) μ u := MtI.of pf_X6_fits (fun _ => Nat.le_of_ble_eq_true rfl) (fun G C hQ => w_X6_fits_0 C hQ ht ha2 hz1 hμ h)
def k_X6_settle_90 (kL36 : Int → Int → Int → GM → Option (Int × GM)) (t : Nat) (a1 : Nat) (z2 : Int) (z3 : Int) (z4 : Int) (z5 : Int) (z6 : Int) (μ : GM) : Option (Int × GM) :=
  ck (0 ≤ z6 ∧ z6 < (gSl t : Int)) (
  if (μ.1 (t + 3) z6) = 0 then
    lt (w32 (z4 + 1)) fun x9 =>
    kL36 z2 z3 x9 μ
  else
    ck (0 ≤ z6 ∧ z6 < (gSl t : Int)) (
    lm (gF μ t 7 (μ.1 (t + 3) z6)) fun μ1 =>
    bd (f_X6_gatherSources t a1 z5 μ1) fun _x2 μ3 =>
    ck (0 ≤ z6 ∧ z6 < (gSl t : Int)) (
    bd (f_X6_fits t ((t + 6) + Int.toNat z6) z5 μ3) fun x5 μ6 =>
    if x5 = 0 then
      lt (w32 (z4 + 1)) fun x7 =>
      kL36 z2 z3 x7 μ6
    else
      lm (gF μ6 t 8 z5) fun μ8 =>
      some (1 % 2, μ8))))
set_option maxHeartbeats 4000000 in
set_option maxRecDepth 100000 in
theorem w_X6_settle_90 {G : GX} {u : Int × GM} (C : CX G 3 cX6_settle 7 RX6) (hQ : gQI G (some .boolean) u) {t : Nat} (ht : gRt t) {a1 : Nat} (ha1 : gKT[a1]? = some (0, 3, 0, [])) {kL36 : Int → Int → Int → GM → Option (Int × GM)} (hL36 : ∀ (z2 : Int) (hz2 : r32 z2) (z3 : Int) (hz3 : r32 z3) (z4 : Int) (hz4 : r32 z4) (μ : GM) (hμ : gRg μ), kL36 z2 z3 z4 μ = some u → WM G 7 μ 36 [(0, gR G t), (1, gR G a1), (2, vI z2), (3, vI z3), (4, vI z4)] []) {z2 : Int} (hz2 : r32 z2) {z3 : Int} (hz3 : r32 z3) {z4 : Int} (hz4 : r32 z4) {z5 : Int} (hz5 : r32 z5) {z6 : Int} (hz6 : r32 z6) {μ : GM} (hμ : gRg μ) (h : k_X6_settle_90 kL36 t a1 z2 z3 z4 z5 z6 μ = some u) : WM G 7 μ 90 [(0, gR G t), (1, gR G a1), (2, vI z2), (3, vI z3), (4, vI z4), (5, vI z5), (6, vI z6)] [] := by
  unfold k_X6_settle_90 at h
  refine o_aload_n C 0 dX6_settle_90 rfl rfl ?_
  refine o_getR (j := 4) C (ktR_0 ht) rfl rfl (Nat.le_of_ble_eq_true rfl) lkf_RX6_48 dX6_settle_91 ?_
  refine o_iload C 6 dX6_settle_94 rfl ?_
  refine o_lald C (ktR_3 ht) rfl hz6 dX6_settle_96 h (fun h => ?_)
  refine o_lconst (v := 0) C dX6_settle_97 rfl ?_
  refine o_lcmp_ne (tgt := 105) C (hμ.l (ktR_3 ht) _) ⟨by decide, by decide⟩ dX6_settle_98 dX6_settle_99 (by decide) h (fun _ h => ?_) (fun _ h => ?_)
  · refine o_aload_n C 0 dX6_settle_105 rfl rfl ?_
    refine o_aload_n C 0 dX6_settle_106 rfl rfl ?_
    refine o_getR (j := 4) C (ktR_0 ht) rfl rfl (Nat.le_of_ble_eq_true rfl) lkf_RX6_48 dX6_settle_107 ?_
    refine o_iload C 6 dX6_settle_110 rfl ?_
    refine o_lald C (ktR_3 ht) rfl hz6 dX6_settle_112 h (fun h => ?_)
    refine o_putJ (j := 7) C (ktR_0 ht) rfl rfl tyX6_ok nmX6 (Nat.le_of_ble_eq_true rfl) lkf_RX6_18 rfl rfl (hμ.l (ktR_3 ht) _) hμ dX6_settle_113 h (fun μ1 hμ1 h => ?_)
    refine o_aload_n C 0 dX6_settle_116 rfl rfl ?_
    refine o_iload C 5 dX6_settle_117 rfl ?_
    refine o_aload_n C 1 dX6_settle_119 rfl rfl ?_
    refine o_cVV C [vI z5, gR G a1] mb_X6_gatherSources (by decide) (fun _ hu => c_X6_gatherSources ht ha1 hz5 hμ1 hu) rfl (Nat.le_of_ble_eq_true rfl) h mi_X6_gatherSources me_X6_gatherSources lkm_RX6_71 (ktR_0 ht) rfl rfl rfl dX6_settle_120 (fun _x2 μ3 hμ3 h => ?_)
    refine o_aload_n C 0 dX6_settle_123 rfl rfl ?_
    refine o_iload C 5 dX6_settle_124 rfl ?_
    refine o_aload_n C 0 dX6_settle_126 rfl rfl ?_
    refine o_getR (j := 3) C (ktR_0 ht) rfl rfl (Nat.le_of_ble_eq_true rfl) lkf_RX6_45 dX6_settle_127 ?_
    refine o_iload C 6 dX6_settle_130 rfl ?_
    refine o_aald4 C (ktR_2 ht) rfl hz6 dX6_settle_132 h (fun hb4 h => ?_)
    refine o_cVI C [vI z5, gR G ((t + 6) + Int.toNat z6)] mb_X6_fits (by decide) (fun _ hu => c_X6_fits ht (ktR_row ht rfl hb4) hz5 hμ3 hu) rfl (Nat.le_of_ble_eq_true rfl) h mi_X6_fits me_X6_fits lkm_RX6_75 (ktR_0 ht) rfl rfl rfl dX6_settle_133 (fun x5 μ6 hx5 hμ6 h => ?_)
    refine o_if_eq (tgt := 147) C hx5 dX6_settle_136 (by decide) h (fun _ h => ?_) (fun _ h => ?_)
    · refine o_iinc (lv2 := fun x7 => [(4, vI x7), (0, gR G t), (1, gR G a1), (2, vI z2), (3, vI z3), (5, vI z5), (6, vI z6)]) C 4 dX6_settle_147 rfl (by decide) (fun _ => rfl) h (fun x7 hx7 h => ?_)
      refine o_goto (tgt := 36) C dX6_settle_150 (by decide) ?_
      exact WM.sub [1, 2, 3, 4, 0] rfl (hL36 z2 hz2 z3 hz3 x7 hx7 μ6 hμ6 h)
    · refine o_aload_n C 0 dX6_settle_139 rfl rfl ?_
      refine o_iload C 5 dX6_settle_140 rfl ?_
      refine o_putI (j := 8) C (ktR_0 ht) rfl rfl tyX6_ok nmX6 (Nat.le_of_ble_eq_true rfl) lkf_RX6_22 rfl rfl hz5 hμ6 dX6_settle_142 h (fun μ8 hμ8 h => ?_)
      refine o_iconst C dX6_settle_145 ?_
      exact o_zret C hQ dX6_settle_146 h hμ8
  · refine o_goto (tgt := 147) C dX6_settle_102 (by decide) ?_
    refine o_iinc (lv2 := fun x9 => [(4, vI x9), (0, gR G t), (1, gR G a1), (2, vI z2), (3, vI z3), (5, vI z5), (6, vI z6)]) C 4 dX6_settle_147 rfl (by decide) (fun _ => rfl) h (fun x9 hx9 h => ?_)
    refine o_goto (tgt := 36) C dX6_settle_150 (by decide) ?_
    exact WM.sub [1, 2, 3, 4, 0] rfl (hL36 z2 hz2 z3 hz3 x9 hx9 μ hμ h)
def k_X6_settle_36 (t : Nat) (a1 : Nat) : Nat → Int → Int → Int → GM → Option (Int × GM)
  | 0, _, _, _, _ => none
  | n + 1, z2, z3, z4, μ =>
    if z4 < 32 then
      if (gand z4 (gxor z2 (-1))) = 0 then
        lt (gxor z3 z4) fun x1 =>
        ck ((μ.2 t 1) ≠ 0) (
        lt (Int.tmod x1 (μ.2 t 1)) fun x2 =>
        ck (0 ≤ x2 ∧ x2 < (gSl t : Int)) (
        if (μ.1 (t + 1) x2) = x1 then
          k_X6_settle_90 (k_X6_settle_36 t a1 n) t a1 z2 z3 z4 x1 x2 μ
        else
          bd (f_X6_invert t x1 x2 μ) fun _x3 μ4 =>
          k_X6_settle_90 (k_X6_settle_36 t a1 n) t a1 z2 z3 z4 x1 x2 μ4))
      else
        lt (w32 (z4 + 1)) fun x5 =>
        k_X6_settle_36 t a1 n z2 z3 x5 μ
    else
      some (0 % 2, μ)
set_option maxHeartbeats 4000000 in
set_option maxRecDepth 100000 in
theorem w_X6_settle_36 {G : GX} {u : Int × GM} (C : CX G 3 cX6_settle 7 RX6) (hQ : gQI G (some .boolean) u) {t : Nat} (ht : gRt t) {a1 : Nat} (ha1 : gKT[a1]? = some (0, 3, 0, [])) : ∀ (n : Nat) (z2 : Int) (hz2 : r32 z2) (z3 : Int) (hz3 : r32 z3) (z4 : Int) (hz4 : r32 z4) (μ : GM) (hμ : gRg μ), k_X6_settle_36 t a1 n z2 z3 z4 μ = some u → WM G 7 μ 36 [(0, gR G t), (1, gR G a1), (2, vI z2), (3, vI z3), (4, vI z4)] [] := by
  intro n
  induction n with
  | zero =>
    intro z2 hz2 z3 hz3 z4 hz4 μ hμ h
    cases h
  | succ n ih =>
    intro z2 hz2 z3 hz3 z4 hz4 μ hμ h
    rw [k_X6_settle_36] at h
    refine o_iload C 4 dX6_settle_36 rfl ?_
    refine o_bipush (v := 32) C dX6_settle_38 (by decide) ?_
    refine o_icmp_ge (tgt := 153) C hz4 ⟨by decide, by decide⟩ dX6_settle_40 (by decide) h (fun _ h => ?_) (fun _ h => ?_)
    · refine o_iconst C dX6_settle_153 ?_
      exact o_zret C hQ dX6_settle_154 h hμ
    · refine o_iload C 4 dX6_settle_43 rfl ?_
      refine o_iload_n C 2 dX6_settle_45 rfl rfl ?_
      refine o_iconst C dX6_settle_46 ?_
      refine o_ixor C dX6_settle_47 ?_
      refine o_iand C dX6_settle_48 ?_
      refine o_if_eq (tgt := 55) C (r32_toInt _) dX6_settle_49 (by decide) h (fun _ h => ?_) (fun _ h => ?_)
      · refine o_iload_n C 3 dX6_settle_55 rfl rfl ?_
        refine o_iload C 4 dX6_settle_56 rfl ?_
        refine o_ixor C dX6_settle_58 ?_
        refine o_lt h (r32_toInt _) (fun x1 hx1 h => ?_)
        refine o_istore (lv2 := [(5, vI x1), (0, gR G t), (1, gR G a1), (2, vI z2), (3, vI z3), (4, vI z4)]) C dX6_settle_59 (by decide) rfl ?_
        refine o_iload C 0 dX6_settle_61 rfl ?_
        refine o_aload_n C 1 dX6_settle_63 rfl rfl ?_
        refine o_getI (j := 1) C (ktR_0 ht) rfl rfl (Nat.le_of_ble_eq_true rfl) lkf_RX6_36 dX6_settle_64 ?_
        refine o_irem C hx1 (hμ.fi (ktR_0 ht) rfl (by decide)) dX6_settle_67 h (fun h => ?_)
        refine o_lt h (r32_rem _ hx1) (fun x2 hx2 h => ?_)
        refine o_istore (lv2 := [(6, vI x2), (5, vI x1), (0, gR G t), (1, gR G a1), (2, vI z2), (3, vI z3), (4, vI z4)]) C dX6_settle_68 (by decide) rfl ?_
        refine o_aload_n C 2 dX6_settle_70 rfl rfl ?_
        refine o_getR (j := 2) C (ktR_0 ht) rfl rfl (Nat.le_of_ble_eq_true rfl) lkf_RX6_39 dX6_settle_71 ?_
        refine o_iload C 0 dX6_settle_74 rfl ?_
        refine o_iald C (ktR_1 ht) rfl hx2 dX6_settle_76 h (fun h => ?_)
        refine o_iload C 1 dX6_settle_77 rfl ?_
        refine o_icmp_eq (tgt := 90) C (hμ.i (ktR_1 ht) (by decide) _) hx1 dX6_settle_79 (by decide) h (fun _ h => ?_) (fun _ h => ?_)
        · exact WM.sub [2, 3, 4, 5, 6, 1, 0] rfl (w_X6_settle_90 C hQ ht ha1 ih hz2 hz3 hz4 hx1 hx2 hμ h)
        · refine o_aload_n C 2 dX6_settle_82 rfl rfl ?_
          refine o_iload C 1 dX6_settle_83 rfl ?_
          refine o_iload C 0 dX6_settle_85 rfl ?_
          refine o_cVV C [vI x1, vI x2] mb_X6_invert (by decide) (fun _ hu => c_X6_invert ht hx1 hx2 hμ hu) rfl (Nat.le_of_ble_eq_true rfl) h mi_X6_invert me_X6_invert lkm_RX6_67 (ktR_0 ht) rfl rfl rfl dX6_settle_87 (fun _x3 μ4 hμ4 h => ?_)
          exact WM.sub [2, 3, 4, 5, 6, 1, 0] rfl (w_X6_settle_90 C hQ ht ha1 ih hz2 hz3 hz4 hx1 hx2 hμ4 h)
      · refine o_goto (tgt := 147) C dX6_settle_52 (by decide) ?_
        refine o_iinc (lv2 := fun x5 => [(4, vI x5), (0, gR G t), (1, gR G a1), (2, vI z2), (3, vI z3)]) C 4 dX6_settle_147 rfl (by decide) (fun _ => rfl) h (fun x5 hx5 h => ?_)
        refine o_goto (tgt := 36) C dX6_settle_150 (by decide) ?_
        exact WM.sub [1, 2, 3, 4, 0] rfl (ih z2 hz2 z3 hz3 x5 hx5 μ hμ h)
def f_X6_settle (t : Nat) (a1 : Nat) (μ : GM) : Option (Int × GM) :=
  if (μ.2 1 0) = 0 then
    some (0 % 2, μ)
  else
    if (μ.2 t 1) < 1 then
      some (0 % 2, μ)
    else
      bd (f_X2_patternBits μ) fun x1 μ2 =>
      lt (μ2.2 t 8) fun x3 =>
      k_X6_settle_36 t a1 FU x1 x3 0 μ2
set_option maxHeartbeats 4000000 in
set_option maxRecDepth 100000 in
theorem w_X6_settle_0 {G : GX} {u : Int × GM} (C : CX G 3 cX6_settle 7 RX6) (hQ : gQI G (some .boolean) u) {t : Nat} (ht : gRt t) {a1 : Nat} (ha1 : gKT[a1]? = some (0, 3, 0, [])) {μ : GM} (hμ : gRg μ) (h : f_X6_settle t a1 μ = some u) : WM G 7 μ 0 [(0, gR G t), (1, gR G a1)] [] := by
  unfold f_X6_settle at h
  refine o_aload_n C 0 dX6_settle_0 rfl rfl ?_
  refine o_getR (j := 0) C (ktR_0 ht) rfl rfl (Nat.le_of_ble_eq_true rfl) lkf_RX6_26 dX6_settle_1 ?_
  refine o_getI (j := 0) C kt_1 rfl rfl (Nat.le_of_ble_eq_true rfl) lkf_RX6_58 dX6_settle_4 ?_
  refine o_if_eq (tgt := 18) C (hμ.fi kt_1 rfl (by decide)) dX6_settle_7 (by decide) h (fun _ h => ?_) (fun _ h => ?_)
  · refine o_iconst C dX6_settle_18 ?_
    exact o_zret C hQ dX6_settle_19 h hμ
  · refine o_aload_n C 0 dX6_settle_10 rfl rfl ?_
    refine o_getI (j := 1) C (ktR_0 ht) rfl rfl (Nat.le_of_ble_eq_true rfl) lkf_RX6_36 dX6_settle_11 ?_
    refine o_iconst C dX6_settle_14 ?_
    refine o_icmp_ge (tgt := 20) C (hμ.fi (ktR_0 ht) rfl (by decide)) ⟨by decide, by decide⟩ dX6_settle_15 (by decide) h (fun _ h => ?_) (fun _ h => ?_)
    · refine o_aload_n C 0 dX6_settle_20 rfl rfl ?_
      refine o_getR (j := 0) C (ktR_0 ht) rfl rfl (Nat.le_of_ble_eq_true rfl) lkf_RX6_26 dX6_settle_21 ?_
      refine o_cVI C [] mb_X2_patternBits (by decide) (fun _ hu => c_X2_patternBits hμ hu) rfl (Nat.le_of_ble_eq_true rfl) h mi_X2_patternBits me_X2_patternBits lkm_RX6_63 kt_1 rfl rfl rfl dX6_settle_24 (fun x1 μ2 hx1 hμ2 h => ?_)
      refine o_istore_n (lv2 := [(2, vI x1), (0, gR G t), (1, gR G a1)]) C dX6_settle_27 rfl (by decide) rfl ?_
      refine o_aload_n C 1 dX6_settle_28 rfl rfl ?_
      refine o_getI (j := 8) C (ktR_0 ht) rfl rfl (Nat.le_of_ble_eq_true rfl) lkf_RX6_22 dX6_settle_29 ?_
      refine o_lt h (hμ2.fi (ktR_0 ht) rfl (by decide)) (fun x3 hx3 h => ?_)
      refine o_istore_n (lv2 := [(3, vI x3), (2, vI x1), (0, gR G t), (1, gR G a1)]) C dX6_settle_32 rfl (by decide) rfl ?_
      refine o_iconst C dX6_settle_33 ?_
      refine o_istore (lv2 := [(4, vI 0), (3, vI x3), (2, vI x1), (0, gR G t), (1, gR G a1)]) C dX6_settle_34 (by decide) rfl ?_
      exact WM.sub [3, 4, 2, 1, 0] rfl (w_X6_settle_36 C hQ ht ha1 FU x1 hx1 x3 hx3 0 ⟨by decide, by decide⟩ μ2 hμ2 h)
    · refine o_iconst C dX6_settle_18 ?_
      exact o_zret C hQ dX6_settle_19 h hμ
theorem c_X6_settle {t : Nat} (ht : gRt t) {a1 : Nat} (ha1 : gKT[a1]? = some (0, 3, 0, [])) {μ : GM} (hμ : gRg μ) {u : Int × GM} (h : f_X6_settle t a1 μ = some u) : MtI 3 yX6_settle cX6_settle 7 (some .boolean) (fun ad => [.ref (ad t), .ref (ad a1)]) μ u := MtI.of pf_X6_settle (fun _ => Nat.le_of_ble_eq_true rfl) (fun G C hQ => w_X6_settle_0 C hQ ht ha1 hμ h)
def f_X6_linkTop (t : Nat) (z1 : Int) (μ : GM) : Option (Int × GM) :=
  ck (0 ≤ z1 ∧ z1 < 12) (
  ck (0 ≤ z1 ∧ z1 < 12) (
  ck (0 ≤ (μ.1 6 z1) ∧ (μ.1 6 z1) < 6) (
  ck (0 ≤ z1 ∧ z1 < 12) (
  ck (0 ≤ (μ.1 7 z1) ∧ (μ.1 7 z1) < 6) (
  some ((w64 ((μ.1 8 z1) * (w64 ((μ.1 (t + 5) (μ.1 6 z1)) - (μ.1 (t + 5) (μ.1 7 z1)))))), μ))))))
set_option maxHeartbeats 4000000 in
set_option maxRecDepth 100000 in
theorem w_X6_linkTop_0 {G : GX} {u : Int × GM} (C : CX G 0 cX6_linkTop 2 RX6) (hQ : gQL G (some .long) u) {t : Nat} (ht : gRt t) {z1 : Int} (hz1 : r32 z1) {μ : GM} (hμ : gRg μ) (h : f_X6_linkTop t z1 μ = some u) : WM G 2 μ 0 [(0, gR G t), (1, vI z1)] [] := by
  unfold f_X6_linkTop at h
  refine o_aload_n C 0 dX6_linkTop_0 rfl rfl ?_
  refine o_getR (j := 0) C (ktR_0 ht) rfl rfl (Nat.le_of_ble_eq_true rfl) lkf_RX6_26 dX6_linkTop_1 ?_
  refine o_getR (j := 4) C kt_1 rfl rfl (Nat.le_of_ble_eq_true rfl) lkf_RX6_138 dX6_linkTop_4 ?_
  refine o_getR (j := 3) C kt_5 rfl rfl (Nat.le_of_ble_eq_true rfl) lkf_RX6_151 dX6_linkTop_7 ?_
  refine o_iload_n C 1 dX6_linkTop_10 rfl rfl ?_
  refine o_iald C kt_8 rfl hz1 dX6_linkTop_11 h (fun h => ?_)
  refine o_i2l C (hμ.i kt_8 (by decide) _) dX6_linkTop_12 ?_
  refine o_aload_n C 0 dX6_linkTop_13 rfl rfl ?_
  refine o_getR (j := 6) C (ktR_0 ht) rfl rfl (Nat.le_of_ble_eq_true rfl) lkf_RX6_15 dX6_linkTop_14 ?_
  refine o_aload_n C 0 dX6_linkTop_17 rfl rfl ?_
  refine o_getR (j := 0) C (ktR_0 ht) rfl rfl (Nat.le_of_ble_eq_true rfl) lkf_RX6_26 dX6_linkTop_18 ?_
  refine o_getR (j := 4) C kt_1 rfl rfl (Nat.le_of_ble_eq_true rfl) lkf_RX6_138 dX6_linkTop_21 ?_
  refine o_getR (j := 1) C kt_5 rfl rfl (Nat.le_of_ble_eq_true rfl) lkf_RX6_145 dX6_linkTop_24 ?_
  refine o_iload_n C 1 dX6_linkTop_27 rfl rfl ?_
  refine o_iald C kt_6 rfl hz1 dX6_linkTop_28 h (fun h => ?_)
  refine o_lald C (ktR_5 ht) rfl (hμ.i kt_6 (by decide) _) dX6_linkTop_29 h (fun h => ?_)
  refine o_aload_n C 0 dX6_linkTop_30 rfl rfl ?_
  refine o_getR (j := 6) C (ktR_0 ht) rfl rfl (Nat.le_of_ble_eq_true rfl) lkf_RX6_15 dX6_linkTop_31 ?_
  refine o_aload_n C 0 dX6_linkTop_34 rfl rfl ?_
  refine o_getR (j := 0) C (ktR_0 ht) rfl rfl (Nat.le_of_ble_eq_true rfl) lkf_RX6_26 dX6_linkTop_35 ?_
  refine o_getR (j := 4) C kt_1 rfl rfl (Nat.le_of_ble_eq_true rfl) lkf_RX6_138 dX6_linkTop_38 ?_
  refine o_getR (j := 2) C kt_5 rfl rfl (Nat.le_of_ble_eq_true rfl) lkf_RX6_148 dX6_linkTop_41 ?_
  refine o_iload_n C 1 dX6_linkTop_44 rfl rfl ?_
  refine o_iald C kt_7 rfl hz1 dX6_linkTop_45 h (fun h => ?_)
  refine o_lald C (ktR_5 ht) rfl (hμ.i kt_7 (by decide) _) dX6_linkTop_46 h (fun h => ?_)
  refine o_lsub C dX6_linkTop_47 ?_
  refine o_lmul C dX6_linkTop_48 ?_
  exact o_lret C hQ dX6_linkTop_49 h (r64_w _) hμ
theorem c_X6_linkTop {t : Nat} (ht : gRt t) {z1 : Int} (hz1 : r32 z1) {μ : GM} (hμ : gRg μ) {u : Int × GM} (h : f_X6_linkTop t z1 μ = some u) : MtL 0 yX6_linkTop cX6_linkTop 2 (some .long) (fun ad => [.ref (ad t), vI z1]) μ u := MtL.of pf_X6_linkTop (fun _ => Nat.le_of_ble_eq_true rfl) (fun G C hQ => w_X6_linkTop_0 C hQ ht hz1 hμ h)
def k_X6_riverTop_56 (t : Nat) (z1 : Int) (s0 : Int) (μ : GM) : Option (Int × GM) :=
  ck (0 ≤ z1 ∧ z1 < 3) (
  ck (0 ≤ z1 ∧ z1 < 3) (
  some ((w64 ((μ.1 13 z1) * (w64 ((w64 ((μ.1 11 z1) * (μ.2 t 7))) - s0)))), μ)))
set_option maxHeartbeats 4000000 in
set_option maxRecDepth 100000 in
theorem w_X6_riverTop_56 {G : GX} {u : Int × GM} (C : CX G 0 cX6_riverTop 6 RX6) (hQ : gQL G (some .long) u) {t : Nat} (ht : gRt t) {z1 : Int} (hz1 : r32 z1) {s0 : Int} (hs0 : r64 s0) {μ : GM} (hμ : gRg μ) (h : k_X6_riverTop_56 t z1 s0 μ = some u) : WM G 6 μ 56 [(0, gR G t), (1, vI z1), (2, gR G 9)] [vJ s0] := by
  unfold k_X6_riverTop_56 at h
  refine o_lstore (lv2 := [(4, vJ s0), (0, gR G t), (1, vI z1), (2, gR G 9)]) C dX6_riverTop_56 (by decide) rfl ?_
  refine o_aload_n C 3 dX6_riverTop_58 rfl rfl ?_
  refine o_getR (j := 4) C kt_9 rfl rfl (Nat.le_of_ble_eq_true rfl) lkf_RX6_115 dX6_riverTop_59 ?_
  refine o_iload_n C 2 dX6_riverTop_62 rfl rfl ?_
  refine o_iald C kt_13 rfl hz1 dX6_riverTop_63 h (fun h => ?_)
  refine o_i2l C (hμ.i kt_13 (by decide) _) dX6_riverTop_64 ?_
  refine o_aload_n C 3 dX6_riverTop_65 rfl rfl ?_
  refine o_getR (j := 2) C kt_9 rfl rfl (Nat.le_of_ble_eq_true rfl) lkf_RX6_112 dX6_riverTop_66 ?_
  refine o_iload_n C 2 dX6_riverTop_69 rfl rfl ?_
  refine o_iald C kt_11 rfl hz1 dX6_riverTop_70 h (fun h => ?_)
  refine o_i2l C (hμ.i kt_11 (by decide) _) dX6_riverTop_71 ?_
  refine o_aload_n C 1 dX6_riverTop_72 rfl rfl ?_
  refine o_getJ (j := 7) C (ktR_0 ht) rfl rfl (Nat.le_of_ble_eq_true rfl) lkf_RX6_18 dX6_riverTop_73 ?_
  refine o_lmul C dX6_riverTop_76 ?_
  refine o_lload C 0 dX6_riverTop_77 rfl ?_
  refine o_lsub C dX6_riverTop_79 ?_
  refine o_lmul C dX6_riverTop_80 ?_
  exact o_lret C hQ dX6_riverTop_81 h (r64_w _) hμ
def k_X6_riverTop_25 (t : Nat) (z1 : Int) (s0 : Int) (μ : GM) : Option (Int × GM) :=
  if s0 = 0 then
    ck (0 ≤ z1 ∧ z1 < 3) (
    k_X6_riverTop_56 t z1 (w64 ((μ.1 12 z1) * (μ.2 t 7))) μ)
  else
    ck (0 ≤ z1 ∧ z1 < 3) (
    ck (0 ≤ (μ.1 10 z1) ∧ (μ.1 10 z1) < 6) (
    k_X6_riverTop_56 t z1 (μ.1 (t + 5) (μ.1 10 z1)) μ))
set_option maxHeartbeats 4000000 in
set_option maxRecDepth 100000 in
theorem w_X6_riverTop_25 {G : GX} {u : Int × GM} (C : CX G 0 cX6_riverTop 6 RX6) (hQ : gQL G (some .long) u) {t : Nat} (ht : gRt t) {z1 : Int} (hz1 : r32 z1) {s0 : Int} (hs0 : r32 s0) {μ : GM} (hμ : gRg μ) (h : k_X6_riverTop_25 t z1 s0 μ = some u) : WM G 6 μ 25 [(0, gR G t), (1, vI z1), (2, gR G 9)] [vI s0] := by
  unfold k_X6_riverTop_25 at h
  refine o_istore_n (lv2 := [(3, vI s0), (0, gR G t), (1, vI z1), (2, gR G 9)]) C dX6_riverTop_25 rfl (by decide) rfl ?_
  refine o_iload_n C 0 dX6_riverTop_26 rfl rfl ?_
  refine o_if_eq (tgt := 44) C hs0 dX6_riverTop_27 (by decide) h (fun _ h => ?_) (fun _ h => ?_)
  · refine o_aload_n C 3 dX6_riverTop_44 rfl rfl ?_
    refine o_getR (j := 3) C kt_9 rfl rfl (Nat.le_of_ble_eq_true rfl) lkf_RX6_95 dX6_riverTop_45 ?_
    refine o_iload_n C 2 dX6_riverTop_48 rfl rfl ?_
    refine o_iald C kt_12 rfl hz1 dX6_riverTop_49 h (fun h => ?_)
    refine o_i2l C (hμ.i kt_12 (by decide) _) dX6_riverTop_50 ?_
    refine o_aload_n C 1 dX6_riverTop_51 rfl rfl ?_
    refine o_getJ (j := 7) C (ktR_0 ht) rfl rfl (Nat.le_of_ble_eq_true rfl) lkf_RX6_18 dX6_riverTop_52 ?_
    refine o_lmul C dX6_riverTop_55 ?_
    exact WM.sub [1, 2, 3] rfl (w_X6_riverTop_56 C hQ ht hz1 (r64_w _) hμ h)
  · refine o_aload_n C 1 dX6_riverTop_30 rfl rfl ?_
    refine o_getR (j := 6) C (ktR_0 ht) rfl rfl (Nat.le_of_ble_eq_true rfl) lkf_RX6_15 dX6_riverTop_31 ?_
    refine o_aload_n C 3 dX6_riverTop_34 rfl rfl ?_
    refine o_getR (j := 1) C kt_9 rfl rfl (Nat.le_of_ble_eq_true rfl) lkf_RX6_88 dX6_riverTop_35 ?_
    refine o_iload_n C 2 dX6_riverTop_38 rfl rfl ?_
    refine o_iald C kt_10 rfl hz1 dX6_riverTop_39 h (fun h => ?_)
    refine o_lald C (ktR_5 ht) rfl (hμ.i kt_10 (by decide) _) dX6_riverTop_40 h (fun h => ?_)
    refine o_goto (tgt := 56) C dX6_riverTop_41 (by decide) ?_
    exact WM.sub [1, 2, 3] rfl (w_X6_riverTop_56 C hQ ht hz1 (hμ.l (ktR_5 ht) _) hμ h)
def f_X6_riverTop (t : Nat) (z1 : Int) (μ : GM) : Option (Int × GM) :=
  if (gand (gshr (μ.2 t 8) z1) 1) = 1 then
    k_X6_riverTop_25 t z1 1 μ
  else
    k_X6_riverTop_25 t z1 0 μ
set_option maxHeartbeats 4000000 in
set_option maxRecDepth 100000 in
theorem w_X6_riverTop_0 {G : GX} {u : Int × GM} (C : CX G 0 cX6_riverTop 6 RX6) (hQ : gQL G (some .long) u) {t : Nat} (ht : gRt t) {z1 : Int} (hz1 : r32 z1) {μ : GM} (hμ : gRg μ) (h : f_X6_riverTop t z1 μ = some u) : WM G 6 μ 0 [(0, gR G t), (1, vI z1)] [] := by
  unfold f_X6_riverTop at h
  refine o_aload_n C 0 dX6_riverTop_0 rfl rfl ?_
  refine o_getR (j := 0) C (ktR_0 ht) rfl rfl (Nat.le_of_ble_eq_true rfl) lkf_RX6_26 dX6_riverTop_1 ?_
  refine o_getR (j := 5) C kt_1 rfl rfl (Nat.le_of_ble_eq_true rfl) lkf_RX6_79 dX6_riverTop_4 ?_
  refine o_astore_n (lv2 := [(2, gR G 9), (0, gR G t), (1, vI z1)]) C dX6_riverTop_7 rfl (by decide) rfl ?_
  refine o_aload_n C 1 dX6_riverTop_8 rfl rfl ?_
  refine o_getI (j := 8) C (ktR_0 ht) rfl rfl (Nat.le_of_ble_eq_true rfl) lkf_RX6_22 dX6_riverTop_9 ?_
  refine o_iload_n C 2 dX6_riverTop_12 rfl rfl ?_
  refine o_ishr C dX6_riverTop_13 ?_
  refine o_iconst C dX6_riverTop_14 ?_
  refine o_iand C dX6_riverTop_15 ?_
  refine o_iconst C dX6_riverTop_16 ?_
  refine o_icmp_ne (tgt := 24) C (r32_toInt _) ⟨by decide, by decide⟩ dX6_riverTop_17 (by decide) h (fun _ h => ?_) (fun _ h => ?_)
  · refine o_iconst C dX6_riverTop_24 ?_
    exact WM.sub [1, 2, 0] rfl (w_X6_riverTop_25 C hQ ht hz1 ⟨by decide, by decide⟩ hμ h)
  · refine o_iconst C dX6_riverTop_20 ?_
    refine o_goto (tgt := 25) C dX6_riverTop_21 (by decide) ?_
    exact WM.sub [1, 2, 0] rfl (w_X6_riverTop_25 C hQ ht hz1 ⟨by decide, by decide⟩ hμ h)
theorem c_X6_riverTop {t : Nat} (ht : gRt t) {z1 : Int} (hz1 : r32 z1) {μ : GM} (hμ : gRg μ) {u : Int × GM} (h : f_X6_riverTop t z1 μ = some u) : MtL 0 yX6_riverTop cX6_riverTop 6 (some .long) (fun ad => [.ref (ad t), vI z1]) μ u := MtL.of pf_X6_riverTop (fun _ => Nat.le_of_ble_eq_true rfl) (fun G C hQ => w_X6_riverTop_0 C hQ ht hz1 hμ h)
def k_X6_drainTop_19 (t : Nat) (z1 : Int) (s0 : Int) (μ : GM) : Option (Int × GM) :=
  if s0 = 0 then
    some (0, μ)
  else
    ck (0 ≤ z1 ∧ z1 < 2) (
    ck (0 ≤ z1 ∧ z1 < 2) (
    ck (0 ≤ (μ.1 15 z1) ∧ (μ.1 15 z1) < 6) (
    ck (0 ≤ z1 ∧ z1 < 2) (
    some ((w64 ((μ.1 17 z1) * (w64 ((μ.1 (t + 5) (μ.1 15 z1)) - (w64 ((μ.1 16 z1) * (μ.2 t 7))))))), μ)))))
set_option maxHeartbeats 4000000 in
set_option maxRecDepth 100000 in
theorem w_X6_drainTop_19 {G : GX} {u : Int × GM} (C : CX G 0 cX6_drainTop 3 RX6) (hQ : gQL G (some .long) u) {t : Nat} (ht : gRt t) {z1 : Int} (hz1 : r32 z1) {s0 : Int} (hs0 : r32 s0) {μ : GM} (hμ : gRg μ) (h : k_X6_drainTop_19 t z1 s0 μ = some u) : WM G 3 μ 19 [(0, gR G t), (1, vI z1)] [vI s0] := by
  unfold k_X6_drainTop_19 at h
  refine o_istore_n (lv2 := [(2, vI s0), (0, gR G t), (1, vI z1)]) C dX6_drainTop_19 rfl (by decide) rfl ?_
  refine o_iload_n C 0 dX6_drainTop_20 rfl rfl ?_
  refine o_if_ne (tgt := 26) C hs0 dX6_drainTop_21 (by decide) h (fun _ h => ?_) (fun _ h => ?_)
  · refine o_aload_n C 1 dX6_drainTop_26 rfl rfl ?_
    refine o_getR (j := 0) C (ktR_0 ht) rfl rfl (Nat.le_of_ble_eq_true rfl) lkf_RX6_26 dX6_drainTop_27 ?_
    refine o_getR (j := 6) C kt_1 rfl rfl (Nat.le_of_ble_eq_true rfl) lkf_RX6_98 dX6_drainTop_30 ?_
    refine o_getR (j := 3) C kt_14 rfl rfl (Nat.le_of_ble_eq_true rfl) lkf_RX6_118 dX6_drainTop_33 ?_
    refine o_iload_n C 2 dX6_drainTop_36 rfl rfl ?_
    refine o_iald C kt_17 rfl hz1 dX6_drainTop_37 h (fun h => ?_)
    refine o_i2l C (hμ.i kt_17 (by decide) _) dX6_drainTop_38 ?_
    refine o_aload_n C 1 dX6_drainTop_39 rfl rfl ?_
    refine o_getR (j := 6) C (ktR_0 ht) rfl rfl (Nat.le_of_ble_eq_true rfl) lkf_RX6_15 dX6_drainTop_40 ?_
    refine o_aload_n C 1 dX6_drainTop_43 rfl rfl ?_
    refine o_getR (j := 0) C (ktR_0 ht) rfl rfl (Nat.le_of_ble_eq_true rfl) lkf_RX6_26 dX6_drainTop_44 ?_
    refine o_getR (j := 6) C kt_1 rfl rfl (Nat.le_of_ble_eq_true rfl) lkf_RX6_98 dX6_drainTop_47 ?_
    refine o_getR (j := 1) C kt_14 rfl rfl (Nat.le_of_ble_eq_true rfl) lkf_RX6_105 dX6_drainTop_50 ?_
    refine o_iload_n C 2 dX6_drainTop_53 rfl rfl ?_
    refine o_iald C kt_15 rfl hz1 dX6_drainTop_54 h (fun h => ?_)
    refine o_lald C (ktR_5 ht) rfl (hμ.i kt_15 (by decide) _) dX6_drainTop_55 h (fun h => ?_)
    refine o_aload_n C 1 dX6_drainTop_56 rfl rfl ?_
    refine o_getR (j := 0) C (ktR_0 ht) rfl rfl (Nat.le_of_ble_eq_true rfl) lkf_RX6_26 dX6_drainTop_57 ?_
    refine o_getR (j := 6) C kt_1 rfl rfl (Nat.le_of_ble_eq_true rfl) lkf_RX6_98 dX6_drainTop_60 ?_
    refine o_getR (j := 2) C kt_14 rfl rfl (Nat.le_of_ble_eq_true rfl) lkf_RX6_106 dX6_drainTop_63 ?_
    refine o_iload_n C 2 dX6_drainTop_66 rfl rfl ?_
    refine o_iald C kt_16 rfl hz1 dX6_drainTop_67 h (fun h => ?_)
    refine o_i2l C (hμ.i kt_16 (by decide) _) dX6_drainTop_68 ?_
    refine o_aload_n C 1 dX6_drainTop_69 rfl rfl ?_
    refine o_getJ (j := 7) C (ktR_0 ht) rfl rfl (Nat.le_of_ble_eq_true rfl) lkf_RX6_18 dX6_drainTop_70 ?_
    refine o_lmul C dX6_drainTop_73 ?_
    refine o_lsub C dX6_drainTop_74 ?_
    refine o_lmul C dX6_drainTop_75 ?_
    exact o_lret C hQ dX6_drainTop_76 h (r64_w _) hμ
  · refine o_lconst (v := 0) C dX6_drainTop_24 rfl ?_
    exact o_lret C hQ dX6_drainTop_25 h ⟨by decide, by decide⟩ hμ
def f_X6_drainTop (t : Nat) (z1 : Int) (μ : GM) : Option (Int × GM) :=
  if (gand (gshr (μ.2 t 8) (w32 (3 + z1))) 1) = 1 then
    k_X6_drainTop_19 t z1 1 μ
  else
    k_X6_drainTop_19 t z1 0 μ
set_option maxHeartbeats 4000000 in
set_option maxRecDepth 100000 in
theorem w_X6_drainTop_0 {G : GX} {u : Int × GM} (C : CX G 0 cX6_drainTop 3 RX6) (hQ : gQL G (some .long) u) {t : Nat} (ht : gRt t) {z1 : Int} (hz1 : r32 z1) {μ : GM} (hμ : gRg μ) (h : f_X6_drainTop t z1 μ = some u) : WM G 3 μ 0 [(0, gR G t), (1, vI z1)] [] := by
  unfold f_X6_drainTop at h
  refine o_aload_n C 0 dX6_drainTop_0 rfl rfl ?_
  refine o_getI (j := 8) C (ktR_0 ht) rfl rfl (Nat.le_of_ble_eq_true rfl) lkf_RX6_22 dX6_drainTop_1 ?_
  refine o_iconst C dX6_drainTop_4 ?_
  refine o_iload_n C 1 dX6_drainTop_5 rfl rfl ?_
  refine o_iadd C dX6_drainTop_6 ?_
  refine o_ishr C dX6_drainTop_7 ?_
  refine o_iconst C dX6_drainTop_8 ?_
  refine o_iand C dX6_drainTop_9 ?_
  refine o_iconst C dX6_drainTop_10 ?_
  refine o_icmp_ne (tgt := 18) C (r32_toInt _) ⟨by decide, by decide⟩ dX6_drainTop_11 (by decide) h (fun _ h => ?_) (fun _ h => ?_)
  · refine o_iconst C dX6_drainTop_18 ?_
    exact WM.sub [0, 1] rfl (w_X6_drainTop_19 C hQ ht hz1 ⟨by decide, by decide⟩ hμ h)
  · refine o_iconst C dX6_drainTop_14 ?_
    refine o_goto (tgt := 19) C dX6_drainTop_15 (by decide) ?_
    exact WM.sub [0, 1] rfl (w_X6_drainTop_19 C hQ ht hz1 ⟨by decide, by decide⟩ hμ h)
theorem c_X6_drainTop {t : Nat} (ht : gRt t) {z1 : Int} (hz1 : r32 z1) {μ : GM} (hμ : gRg μ) {u : Int × GM} (h : f_X6_drainTop t z1 μ = some u) : MtL 0 yX6_drainTop cX6_drainTop 3 (some .long) (fun ad => [.ref (ad t), vI z1]) μ u := MtL.of pf_X6_drainTop (fun _ => Nat.le_of_ble_eq_true rfl) (fun G C hQ => w_X6_drainTop_0 C hQ ht hz1 hμ h)
def k_X6_throughTop_38 (t : Nat) : Nat → Int → Int → GM → Option (Int × GM)
  | 0, _, _, _ => none
  | n + 1, z1, z3, μ =>
    if z3 < (μ.2 1 0) then
      ck (0 ≤ z3 ∧ z3 < 6) (
      lt (w64 (z1 + (w64 ((μ.1 3 z3) * (μ.2 t 7))))) fun x1 =>
      lt (w32 (z3 + 1)) fun x2 =>
      k_X6_throughTop_38 t n x1 x2 μ)
    else
      some (z1, μ)
set_option maxHeartbeats 4000000 in
set_option maxRecDepth 100000 in
theorem w_X6_throughTop_38 {G : GX} {u : Int × GM} (C : CX G 1 cX6_throughTop 4 RX6) (hQ : gQL G (some .long) u) {t : Nat} (ht : gRt t) : ∀ (n : Nat) (z1 : Int) (hz1 : r64 z1) (z3 : Int) (hz3 : r32 z3) (μ : GM) (hμ : gRg μ), k_X6_throughTop_38 t n z1 z3 μ = some u → WM G 4 μ 38 [(0, gR G t), (1, vJ z1), (3, vI z3)] [] := by
  intro n
  induction n with
  | zero =>
    intro z1 hz1 z3 hz3 μ hμ h
    cases h
  | succ n ih =>
    intro z1 hz1 z3 hz3 μ hμ h
    rw [k_X6_throughTop_38] at h
    refine o_iload_n C 2 dX6_throughTop_38 rfl rfl ?_
    refine o_aload_n C 0 dX6_throughTop_39 rfl rfl ?_
    refine o_getR (j := 0) C (ktR_0 ht) rfl rfl (Nat.le_of_ble_eq_true rfl) lkf_RX6_26 dX6_throughTop_40 ?_
    refine o_getI (j := 0) C kt_1 rfl rfl (Nat.le_of_ble_eq_true rfl) lkf_RX6_58 dX6_throughTop_43 ?_
    refine o_icmp_ge (tgt := 73) C hz3 (hμ.fi kt_1 rfl (by decide)) dX6_throughTop_46 (by decide) h (fun _ h => ?_) (fun _ h => ?_)
    · refine o_lload_n C 1 dX6_throughTop_73 rfl rfl ?_
      exact o_lret C hQ dX6_throughTop_74 h hz1 hμ
    · refine o_lload_n C 1 dX6_throughTop_49 rfl rfl ?_
      refine o_aload_n C 0 dX6_throughTop_50 rfl rfl ?_
      refine o_getR (j := 0) C (ktR_0 ht) rfl rfl (Nat.le_of_ble_eq_true rfl) lkf_RX6_26 dX6_throughTop_51 ?_
      refine o_getR (j := 2) C kt_1 rfl rfl (Nat.le_of_ble_eq_true rfl) lkf_RX6_109 dX6_throughTop_54 ?_
      refine o_iload_n C 2 dX6_throughTop_57 rfl rfl ?_
      refine o_iald C kt_3 rfl hz3 dX6_throughTop_58 h (fun h => ?_)
      refine o_i2l C (hμ.i kt_3 (by decide) _) dX6_throughTop_59 ?_
      refine o_aload_n C 0 dX6_throughTop_60 rfl rfl ?_
      refine o_getJ (j := 7) C (ktR_0 ht) rfl rfl (Nat.le_of_ble_eq_true rfl) lkf_RX6_18 dX6_throughTop_61 ?_
      refine o_lmul C dX6_throughTop_64 ?_
      refine o_ladd C dX6_throughTop_65 ?_
      refine o_ltl h (r64_w _) (fun x1 hx1 h => ?_)
      refine o_lstore_n (lv2 := [(1, vJ x1), (0, gR G t), (3, vI z3)]) C dX6_throughTop_66 rfl (by decide) rfl ?_
      refine o_iinc (lv2 := fun x2 => [(3, vI x2), (1, vJ x1), (0, gR G t)]) C 2 dX6_throughTop_67 rfl (by decide) (fun _ => rfl) h (fun x2 hx2 h => ?_)
      refine o_goto (tgt := 38) C dX6_throughTop_70 (by decide) ?_
      exact WM.sub [2, 1, 0] rfl (ih x1 hx1 x2 hx2 μ hμ h)
def k_X6_throughTop_4 (t : Nat) : Nat → Int → Int → GM → Option (Int × GM)
  | 0, _, _, _ => none
  | n + 1, z1, z3, μ =>
    if z3 < (μ.2 9 0) then
      bd (f_X6_riverTop t z3 μ) fun x1 μ2 =>
      bd (f_J9_max_f86c9 0 x1 μ2) fun x3 μ4 =>
      lt (w64 (z1 + x3)) fun x5 =>
      lt (w32 (z3 + 1)) fun x6 =>
      k_X6_throughTop_4 t n x5 x6 μ4
    else
      k_X6_throughTop_38 t FU z1 0 μ
set_option maxHeartbeats 4000000 in
set_option maxRecDepth 100000 in
theorem w_X6_throughTop_4 {G : GX} {u : Int × GM} (C : CX G 1 cX6_throughTop 4 RX6) (hQ : gQL G (some .long) u) {t : Nat} (ht : gRt t) : ∀ (n : Nat) (z1 : Int) (hz1 : r64 z1) (z3 : Int) (hz3 : r32 z3) (μ : GM) (hμ : gRg μ), k_X6_throughTop_4 t n z1 z3 μ = some u → WM G 4 μ 4 [(0, gR G t), (1, vJ z1), (3, vI z3)] [] := by
  intro n
  induction n with
  | zero =>
    intro z1 hz1 z3 hz3 μ hμ h
    cases h
  | succ n ih =>
    intro z1 hz1 z3 hz3 μ hμ h
    rw [k_X6_throughTop_4] at h
    refine o_iload_n C 2 dX6_throughTop_4 rfl rfl ?_
    refine o_aload_n C 0 dX6_throughTop_5 rfl rfl ?_
    refine o_getR (j := 0) C (ktR_0 ht) rfl rfl (Nat.le_of_ble_eq_true rfl) lkf_RX6_26 dX6_throughTop_6 ?_
    refine o_getR (j := 5) C kt_1 rfl rfl (Nat.le_of_ble_eq_true rfl) lkf_RX6_79 dX6_throughTop_9 ?_
    refine o_getI (j := 0) C kt_9 rfl rfl (Nat.le_of_ble_eq_true rfl) lkf_RX6_83 dX6_throughTop_12 ?_
    refine o_icmp_ge (tgt := 36) C hz3 (hμ.fi kt_9 rfl (by decide)) dX6_throughTop_15 (by decide) h (fun _ h => ?_) (fun _ h => ?_)
    · refine o_iconst C dX6_throughTop_36 ?_
      refine o_istore_n (lv2 := [(3, vI 0), (0, gR G t), (1, vJ z1)]) C dX6_throughTop_37 rfl (by decide) rfl ?_
      exact WM.sub [1, 2, 0] rfl (w_X6_throughTop_38 C hQ ht FU z1 hz1 0 ⟨by decide, by decide⟩ μ hμ h)
    · refine o_lload_n C 1 dX6_throughTop_18 rfl rfl ?_
      refine o_lconst (v := 0) C dX6_throughTop_19 rfl ?_
      refine o_aload_n C 0 dX6_throughTop_20 rfl rfl ?_
      refine o_iload_n C 2 dX6_throughTop_21 rfl rfl ?_
      refine o_cVL C [vI z3] mb_X6_riverTop (by decide) (fun _ hu => c_X6_riverTop ht hz3 hμ hu) rfl (Nat.le_of_ble_eq_true rfl) h mi_X6_riverTop me_X6_riverTop lkm_RX6_152 (ktR_0 ht) rfl rfl rfl dX6_throughTop_22 (fun x1 μ2 hx1 hμ2 h => ?_)
      refine o_cSL C [vJ 0, vJ x1] mb_J9_max_f86c9 (by decide) (fun _ hu => c_J9_max_f86c9 ⟨by decide, by decide⟩ hx1 hμ2 hu) rfl (Nat.le_of_ble_eq_true rfl) h ms_J9_max_f86c9 lkm_RX6_156 rfl rfl dX6_throughTop_25 (fun x3 μ4 hx3 hμ4 h => ?_)
      refine o_ladd C dX6_throughTop_28 ?_
      refine o_ltl h (r64_w _) (fun x5 hx5 h => ?_)
      refine o_lstore_n (lv2 := [(1, vJ x5), (0, gR G t), (3, vI z3)]) C dX6_throughTop_29 rfl (by decide) rfl ?_
      refine o_iinc (lv2 := fun x6 => [(3, vI x6), (1, vJ x5), (0, gR G t)]) C 2 dX6_throughTop_30 rfl (by decide) (fun _ => rfl) h (fun x6 hx6 h => ?_)
      refine o_goto (tgt := 4) C dX6_throughTop_33 (by decide) ?_
      exact WM.sub [2, 1, 0] rfl (ih x5 hx5 x6 hx6 μ4 hμ4 h)
def f_X6_throughTop (t : Nat) (μ : GM) : Option (Int × GM) :=
  k_X6_throughTop_4 t FU 0 0 μ
set_option maxHeartbeats 4000000 in
set_option maxRecDepth 100000 in
theorem w_X6_throughTop_0 {G : GX} {u : Int × GM} (C : CX G 1 cX6_throughTop 4 RX6) (hQ : gQL G (some .long) u) {t : Nat} (ht : gRt t) {μ : GM} (hμ : gRg μ) (h : f_X6_throughTop t μ = some u) : WM G 4 μ 0 [(0, gR G t)] [] := by
  unfold f_X6_throughTop at h
  refine o_lconst (v := 0) C dX6_throughTop_0 rfl ?_
  refine o_lstore_n (lv2 := [(1, vJ 0), (0, gR G t)]) C dX6_throughTop_1 rfl (by decide) rfl ?_
  refine o_iconst C dX6_throughTop_2 ?_
  refine o_istore_n (lv2 := [(3, vI 0), (1, vJ 0), (0, gR G t)]) C dX6_throughTop_3 rfl (by decide) rfl ?_
  exact WM.sub [2, 1, 0] rfl (w_X6_throughTop_4 C hQ ht FU 0 ⟨by decide, by decide⟩ 0 ⟨by decide, by decide⟩ μ hμ h)
theorem c_X6_throughTop {t : Nat} (ht : gRt t) {μ : GM} (hμ : gRg μ) {u : Int × GM} (h : f_X6_throughTop t μ = some u) : MtL 1 yX6_throughTop cX6_throughTop 4 (some .long) (fun ad => [.ref (ad t)]) μ u := MtL.of pf_X6_throughTop (fun _ => Nat.le_of_ble_eq_true rfl) (fun G C hQ => w_X6_throughTop_0 C hQ ht hμ h)
def f_X6_isDry (t : Nat) (z1 : Int) (μ : GM) : Option (Int × GM) :=
  ck (0 ≤ z1 ∧ z1 < 6) (
  ck (0 ≤ z1 ∧ z1 < 6) (
  if (μ.1 (t + 5) z1) < (w64 ((μ.1 2 z1) * (μ.2 t 7))) then
    some (1 % 2, μ)
  else
    some (0 % 2, μ)))
set_option maxHeartbeats 4000000 in
set_option maxRecDepth 100000 in
theorem w_X6_isDry_0 {G : GX} {u : Int × GM} (C : CX G 0 cX6_isDry 2 RX6) (hQ : gQI G (some .boolean) u) {t : Nat} (ht : gRt t) {z1 : Int} (hz1 : r32 z1) {μ : GM} (hμ : gRg μ) (h : f_X6_isDry t z1 μ = some u) : WM G 2 μ 0 [(0, gR G t), (1, vI z1)] [] := by
  unfold f_X6_isDry at h
  refine o_aload_n C 0 dX6_isDry_0 rfl rfl ?_
  refine o_getR (j := 6) C (ktR_0 ht) rfl rfl (Nat.le_of_ble_eq_true rfl) lkf_RX6_15 dX6_isDry_1 ?_
  refine o_iload_n C 1 dX6_isDry_4 rfl rfl ?_
  refine o_lald C (ktR_5 ht) rfl hz1 dX6_isDry_5 h (fun h => ?_)
  refine o_aload_n C 0 dX6_isDry_6 rfl rfl ?_
  refine o_getR (j := 0) C (ktR_0 ht) rfl rfl (Nat.le_of_ble_eq_true rfl) lkf_RX6_26 dX6_isDry_7 ?_
  refine o_getR (j := 1) C kt_1 rfl rfl (Nat.le_of_ble_eq_true rfl) lkf_RX6_159 dX6_isDry_10 ?_
  refine o_iload_n C 1 dX6_isDry_13 rfl rfl ?_
  refine o_iald C kt_2 rfl hz1 dX6_isDry_14 h (fun h => ?_)
  refine o_i2l C (hμ.i kt_2 (by decide) _) dX6_isDry_15 ?_
  refine o_aload_n C 0 dX6_isDry_16 rfl rfl ?_
  refine o_getJ (j := 7) C (ktR_0 ht) rfl rfl (Nat.le_of_ble_eq_true rfl) lkf_RX6_18 dX6_isDry_17 ?_
  refine o_lmul C dX6_isDry_20 ?_
  refine o_lcmp_ge (tgt := 29) C (hμ.l (ktR_5 ht) _) (r64_w _) dX6_isDry_21 dX6_isDry_22 (by decide) h (fun _ h => ?_) (fun _ h => ?_)
  · refine o_iconst C dX6_isDry_29 ?_
    exact o_zret C hQ dX6_isDry_30 h hμ
  · refine o_iconst C dX6_isDry_25 ?_
    refine o_goto (tgt := 30) C dX6_isDry_26 (by decide) ?_
    exact o_zret C hQ dX6_isDry_30 h hμ
theorem c_X6_isDry {t : Nat} (ht : gRt t) {z1 : Int} (hz1 : r32 z1) {μ : GM} (hμ : gRg μ) {u : Int × GM} (h : f_X6_isDry t z1 μ = some u) : MtI 0 yX6_isDry cX6_isDry 2 (some .boolean) (fun ad => [.ref (ad t), vI z1]) μ u := MtI.of pf_X6_isDry (fun _ => Nat.le_of_ble_eq_true rfl) (fun G C hQ => w_X6_isDry_0 C hQ ht hz1 hμ h)
def f_X11_milliOf (z0 : Int) (z2 : Int) (μ : GM) : Option (Int × GM) :=
  if z2 < 1 then
    some (0, μ)
  else
    bd (f_J9_floorDiv_f86c9 (w64 (1000 * z0)) z2 μ) fun x1 μ2 =>
    some ((w32 x1), μ2)
set_option maxHeartbeats 4000000 in
set_option maxRecDepth 100000 in
theorem w_X11_milliOf_0 {G : GX} {u : Int × GM} (C : CX G 1 cX11_milliOf 4 RX11) (hQ : gQI G (some .int) u) {z0 : Int} (hz0 : r64 z0) {z2 : Int} (hz2 : r64 z2) {μ : GM} (hμ : gRg μ) (h : f_X11_milliOf z0 z2 μ = some u) : WM G 4 μ 0 [(0, vJ z0), (2, vJ z2)] [] := by
  unfold f_X11_milliOf at h
  refine o_lload_n C 1 dX11_milliOf_0 rfl rfl ?_
  refine o_lconst (v := 1) C dX11_milliOf_1 rfl ?_
  refine o_lcmp_ge (tgt := 10) C hz2 ⟨by decide, by decide⟩ dX11_milliOf_2 dX11_milliOf_3 (by decide) h (fun _ h => ?_) (fun _ h => ?_)
  · refine o_ldc2 (v := 1000) C lkc_RX11_328 rfl dX11_milliOf_10 ?_
    refine o_lload_n C 0 dX11_milliOf_13 rfl rfl ?_
    refine o_lmul C dX11_milliOf_14 ?_
    refine o_lload_n C 1 dX11_milliOf_15 rfl rfl ?_
    refine o_cSL C [vJ (w64 (1000 * z0)), vJ z2] mb_J9_floorDiv_f86c9 (by decide) (fun _ hu => c_J9_floorDiv_f86c9 (r64_w _) hz2 hμ hu) rfl (Nat.le_of_ble_eq_true rfl) h ms_J9_floorDiv_f86c9 lkm_RX11_330 rfl rfl dX11_milliOf_16 (fun x1 μ2 hx1 hμ2 h => ?_)
    refine o_l2i C dX11_milliOf_19 ?_
    exact o_iret C hQ dX11_milliOf_20 h (r32_w _) hμ2
  · refine o_iconst C dX11_milliOf_6 ?_
    refine o_goto (tgt := 20) C dX11_milliOf_7 (by decide) ?_
    exact o_iret C hQ dX11_milliOf_20 h ⟨by decide, by decide⟩ hμ
theorem c_X11_milliOf {z0 : Int} (hz0 : r64 z0) {z2 : Int} (hz2 : r64 z2) {μ : GM} (hμ : gRg μ) {u : Int × GM} (h : f_X11_milliOf z0 z2 μ = some u) : MtI 1 yX11_milliOf cX11_milliOf 4 (some .int) (fun ad => [vJ z0, vJ z2]) μ u := MtI.of pf_X11_milliOf (fun _ => Nat.le_of_ble_eq_true rfl) (fun G C hQ => w_X11_milliOf_0 C hQ hz0 hz2 hμ h)
def f_X6_headMilli (t : Nat) (z1 : Int) (μ : GM) : Option (Int × GM) :=
  ck (0 ≤ z1 ∧ z1 < 6) (
  bd (f_X11_milliOf (μ.1 (t + 5) z1) (μ.2 t 7) μ) fun x1 μ2 =>
  some (x1, μ2))
set_option maxHeartbeats 4000000 in
set_option maxRecDepth 100000 in
theorem w_X6_headMilli_0 {G : GX} {u : Int × GM} (C : CX G 2 cX6_headMilli 2 RX6) (hQ : gQI G (some .int) u) {t : Nat} (ht : gRt t) {z1 : Int} (hz1 : r32 z1) {μ : GM} (hμ : gRg μ) (h : f_X6_headMilli t z1 μ = some u) : WM G 2 μ 0 [(0, gR G t), (1, vI z1)] [] := by
  unfold f_X6_headMilli at h
  refine o_aload_n C 0 dX6_headMilli_0 rfl rfl ?_
  refine o_getR (j := 6) C (ktR_0 ht) rfl rfl (Nat.le_of_ble_eq_true rfl) lkf_RX6_15 dX6_headMilli_1 ?_
  refine o_iload_n C 1 dX6_headMilli_4 rfl rfl ?_
  refine o_lald C (ktR_5 ht) rfl hz1 dX6_headMilli_5 h (fun h => ?_)
  refine o_aload_n C 0 dX6_headMilli_6 rfl rfl ?_
  refine o_getJ (j := 7) C (ktR_0 ht) rfl rfl (Nat.le_of_ble_eq_true rfl) lkf_RX6_18 dX6_headMilli_7 ?_
  refine o_cNI C [vJ (μ.1 (t + 5) z1), vJ (μ.2 t 7)] mb_X11_milliOf (by decide) (fun _ hu => c_X11_milliOf (hμ.l (ktR_5 ht) _) (hμ.fl (ktR_0 ht) rfl) hμ hu) rfl (Nat.le_of_ble_eq_true rfl) h ms_X11_milliOf lkm_RX6_162 rfl rfl dX6_headMilli_10 (fun x1 μ2 hx1 hμ2 h => ?_)
  exact o_iret C hQ dX6_headMilli_13 h hx1 hμ2
theorem c_X6_headMilli {t : Nat} (ht : gRt t) {z1 : Int} (hz1 : r32 z1) {μ : GM} (hμ : gRg μ) {u : Int × GM} (h : f_X6_headMilli t z1 μ = some u) : MtI 2 yX6_headMilli cX6_headMilli 2 (some .int) (fun ad => [.ref (ad t), vI z1]) μ u := MtI.of pf_X6_headMilli (fun _ => Nat.le_of_ble_eq_true rfl) (fun G C hQ => w_X6_headMilli_0 C hQ ht hz1 hμ h)
def f_X8_addOutlet (z1 : Int) (z2 : Int) (μ : GM) : Option (Int × GM) :=
  if 0 < z2 then
    if (μ.2 23 2) < 20 then
      ck (0 ≤ (μ.2 23 2) ∧ (μ.2 23 2) < 20) (lm (gA μ 24 (μ.2 23 2) z1) fun μ1 =>
      ck (0 ≤ (μ1.2 23 2) ∧ (μ1.2 23 2) < 20) (lm (gA μ1 25 (μ1.2 23 2) z2) fun μ2 =>
      lm (gF μ2 23 2 (w32 ((μ2.2 23 2) + 1))) fun μ3 =>
      some (0, μ3)))
    else
      some (0, μ)
  else
    some (0, μ)
set_option maxHeartbeats 4000000 in
set_option maxRecDepth 100000 in
theorem w_X8_addOutlet_0 {G : GX} {u : Int × GM} (C : CX G 0 cX8_addOutlet 4 RX8) (hQ : gQV G none u) {z1 : Int} (hz1 : r32 z1) {z2 : Int} (hz2 : r64 z2) {μ : GM} (hμ : gRg μ) (h : f_X8_addOutlet z1 z2 μ = some u) : WM G 4 μ 0 [(0, gR G 23), (1, vI z1), (2, vJ z2)] [] := by
  unfold f_X8_addOutlet at h
  refine o_lload_n C 2 dX8_addOutlet_0 rfl rfl ?_
  refine o_lconst (v := 0) C dX8_addOutlet_1 rfl ?_
  refine o_lcmp_le (tgt := 15) C hz2 ⟨by decide, by decide⟩ dX8_addOutlet_2 dX8_addOutlet_3 (by decide) h (fun _ h => ?_) (fun _ h => ?_)
  · exact o_vret C hQ dX8_addOutlet_15 h hμ
  · refine o_aload_n C 0 dX8_addOutlet_6 rfl rfl ?_
    refine o_getI (j := 2) C kt_23 rfl rfl (Nat.le_of_ble_eq_true rfl) lkf_RX8_9 dX8_addOutlet_7 ?_
    refine o_bipush (v := 20) C dX8_addOutlet_10 (by decide) ?_
    refine o_icmp_lt (tgt := 16) C (hμ.fi kt_23 rfl (by decide)) ⟨by decide, by decide⟩ dX8_addOutlet_12 (by decide) h (fun _ h => ?_) (fun _ h => ?_)
    · refine o_aload_n C 0 dX8_addOutlet_16 rfl rfl ?_
      refine o_getR (j := 3) C kt_23 rfl rfl (Nat.le_of_ble_eq_true rfl) lkf_RX8_15 dX8_addOutlet_17 ?_
      refine o_aload_n C 0 dX8_addOutlet_20 rfl rfl ?_
      refine o_getI (j := 2) C kt_23 rfl rfl (Nat.le_of_ble_eq_true rfl) lkf_RX8_9 dX8_addOutlet_21 ?_
      refine o_iload_n C 1 dX8_addOutlet_24 rfl rfl ?_
      refine o_iast C kt_24 rfl (hμ.fi kt_23 rfl (by decide)) hz1 hμ dX8_addOutlet_25 h (fun μ1 hμ1 h => ?_)
      refine o_aload_n C 0 dX8_addOutlet_26 rfl rfl ?_
      refine o_getR (j := 4) C kt_23 rfl rfl (Nat.le_of_ble_eq_true rfl) lkf_RX8_19 dX8_addOutlet_27 ?_
      refine o_aload_n C 0 dX8_addOutlet_30 rfl rfl ?_
      refine o_getI (j := 2) C kt_23 rfl rfl (Nat.le_of_ble_eq_true rfl) lkf_RX8_9 dX8_addOutlet_31 ?_
      refine o_lload_n C 2 dX8_addOutlet_34 rfl rfl ?_
      refine o_last C kt_25 rfl (hμ1.fi kt_23 rfl (by decide)) hz2 hμ1 dX8_addOutlet_35 h (fun μ2 hμ2 h => ?_)
      refine o_aload_n C 0 dX8_addOutlet_36 rfl rfl ?_
      refine o_dupr C dX8_addOutlet_37 ?_
      refine o_getI (j := 2) C kt_23 rfl rfl (Nat.le_of_ble_eq_true rfl) lkf_RX8_9 dX8_addOutlet_38 ?_
      refine o_iconst C dX8_addOutlet_41 ?_
      refine o_iadd C dX8_addOutlet_42 ?_
      refine o_putI (j := 2) C kt_23 rfl rfl tyX8_ok nmX8 (Nat.le_of_ble_eq_true rfl) lkf_RX8_9 rfl rfl (r32_w _) hμ2 dX8_addOutlet_43 h (fun μ3 hμ3 h => ?_)
      exact o_vret C hQ dX8_addOutlet_46 h hμ3
    · exact o_vret C hQ dX8_addOutlet_15 h hμ
theorem c_X8_addOutlet {z1 : Int} (hz1 : r32 z1) {z2 : Int} (hz2 : r64 z2) {μ : GM} (hμ : gRg μ) {u : Int × GM} (h : f_X8_addOutlet z1 z2 μ = some u) : MtV 0 yX8_addOutlet cX8_addOutlet 4 none (fun ad => [.ref (ad 23), vI z1, vJ z2]) μ u := MtV.of pf_X8_addOutlet (fun _ => Nat.le_of_ble_eq_true rfl) (fun G C hQ => w_X8_addOutlet_0 C hQ hz1 hz2 hμ h)
