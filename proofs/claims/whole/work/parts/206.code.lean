def f_X4_isDigit (z0 : Int) (μ : GM) : Option (Int × GM) :=
  if z0 < 48 then
    some (0 % 2, μ)
  else
    if 57 < z0 then
      some (0 % 2, μ)
    else
      some (1 % 2, μ)
set_option maxHeartbeats 4000000 in
set_option maxRecDepth 100000 in
theorem w_X4_isDigit_0 {G : GX} {u : Int × GM} (C : CX G 0 cX4_isDigit 1 RX4) (hQ : gQI G (some .boolean) u) {z0 : Int} (hz0 : r32 z0) {μ : GM} (hμ : gRg μ) (h : f_X4_isDigit z0 μ = some u) : WM G 1 μ 0 [(0, vI z0)] [] := by
  unfold f_X4_isDigit at h
  refine o_iload_n C 0 dX4_isDigit_0 rfl rfl ?_
  refine o_bipush (v := 48) C dX4_isDigit_1 (by decide) ?_
  refine o_icmp_lt (tgt := 16) C hz0 ⟨by decide, by decide⟩ dX4_isDigit_3 (by decide) h (fun _ h => ?_) (fun _ h => ?_)
  · refine o_iconst C dX4_isDigit_16 ?_
    exact o_zret C hQ dX4_isDigit_17 h hμ
  · refine o_iload_n C 0 dX4_isDigit_6 rfl rfl ?_
    refine o_bipush (v := 57) C dX4_isDigit_7 (by decide) ?_
    refine o_icmp_gt (tgt := 16) C hz0 ⟨by decide, by decide⟩ dX4_isDigit_9 (by decide) h (fun _ h => ?_) (fun _ h => ?_)
    · refine o_iconst C dX4_isDigit_16 ?_
      exact o_zret C hQ dX4_isDigit_17 h hμ
    · refine o_iconst C dX4_isDigit_12 ?_
      refine o_goto (tgt := 17) C dX4_isDigit_13 (by decide) ?_
      exact o_zret C hQ dX4_isDigit_17 h hμ
theorem c_X4_isDigit {z0 : Int} (hz0 : r32 z0) {μ : GM} (hμ : gRg μ) {u : Int × GM} (h : f_X4_isDigit z0 μ = some u) : MtI 0 yX4_isDigit cX4_isDigit 1 (some .boolean) (fun ad => [vI z0]) μ u := MtI.of pf_X4_isDigit (fun _ => Nat.le_of_ble_eq_true rfl) (fun G C hQ => w_X4_isDigit_0 C hQ hz0 hμ h)
def f_X4_isThere (z1 : Int) (μ : GM) : Option (Int × GM) :=
  if (μ.2 42 6) = 100 then
    bd (f_X1_has z1 μ) fun x1 μ2 =>
    some (x1 % 2, μ2)
  else if (μ.2 42 6) = 103 then
    bd (f_X7_has z1 μ) fun x3 μ4 =>
    some (x3 % 2, μ4)
  else if (μ.2 42 6) = 104 then
    bd (f_X2_hasCell z1 μ) fun x5 μ6 =>
    some (x5 % 2, μ6)
  else if (μ.2 42 6) = 113 then
    bd (f_X9_has z1 μ) fun x7 μ8 =>
    some (x7 % 2, μ8)
  else bd (f_X3_has z1 μ) fun x9 μ10 =>
    some (x9 % 2, μ10)
set_option maxHeartbeats 4000000 in
set_option maxRecDepth 100000 in
theorem w_X4_isThere_0 {G : GX} {u : Int × GM} (C : CX G 1 cX4_isThere 2 RX4) (hQ : gQI G (some .boolean) u) {z1 : Int} (hz1 : r32 z1) {μ : GM} (hμ : gRg μ) (h : f_X4_isThere z1 μ = some u) : WM G 2 μ 0 [(0, gR G 42), (1, vI z1)] [] := by
  unfold f_X4_isThere at h
  refine o_aload_n C 0 dX4_isThere_0 rfl rfl ?_
  refine o_getI (j := 6) C kt_42 rfl rfl (Nat.le_of_ble_eq_true rfl) lkf_RX4_25 dX4_isThere_1 ?_
  rcases ite_some h with ⟨e0, h⟩ | ⟨e0, h⟩
  · refine o_look (off := 77) (tgt := 81) C (hμ.fi kt_42 rfl (by decide)) dX4_isThere_4 rfl (by rw [e0]; first | done | decide) (by decide) ?_
    refine o_aload_n C 0 dX4_isThere_81 rfl rfl ?_
    refine o_getR (j := 0) C kt_42 rfl rfl (Nat.le_of_ble_eq_true rfl) lkf_RX4_41 dX4_isThere_82 ?_
    refine o_getR (j := 6) C kt_1 rfl rfl (Nat.le_of_ble_eq_true rfl) lkf_RX4_96 dX4_isThere_85 ?_
    refine o_iload_n C 1 dX4_isThere_88 rfl rfl ?_
    refine o_cVI C [vI z1] mb_X1_has (by decide) (fun _ hu => c_X1_has hz1 hμ hu) rfl (Nat.le_of_ble_eq_true rfl) h mi_X1_has me_X1_has lkm_RX4_100 kt_14 rfl rfl rfl dX4_isThere_89 (fun x1 μ2 hx1 hμ2 h => ?_)
    exact o_zret C hQ dX4_isThere_92 h hμ2
  · rcases ite_some h with ⟨e1, h⟩ | ⟨e1, h⟩
    · refine o_look (off := 65) (tgt := 69) C (hμ.fi kt_42 rfl (by decide)) dX4_isThere_4 rfl (by rw [e1]; first | done | decide) (by decide) ?_
      refine o_aload_n C 0 dX4_isThere_69 rfl rfl ?_
      refine o_getR (j := 0) C kt_42 rfl rfl (Nat.le_of_ble_eq_true rfl) lkf_RX4_41 dX4_isThere_70 ?_
      refine o_getR (j := 5) C kt_1 rfl rfl (Nat.le_of_ble_eq_true rfl) lkf_RX4_89 dX4_isThere_73 ?_
      refine o_iload_n C 1 dX4_isThere_76 rfl rfl ?_
      refine o_cVI C [vI z1] mb_X7_has (by decide) (fun _ hu => c_X7_has hz1 hμ hu) rfl (Nat.le_of_ble_eq_true rfl) h mi_X7_has me_X7_has lkm_RX4_93 kt_9 rfl rfl rfl dX4_isThere_77 (fun x3 μ4 hx3 hμ4 h => ?_)
      exact o_zret C hQ dX4_isThere_80 h hμ4
    · rcases ite_some h with ⟨e2, h⟩ | ⟨e2, h⟩
      · refine o_look (off := 44) (tgt := 48) C (hμ.fi kt_42 rfl (by decide)) dX4_isThere_4 rfl (by rw [e2]; first | done | decide) (by decide) ?_
        refine o_aload_n C 0 dX4_isThere_48 rfl rfl ?_
        refine o_getR (j := 0) C kt_42 rfl rfl (Nat.le_of_ble_eq_true rfl) lkf_RX4_41 dX4_isThere_49 ?_
        refine o_iload_n C 1 dX4_isThere_52 rfl rfl ?_
        refine o_cVI C [vI z1] mb_X2_hasCell (by decide) (fun _ hu => c_X2_hasCell hz1 hμ hu) rfl (Nat.le_of_ble_eq_true rfl) h mi_X2_hasCell me_X2_hasCell lkm_RX4_75 kt_1 rfl rfl rfl dX4_isThere_53 (fun x5 μ6 hx5 hμ6 h => ?_)
        exact o_zret C hQ dX4_isThere_56 h hμ6
      · rcases ite_some h with ⟨e3, h⟩ | ⟨e3, h⟩
        · refine o_look (off := 53) (tgt := 57) C (hμ.fi kt_42 rfl (by decide)) dX4_isThere_4 rfl (by rw [e3]; first | done | decide) (by decide) ?_
          refine o_aload_n C 0 dX4_isThere_57 rfl rfl ?_
          refine o_getR (j := 0) C kt_42 rfl rfl (Nat.le_of_ble_eq_true rfl) lkf_RX4_41 dX4_isThere_58 ?_
          refine o_getR (j := 7) C kt_1 rfl rfl (Nat.le_of_ble_eq_true rfl) lkf_RX4_80 dX4_isThere_61 ?_
          refine o_iload_n C 1 dX4_isThere_64 rfl rfl ?_
          refine o_cVI C [vI z1] mb_X9_has (by decide) (fun _ hu => c_X9_has hz1 hμ hu) rfl (Nat.le_of_ble_eq_true rfl) h mi_X9_has me_X9_has lkm_RX4_84 kt_18 rfl rfl rfl dX4_isThere_65 (fun x7 μ8 hx7 hμ8 h => ?_)
          exact o_zret C hQ dX4_isThere_68 h hμ8
        · refine o_look (off := 89) (tgt := 93) C (hμ.fi kt_42 rfl (by decide)) dX4_isThere_4 rfl (by rw [Op.lookupswitch.offset_cons, if_neg (fun q => e0 q.symm), Op.lookupswitch.offset_cons, if_neg (fun q => e1 q.symm), Op.lookupswitch.offset_cons, if_neg (fun q => e2 q.symm), Op.lookupswitch.offset_cons, if_neg (fun q => e3 q.symm)]; first | done | rfl) (by decide) ?_
          refine o_aload_n C 0 dX4_isThere_93 rfl rfl ?_
          refine o_getR (j := 0) C kt_42 rfl rfl (Nat.le_of_ble_eq_true rfl) lkf_RX4_41 dX4_isThere_94 ?_
          refine o_getR (j := 4) C kt_1 rfl rfl (Nat.le_of_ble_eq_true rfl) lkf_RX4_103 dX4_isThere_97 ?_
          refine o_iload_n C 1 dX4_isThere_100 rfl rfl ?_
          refine o_cVI C [vI z1] mb_X3_has (by decide) (fun _ hu => c_X3_has hz1 hμ hu) rfl (Nat.le_of_ble_eq_true rfl) h mi_X3_has me_X3_has lkm_RX4_107 kt_5 rfl rfl rfl dX4_isThere_101 (fun x9 μ10 hx9 hμ10 h => ?_)
          exact o_zret C hQ dX4_isThere_104 h hμ10
theorem c_X4_isThere {z1 : Int} (hz1 : r32 z1) {μ : GM} (hμ : gRg μ) {u : Int × GM} (h : f_X4_isThere z1 μ = some u) : MtI 1 yX4_isThere cX4_isThere 2 (some .boolean) (fun ad => [.ref (ad 42), vI z1]) μ u := MtI.of pf_X4_isThere (fun _ => Nat.le_of_ble_eq_true rfl) (fun G C hQ => w_X4_isThere_0 C hQ hz1 hμ h)
def f_X4_afterNumber (z1 : Int) (μ : GM) : Option (Int × GM) :=
  bd (f_X4_isDigit z1 μ) fun x1 μ2 =>
  if x1 = 0 then
    some (7, μ2)
  else
    if (μ2.2 42 5) < 7 then
      lm (gF μ2 42 5 (w32 ((μ2.2 42 5) + 1))) fun μ3 =>
      some (5, μ3)
    else
      some (7, μ2)
set_option maxHeartbeats 4000000 in
set_option maxRecDepth 100000 in
theorem w_X4_afterNumber_0 {G : GX} {u : Int × GM} (C : CX G 1 cX4_afterNumber 2 RX4) (hQ : gQI G (some .int) u) {z1 : Int} (hz1 : r32 z1) {μ : GM} (hμ : gRg μ) (h : f_X4_afterNumber z1 μ = some u) : WM G 2 μ 0 [(0, gR G 42), (1, vI z1)] [] := by
  unfold f_X4_afterNumber at h
  refine o_iload_n C 1 dX4_afterNumber_0 rfl rfl ?_
  refine o_cSI C [vI z1] mb_X4_isDigit (by decide) (fun _ hu => c_X4_isDigit hz1 hμ hu) rfl (Nat.le_of_ble_eq_true rfl) h ms_X4_isDigit lkm_RX4_62 rfl rfl dX4_afterNumber_1 (fun x1 μ2 hx1 hμ2 h => ?_)
  refine o_if_eq (tgt := 16) C hx1 dX4_afterNumber_4 (by decide) h (fun _ h => ?_) (fun _ h => ?_)
  · refine o_bipush (v := 7) C dX4_afterNumber_16 (by decide) ?_
    exact o_iret C hQ dX4_afterNumber_18 h ⟨by decide, by decide⟩ hμ2
  · refine o_aload_n C 0 dX4_afterNumber_7 rfl rfl ?_
    refine o_getI (j := 5) C kt_42 rfl rfl (Nat.le_of_ble_eq_true rfl) lkf_RX4_22 dX4_afterNumber_8 ?_
    refine o_bipush (v := 7) C dX4_afterNumber_11 (by decide) ?_
    refine o_icmp_lt (tgt := 19) C (hμ2.fi kt_42 rfl (by decide)) ⟨by decide, by decide⟩ dX4_afterNumber_13 (by decide) h (fun _ h => ?_) (fun _ h => ?_)
    · refine o_aload_n C 0 dX4_afterNumber_19 rfl rfl ?_
      refine o_dupr C dX4_afterNumber_20 ?_
      refine o_getI (j := 5) C kt_42 rfl rfl (Nat.le_of_ble_eq_true rfl) lkf_RX4_22 dX4_afterNumber_21 ?_
      refine o_iconst C dX4_afterNumber_24 ?_
      refine o_iadd C dX4_afterNumber_25 ?_
      refine o_putI (j := 5) C kt_42 rfl rfl tyX4_ok nmX4 (Nat.le_of_ble_eq_true rfl) lkf_RX4_22 rfl rfl (r32_w _) hμ2 dX4_afterNumber_26 h (fun μ3 hμ3 h => ?_)
      refine o_iconst C dX4_afterNumber_29 ?_
      exact o_iret C hQ dX4_afterNumber_30 h ⟨by decide, by decide⟩ hμ3
    · refine o_bipush (v := 7) C dX4_afterNumber_16 (by decide) ?_
      exact o_iret C hQ dX4_afterNumber_18 h ⟨by decide, by decide⟩ hμ2
theorem c_X4_afterNumber {z1 : Int} (hz1 : r32 z1) {μ : GM} (hμ : gRg μ) {u : Int × GM} (h : f_X4_afterNumber z1 μ = some u) : MtI 1 yX4_afterNumber cX4_afterNumber 2 (some .int) (fun ad => [.ref (ad 42), vI z1]) μ u := MtI.of pf_X4_afterNumber (fun _ => Nat.le_of_ble_eq_true rfl) (fun G C hQ => w_X4_afterNumber_0 C hQ hz1 hμ h)
def f_X4_afterBehind (z1 : Int) (μ : GM) : Option (Int × GM) :=
  if z1 = 38 then
    some (0, μ)
  else
    if z1 = 124 then
      some (0, μ)
    else
      if z1 = 41 then
        if (μ.2 42 4) = 0 then
          some (7, μ)
        else
          lm (gF μ 42 4 (w32 ((μ.2 42 4) - 1))) fun μ1 =>
          some (6, μ1)
      else
        some (7, μ)
set_option maxHeartbeats 4000000 in
set_option maxRecDepth 100000 in
theorem w_X4_afterBehind_0 {G : GX} {u : Int × GM} (C : CX G 0 cX4_afterBehind 2 RX4) (hQ : gQI G (some .int) u) {z1 : Int} (hz1 : r32 z1) {μ : GM} (hμ : gRg μ) (h : f_X4_afterBehind z1 μ = some u) : WM G 2 μ 0 [(0, gR G 42), (1, vI z1)] [] := by
  unfold f_X4_afterBehind at h
  refine o_iload_n C 1 dX4_afterBehind_0 rfl rfl ?_
  refine o_bipush (v := 38) C dX4_afterBehind_1 (by decide) ?_
  refine o_icmp_eq (tgt := 12) C hz1 ⟨by decide, by decide⟩ dX4_afterBehind_3 (by decide) h (fun _ h => ?_) (fun _ h => ?_)
  · refine o_iconst C dX4_afterBehind_12 ?_
    exact o_iret C hQ dX4_afterBehind_13 h ⟨by decide, by decide⟩ hμ
  · refine o_iload_n C 1 dX4_afterBehind_6 rfl rfl ?_
    refine o_bipush (v := 124) C dX4_afterBehind_7 (by decide) ?_
    refine o_icmp_ne (tgt := 14) C hz1 ⟨by decide, by decide⟩ dX4_afterBehind_9 (by decide) h (fun _ h => ?_) (fun _ h => ?_)
    · refine o_iload_n C 1 dX4_afterBehind_14 rfl rfl ?_
      refine o_bipush (v := 41) C dX4_afterBehind_15 (by decide) ?_
      refine o_icmp_ne (tgt := 27) C hz1 ⟨by decide, by decide⟩ dX4_afterBehind_17 (by decide) h (fun _ h => ?_) (fun _ h => ?_)
      · refine o_bipush (v := 7) C dX4_afterBehind_27 (by decide) ?_
        exact o_iret C hQ dX4_afterBehind_29 h ⟨by decide, by decide⟩ hμ
      · refine o_aload_n C 0 dX4_afterBehind_20 rfl rfl ?_
        refine o_getI (j := 4) C kt_42 rfl rfl (Nat.le_of_ble_eq_true rfl) lkf_RX4_19 dX4_afterBehind_21 ?_
        refine o_if_ne (tgt := 30) C (hμ.fi kt_42 rfl (by decide)) dX4_afterBehind_24 (by decide) h (fun _ h => ?_) (fun _ h => ?_)
        · refine o_aload_n C 0 dX4_afterBehind_30 rfl rfl ?_
          refine o_dupr C dX4_afterBehind_31 ?_
          refine o_getI (j := 4) C kt_42 rfl rfl (Nat.le_of_ble_eq_true rfl) lkf_RX4_19 dX4_afterBehind_32 ?_
          refine o_iconst C dX4_afterBehind_35 ?_
          refine o_isub C dX4_afterBehind_36 ?_
          refine o_putI (j := 4) C kt_42 rfl rfl tyX4_ok nmX4 (Nat.le_of_ble_eq_true rfl) lkf_RX4_19 rfl rfl (r32_w _) hμ dX4_afterBehind_37 h (fun μ1 hμ1 h => ?_)
          refine o_bipush (v := 6) C dX4_afterBehind_40 (by decide) ?_
          exact o_iret C hQ dX4_afterBehind_42 h ⟨by decide, by decide⟩ hμ1
        · refine o_bipush (v := 7) C dX4_afterBehind_27 (by decide) ?_
          exact o_iret C hQ dX4_afterBehind_29 h ⟨by decide, by decide⟩ hμ
    · refine o_iconst C dX4_afterBehind_12 ?_
      exact o_iret C hQ dX4_afterBehind_13 h ⟨by decide, by decide⟩ hμ
theorem c_X4_afterBehind {z1 : Int} (hz1 : r32 z1) {μ : GM} (hμ : gRg μ) {u : Int × GM} (h : f_X4_afterBehind z1 μ = some u) : MtI 0 yX4_afterBehind cX4_afterBehind 2 (some .int) (fun ad => [.ref (ad 42), vI z1]) μ u := MtI.of pf_X4_afterBehind (fun _ => Nat.le_of_ble_eq_true rfl) (fun G C hQ => w_X4_afterBehind_0 C hQ hz1 hμ h)
def f_X4_after (z1 : Int) (z2 : Int) (μ : GM) : Option (Int × GM) :=
  if z1 = 0 then
    bd (f_X4_afterOne z2 μ) fun x1 μ2 =>
    some (x1, μ2)
  else if z1 = 1 then
    bd (f_X4_isDigit z2 μ) fun x3 μ4 =>
    if x3 = 0 then
      some (7, μ4)
    else
      bd (f_X4_isThere (w32 (z2 - 48)) μ4) fun x5 μ6 =>
      if x5 = 0 then
        some (7, μ6)
      else
        some (2, μ6)
  else if z1 = 2 then
    if z2 = 60 then
      some (3, μ)
    else
      if z2 = 62 then
        some (3, μ)
      else
        if z2 = 61 then
          some (3, μ)
        else
          some (7, μ)
  else if z1 = 3 then
    lm (gF μ 42 5 0) fun μ7 =>
    if z2 = 45 then
      some (4, μ7)
    else
      bd (f_X4_afterNumber z2 μ7) fun x8 μ9 =>
      some (x8, μ9)
  else if z1 = 4 then
    bd (f_X4_afterNumber z2 μ) fun x10 μ11 =>
    some (x10, μ11)
  else if z1 = 5 then
    bd (f_X4_isDigit z2 μ) fun x12 μ13 =>
    if x12 = 0 then
      bd (f_X4_afterBehind z2 μ13) fun x14 μ15 =>
      some (x14, μ15)
    else
      bd (f_X4_afterNumber z2 μ13) fun x16 μ17 =>
      some (x16, μ17)
  else bd (f_X4_afterBehind z2 μ) fun x18 μ19 =>
    some (x18, μ19)
set_option maxHeartbeats 4000000 in
set_option maxRecDepth 100000 in
theorem w_X4_after_0 {G : GX} {u : Int × GM} (C : CX G 2 cX4_after 3 RX4) (hQ : gQI G (some .int) u) {z1 : Int} (hz1 : r32 z1) {z2 : Int} (hz2 : r32 z2) {μ : GM} (hμ : gRg μ) (h : f_X4_after z1 z2 μ = some u) : WM G 3 μ 0 [(0, gR G 42), (1, vI z1), (2, vI z2)] [] := by
  unfold f_X4_after at h
  refine o_iload_n C 1 dX4_after_0 rfl rfl ?_
  rcases ite_some h with ⟨e0, h⟩ | ⟨e0, h⟩
  · refine o_tableIn (tgt := 40) C e0 ⟨by decide, by decide⟩ dX4_after_1 (by decide) (by decide) rfl (by decide) ?_
    refine o_aload_n C 0 dX4_after_40 rfl rfl ?_
    refine o_iload_n C 2 dX4_after_41 rfl rfl ?_
    refine o_cVI C [vI z2] mb_X4_afterOne (by decide) (fun _ hu => c_X4_afterOne hz2 hμ hu) rfl (Nat.le_of_ble_eq_true rfl) h mi_X4_afterOne me_X4_afterOne lkm_RX4_58 kt_42 rfl rfl rfl dX4_after_42 (fun x1 μ2 hx1 hμ2 h => ?_)
    exact o_iret C hQ dX4_after_45 h hx1 hμ2
  · rcases ite_some h with ⟨e1, h⟩ | ⟨e1, h⟩
    · refine o_tableIn (tgt := 46) C e1 ⟨by decide, by decide⟩ dX4_after_1 (by decide) (by decide) rfl (by decide) ?_
      refine o_iload_n C 2 dX4_after_46 rfl rfl ?_
      refine o_cSI C [vI z2] mb_X4_isDigit (by decide) (fun _ hu => c_X4_isDigit hz2 hμ hu) rfl (Nat.le_of_ble_eq_true rfl) h ms_X4_isDigit lkm_RX4_62 rfl rfl dX4_after_47 (fun x3 μ4 hx3 hμ4 h => ?_)
      refine o_if_eq (tgt := 68) C hx3 dX4_after_50 (by decide) h (fun _ h => ?_) (fun _ h => ?_)
      · refine o_bipush (v := 7) C dX4_after_68 (by decide) ?_
        exact o_iret C hQ dX4_after_70 h ⟨by decide, by decide⟩ hμ4
      · refine o_aload_n C 0 dX4_after_53 rfl rfl ?_
        refine o_iload_n C 2 dX4_after_54 rfl rfl ?_
        refine o_bipush (v := 48) C dX4_after_55 (by decide) ?_
        refine o_isub C dX4_after_57 ?_
        refine o_cVI C [vI (w32 (z2 - 48))] mb_X4_isThere (by decide) (fun _ hu => c_X4_isThere (r32_w _) hμ4 hu) rfl (Nat.le_of_ble_eq_true rfl) h mi_X4_isThere me_X4_isThere lkm_RX4_66 kt_42 rfl rfl rfl dX4_after_58 (fun x5 μ6 hx5 hμ6 h => ?_)
        refine o_if_eq (tgt := 68) C hx5 dX4_after_61 (by decide) h (fun _ h => ?_) (fun _ h => ?_)
        · refine o_bipush (v := 7) C dX4_after_68 (by decide) ?_
          exact o_iret C hQ dX4_after_70 h ⟨by decide, by decide⟩ hμ6
        · refine o_iconst C dX4_after_64 ?_
          refine o_goto (tgt := 70) C dX4_after_65 (by decide) ?_
          exact o_iret C hQ dX4_after_70 h ⟨by decide, by decide⟩ hμ6
    · rcases ite_some h with ⟨e2, h⟩ | ⟨e2, h⟩
      · refine o_tableIn (tgt := 71) C e2 ⟨by decide, by decide⟩ dX4_after_1 (by decide) (by decide) rfl (by decide) ?_
        refine o_iload_n C 2 dX4_after_71 rfl rfl ?_
        refine o_bipush (v := 60) C dX4_after_72 (by decide) ?_
        refine o_icmp_eq (tgt := 89) C hz2 ⟨by decide, by decide⟩ dX4_after_74 (by decide) h (fun _ h => ?_) (fun _ h => ?_)
        · refine o_iconst C dX4_after_89 ?_
          refine o_goto (tgt := 95) C dX4_after_90 (by decide) ?_
          exact o_iret C hQ dX4_after_95 h ⟨by decide, by decide⟩ hμ
        · refine o_iload_n C 2 dX4_after_77 rfl rfl ?_
          refine o_bipush (v := 62) C dX4_after_78 (by decide) ?_
          refine o_icmp_eq (tgt := 89) C hz2 ⟨by decide, by decide⟩ dX4_after_80 (by decide) h (fun _ h => ?_) (fun _ h => ?_)
          · refine o_iconst C dX4_after_89 ?_
            refine o_goto (tgt := 95) C dX4_after_90 (by decide) ?_
            exact o_iret C hQ dX4_after_95 h ⟨by decide, by decide⟩ hμ
          · refine o_iload_n C 2 dX4_after_83 rfl rfl ?_
            refine o_bipush (v := 61) C dX4_after_84 (by decide) ?_
            refine o_icmp_ne (tgt := 93) C hz2 ⟨by decide, by decide⟩ dX4_after_86 (by decide) h (fun _ h => ?_) (fun _ h => ?_)
            · refine o_bipush (v := 7) C dX4_after_93 (by decide) ?_
              exact o_iret C hQ dX4_after_95 h ⟨by decide, by decide⟩ hμ
            · refine o_iconst C dX4_after_89 ?_
              refine o_goto (tgt := 95) C dX4_after_90 (by decide) ?_
              exact o_iret C hQ dX4_after_95 h ⟨by decide, by decide⟩ hμ
      · rcases ite_some h with ⟨e3, h⟩ | ⟨e3, h⟩
        · refine o_tableIn (tgt := 96) C e3 ⟨by decide, by decide⟩ dX4_after_1 (by decide) (by decide) rfl (by decide) ?_
          refine o_aload_n C 0 dX4_after_96 rfl rfl ?_
          refine o_iconst C dX4_after_97 ?_
          refine o_putI (j := 5) C kt_42 rfl rfl tyX4_ok nmX4 (Nat.le_of_ble_eq_true rfl) lkf_RX4_22 rfl rfl ⟨by decide, by decide⟩ hμ dX4_after_98 h (fun μ7 hμ7 h => ?_)
          refine o_iload_n C 2 dX4_after_101 rfl rfl ?_
          refine o_bipush (v := 45) C dX4_after_102 (by decide) ?_
          refine o_icmp_ne (tgt := 111) C hz2 ⟨by decide, by decide⟩ dX4_after_104 (by decide) h (fun _ h => ?_) (fun _ h => ?_)
          · refine o_aload_n C 0 dX4_after_111 rfl rfl ?_
            refine o_iload_n C 2 dX4_after_112 rfl rfl ?_
            refine o_cVI C [vI z2] mb_X4_afterNumber (by decide) (fun _ hu => c_X4_afterNumber hz2 hμ7 hu) rfl (Nat.le_of_ble_eq_true rfl) h mi_X4_afterNumber me_X4_afterNumber lkm_RX4_69 kt_42 rfl rfl rfl dX4_after_113 (fun x8 μ9 hx8 hμ9 h => ?_)
            exact o_iret C hQ dX4_after_116 h hx8 hμ9
          · refine o_iconst C dX4_after_107 ?_
            refine o_goto (tgt := 116) C dX4_after_108 (by decide) ?_
            exact o_iret C hQ dX4_after_116 h ⟨by decide, by decide⟩ hμ7
        · rcases ite_some h with ⟨e4, h⟩ | ⟨e4, h⟩
          · refine o_tableIn (tgt := 117) C e4 ⟨by decide, by decide⟩ dX4_after_1 (by decide) (by decide) rfl (by decide) ?_
            refine o_aload_n C 0 dX4_after_117 rfl rfl ?_
            refine o_iload_n C 2 dX4_after_118 rfl rfl ?_
            refine o_cVI C [vI z2] mb_X4_afterNumber (by decide) (fun _ hu => c_X4_afterNumber hz2 hμ hu) rfl (Nat.le_of_ble_eq_true rfl) h mi_X4_afterNumber me_X4_afterNumber lkm_RX4_69 kt_42 rfl rfl rfl dX4_after_119 (fun x10 μ11 hx10 hμ11 h => ?_)
            exact o_iret C hQ dX4_after_122 h hx10 hμ11
          · rcases ite_some h with ⟨e5, h⟩ | ⟨e5, h⟩
            · refine o_tableIn (tgt := 123) C e5 ⟨by decide, by decide⟩ dX4_after_1 (by decide) (by decide) rfl (by decide) ?_
              refine o_iload_n C 2 dX4_after_123 rfl rfl ?_
              refine o_cSI C [vI z2] mb_X4_isDigit (by decide) (fun _ hu => c_X4_isDigit hz2 hμ hu) rfl (Nat.le_of_ble_eq_true rfl) h ms_X4_isDigit lkm_RX4_62 rfl rfl dX4_after_124 (fun x12 μ13 hx12 hμ13 h => ?_)
              refine o_if_eq (tgt := 138) C hx12 dX4_after_127 (by decide) h (fun _ h => ?_) (fun _ h => ?_)
              · refine o_aload_n C 0 dX4_after_138 rfl rfl ?_
                refine o_iload_n C 2 dX4_after_139 rfl rfl ?_
                refine o_cVI C [vI z2] mb_X4_afterBehind (by decide) (fun _ hu => c_X4_afterBehind hz2 hμ13 hu) rfl (Nat.le_of_ble_eq_true rfl) h mi_X4_afterBehind me_X4_afterBehind lkm_RX4_72 kt_42 rfl rfl rfl dX4_after_140 (fun x14 μ15 hx14 hμ15 h => ?_)
                exact o_iret C hQ dX4_after_143 h hx14 hμ15
              · refine o_aload_n C 0 dX4_after_130 rfl rfl ?_
                refine o_iload_n C 2 dX4_after_131 rfl rfl ?_
                refine o_cVI C [vI z2] mb_X4_afterNumber (by decide) (fun _ hu => c_X4_afterNumber hz2 hμ13 hu) rfl (Nat.le_of_ble_eq_true rfl) h mi_X4_afterNumber me_X4_afterNumber lkm_RX4_69 kt_42 rfl rfl rfl dX4_after_132 (fun x16 μ17 hx16 hμ17 h => ?_)
                refine o_goto (tgt := 143) C dX4_after_135 (by decide) ?_
                exact o_iret C hQ dX4_after_143 h hx16 hμ17
            · refine o_tableOut (tgt := 144) C hz1 dX4_after_1 (by omega) (by decide) ?_
              refine o_aload_n C 0 dX4_after_144 rfl rfl ?_
              refine o_iload_n C 2 dX4_after_145 rfl rfl ?_
              refine o_cVI C [vI z2] mb_X4_afterBehind (by decide) (fun _ hu => c_X4_afterBehind hz2 hμ hu) rfl (Nat.le_of_ble_eq_true rfl) h mi_X4_afterBehind me_X4_afterBehind lkm_RX4_72 kt_42 rfl rfl rfl dX4_after_146 (fun x18 μ19 hx18 hμ19 h => ?_)
              exact o_iret C hQ dX4_after_149 h hx18 hμ19
theorem c_X4_after {z1 : Int} (hz1 : r32 z1) {z2 : Int} (hz2 : r32 z2) {μ : GM} (hμ : gRg μ) {u : Int × GM} (h : f_X4_after z1 z2 μ = some u) : MtI 2 yX4_after cX4_after 3 (some .int) (fun ad => [.ref (ad 42), vI z1, vI z2]) μ u := MtI.of pf_X4_after (fun _ => Nat.le_of_ble_eq_true rfl) (fun G C hQ => w_X4_after_0 C hQ hz1 hz2 hμ h)
def k_X4_firstFault_64 (μ : GM) : Option (Int × GM) :=
  if (μ.2 42 4) = 0 then
    some ((-10000009), μ)
  else
    some ((μ.2 42 2), μ)
set_option maxHeartbeats 4000000 in
set_option maxRecDepth 100000 in
theorem w_X4_firstFault_64 {G : GX} {u : Int × GM} (C : CX G 3 cX4_firstFault 3 RX4) (hQ : gQI G (some .int) u) {μ : GM} (hμ : gRg μ) (h : k_X4_firstFault_64 μ = some u) : WM G 3 μ 64 [(0, gR G 42)] [] := by
  unfold k_X4_firstFault_64 at h
  refine o_aload_n C 0 dX4_firstFault_64 rfl rfl ?_
  refine o_getI (j := 4) C kt_42 rfl rfl (Nat.le_of_ble_eq_true rfl) lkf_RX4_19 dX4_firstFault_65 ?_
  refine o_if_ne (tgt := 76) C (hμ.fi kt_42 rfl (by decide)) dX4_firstFault_68 (by decide) h (fun _ h => ?_) (fun _ h => ?_)
  · refine o_aload_n C 0 dX4_firstFault_76 rfl rfl ?_
    refine o_getI (j := 2) C kt_42 rfl rfl (Nat.le_of_ble_eq_true rfl) lkf_RX4_9 dX4_firstFault_77 ?_
    exact o_iret C hQ dX4_firstFault_80 h (hμ.fi kt_42 rfl (by decide)) hμ
  · refine o_ldc (v := (-10000009)) C lkc_RX4_53 rfl dX4_firstFault_71 ?_
    refine o_goto (tgt := 80) C dX4_firstFault_73 (by decide) ?_
    exact o_iret C hQ dX4_firstFault_80 h ⟨by decide, by decide⟩ hμ
def k_X4_firstFault_19 : Nat → Int → Int → GM → Option (Int × GM)
  | 0, _, _, _ => none
  | n + 1, z1, z2, μ =>
    if z2 < (μ.2 42 2) then
      ck (0 ≤ z2 ∧ z2 < 200) (
      bd (f_X4_after z1 (μ.1 43 z2) μ) fun x1 μ2 =>
      if x1 = 7 then
        some (z2, μ2)
      else
        lt (w32 (z2 + 1)) fun x3 =>
        k_X4_firstFault_19 n x1 x3 μ2)
    else
      if z1 = 5 then
        k_X4_firstFault_64 μ
      else
        if z1 = 6 then
          k_X4_firstFault_64 μ
        else
          some ((μ.2 42 2), μ)
set_option maxHeartbeats 4000000 in
set_option maxRecDepth 100000 in
theorem w_X4_firstFault_19 {G : GX} {u : Int × GM} (C : CX G 3 cX4_firstFault 3 RX4) (hQ : gQI G (some .int) u) : ∀ (n : Nat) (z1 : Int) (hz1 : r32 z1) (z2 : Int) (hz2 : r32 z2) (μ : GM) (hμ : gRg μ), k_X4_firstFault_19 n z1 z2 μ = some u → WM G 3 μ 19 [(0, gR G 42), (1, vI z1), (2, vI z2)] [] := by
  intro n
  induction n with
  | zero =>
    intro z1 hz1 z2 hz2 μ hμ h
    cases h
  | succ n ih =>
    intro z1 hz1 z2 hz2 μ hμ h
    rw [k_X4_firstFault_19] at h
    refine o_iload_n C 2 dX4_firstFault_19 rfl rfl ?_
    refine o_aload_n C 0 dX4_firstFault_20 rfl rfl ?_
    refine o_getI (j := 2) C kt_42 rfl rfl (Nat.le_of_ble_eq_true rfl) lkf_RX4_9 dX4_firstFault_21 ?_
    refine o_icmp_ge (tgt := 53) C hz2 (hμ.fi kt_42 rfl (by decide)) dX4_firstFault_24 (by decide) h (fun _ h => ?_) (fun _ h => ?_)
    · refine o_iload_n C 1 dX4_firstFault_53 rfl rfl ?_
      refine o_iconst C dX4_firstFault_54 ?_
      refine o_icmp_eq (tgt := 64) C hz1 ⟨by decide, by decide⟩ dX4_firstFault_55 (by decide) h (fun _ h => ?_) (fun _ h => ?_)
      · exact WM.sub [0] rfl (w_X4_firstFault_64 C hQ hμ h)
      · refine o_iload_n C 1 dX4_firstFault_58 rfl rfl ?_
        refine o_bipush (v := 6) C dX4_firstFault_59 (by decide) ?_
        refine o_icmp_ne (tgt := 76) C hz1 ⟨by decide, by decide⟩ dX4_firstFault_61 (by decide) h (fun _ h => ?_) (fun _ h => ?_)
        · refine o_aload_n C 0 dX4_firstFault_76 rfl rfl ?_
          refine o_getI (j := 2) C kt_42 rfl rfl (Nat.le_of_ble_eq_true rfl) lkf_RX4_9 dX4_firstFault_77 ?_
          exact o_iret C hQ dX4_firstFault_80 h (hμ.fi kt_42 rfl (by decide)) hμ
        · exact WM.sub [0] rfl (w_X4_firstFault_64 C hQ hμ h)
    · refine o_aload_n C 0 dX4_firstFault_27 rfl rfl ?_
      refine o_iload_n C 1 dX4_firstFault_28 rfl rfl ?_
      refine o_aload_n C 0 dX4_firstFault_29 rfl rfl ?_
      refine o_getR (j := 3) C kt_42 rfl rfl (Nat.le_of_ble_eq_true rfl) lkf_RX4_15 dX4_firstFault_30 ?_
      refine o_iload_n C 2 dX4_firstFault_33 rfl rfl ?_
      refine o_iald C kt_43 rfl hz2 dX4_firstFault_34 h (fun h => ?_)
      refine o_cVI C [vI z1, vI (μ.1 43 z2)] mb_X4_after (by decide) (fun _ hu => c_X4_after hz1 (hμ.i kt_43 (by decide) _) hμ hu) rfl (Nat.le_of_ble_eq_true rfl) h mi_X4_after me_X4_after lkm_RX4_54 kt_42 rfl rfl rfl dX4_firstFault_35 (fun x1 μ2 hx1 hμ2 h => ?_)
      refine o_istore_n (lv2 := [(1, vI x1), (0, gR G 42), (2, vI z2)]) C dX4_firstFault_38 rfl (by decide) rfl ?_
      refine o_iload_n C 0 dX4_firstFault_39 rfl rfl ?_
      refine o_bipush (v := 7) C dX4_firstFault_40 (by decide) ?_
      refine o_icmp_ne (tgt := 47) C hx1 ⟨by decide, by decide⟩ dX4_firstFault_42 (by decide) h (fun _ h => ?_) (fun _ h => ?_)
      · refine o_iinc (lv2 := fun x3 => [(2, vI x3), (1, vI x1), (0, gR G 42)]) C 2 dX4_firstFault_47 rfl (by decide) (fun _ => rfl) h (fun x3 hx3 h => ?_)
        refine o_goto (tgt := 19) C dX4_firstFault_50 (by decide) ?_
        exact WM.sub [2, 1, 0] rfl (ih x1 hx1 x3 hx3 μ2 hμ2 h)
      · refine o_iload_n C 2 dX4_firstFault_45 rfl rfl ?_
        exact o_iret C hQ dX4_firstFault_46 h hz2 hμ2
def f_X4_firstFault (μ : GM) : Option (Int × GM) :=
  if (μ.2 42 2) = 0 then
    some ((-10000009), μ)
  else
    lm (gF μ 42 4 0) fun μ1 =>
    k_X4_firstFault_19 FU 0 0 μ1
set_option maxHeartbeats 4000000 in
set_option maxRecDepth 100000 in
theorem w_X4_firstFault_0 {G : GX} {u : Int × GM} (C : CX G 3 cX4_firstFault 3 RX4) (hQ : gQI G (some .int) u) {μ : GM} (hμ : gRg μ) (h : f_X4_firstFault μ = some u) : WM G 3 μ 0 [(0, gR G 42)] [] := by
  unfold f_X4_firstFault at h
  refine o_aload_n C 0 dX4_firstFault_0 rfl rfl ?_
  refine o_getI (j := 2) C kt_42 rfl rfl (Nat.le_of_ble_eq_true rfl) lkf_RX4_9 dX4_firstFault_1 ?_
  refine o_if_ne (tgt := 10) C (hμ.fi kt_42 rfl (by decide)) dX4_firstFault_4 (by decide) h (fun _ h => ?_) (fun _ h => ?_)
  · refine o_iconst C dX4_firstFault_10 ?_
    refine o_istore_n (lv2 := [(1, vI 0), (0, gR G 42)]) C dX4_firstFault_11 rfl (by decide) rfl ?_
    refine o_aload_n C 1 dX4_firstFault_12 rfl rfl ?_
    refine o_iconst C dX4_firstFault_13 ?_
    refine o_putI (j := 4) C kt_42 rfl rfl tyX4_ok nmX4 (Nat.le_of_ble_eq_true rfl) lkf_RX4_19 rfl rfl ⟨by decide, by decide⟩ hμ dX4_firstFault_14 h (fun μ1 hμ1 h => ?_)
    refine o_iconst C dX4_firstFault_17 ?_
    refine o_istore_n (lv2 := [(2, vI 0), (1, vI 0), (0, gR G 42)]) C dX4_firstFault_18 rfl (by decide) rfl ?_
    exact WM.sub [2, 1, 0] rfl (w_X4_firstFault_19 C hQ FU 0 ⟨by decide, by decide⟩ 0 ⟨by decide, by decide⟩ μ1 hμ1 h)
  · refine o_ldc (v := (-10000009)) C lkc_RX4_53 rfl dX4_firstFault_7 ?_
    exact o_iret C hQ dX4_firstFault_9 h ⟨by decide, by decide⟩ hμ
theorem c_X4_firstFault {μ : GM} (hμ : gRg μ) {u : Int × GM} (h : f_X4_firstFault μ = some u) : MtI 3 yX4_firstFault cX4_firstFault 3 (some .int) (fun ad => [.ref (ad 42)]) μ u := MtI.of pf_X4_firstFault (fun _ => Nat.le_of_ble_eq_true rfl) (fun G C hQ => w_X4_firstFault_0 C hQ hμ h)
def f_X4_isPermit (μ : GM) : Option (Int × GM) :=
  if 0 < (μ.2 42 2) then
    bd (f_X4_firstFault μ) fun x1 μ2 =>
    if x1 = (-10000009) then
      some (1 % 2, μ2)
    else
      some (0 % 2, μ2)
  else
    some (0 % 2, μ)
set_option maxHeartbeats 4000000 in
set_option maxRecDepth 100000 in
theorem w_X4_isPermit_0 {G : GX} {u : Int × GM} (C : CX G 4 cX4_isPermit 1 RX4) (hQ : gQI G (some .boolean) u) {μ : GM} (hμ : gRg μ) (h : f_X4_isPermit μ = some u) : WM G 1 μ 0 [(0, gR G 42)] [] := by
  unfold f_X4_isPermit at h
  refine o_aload_n C 0 dX4_isPermit_0 rfl rfl ?_
  refine o_getI (j := 2) C kt_42 rfl rfl (Nat.le_of_ble_eq_true rfl) lkf_RX4_9 dX4_isPermit_1 ?_
  refine o_if_le (tgt := 20) C (hμ.fi kt_42 rfl (by decide)) dX4_isPermit_4 (by decide) h (fun _ h => ?_) (fun _ h => ?_)
  · refine o_iconst C dX4_isPermit_20 ?_
    exact o_zret C hQ dX4_isPermit_21 h hμ
  · refine o_aload_n C 0 dX4_isPermit_7 rfl rfl ?_
    refine o_cVI C [] mb_X4_firstFault (by decide) (fun _ hu => c_X4_firstFault hμ hu) rfl (Nat.le_of_ble_eq_true rfl) h mi_X4_firstFault me_X4_firstFault lkm_RX4_49 kt_42 rfl rfl rfl dX4_isPermit_8 (fun x1 μ2 hx1 hμ2 h => ?_)
    refine o_ldc (v := (-10000009)) C lkc_RX4_53 rfl dX4_isPermit_11 ?_
    refine o_icmp_ne (tgt := 20) C hx1 ⟨by decide, by decide⟩ dX4_isPermit_13 (by decide) h (fun _ h => ?_) (fun _ h => ?_)
    · refine o_iconst C dX4_isPermit_20 ?_
      exact o_zret C hQ dX4_isPermit_21 h hμ2
    · refine o_iconst C dX4_isPermit_16 ?_
      refine o_goto (tgt := 21) C dX4_isPermit_17 (by decide) ?_
      exact o_zret C hQ dX4_isPermit_21 h hμ2
theorem c_X4_isPermit {μ : GM} (hμ : gRg μ) {u : Int × GM} (h : f_X4_isPermit μ = some u) : MtI 4 yX4_isPermit cX4_isPermit 1 (some .boolean) (fun ad => [.ref (ad 42)]) μ u := MtI.of pf_X4_isPermit (fun _ => Nat.le_of_ble_eq_true rfl) (fun G C hQ => w_X4_isPermit_0 C hQ hμ h)
def f_X4_open (μ : GM) : Option (Int × GM) :=
  ck (0 ≤ (μ.2 42 4) ∧ (μ.2 42 4) < 201) (lm (gA μ 44 (μ.2 42 4) (0 % 2)) fun μ1 =>
  ck (0 ≤ (μ1.2 42 4) ∧ (μ1.2 42 4) < 201) (lm (gA μ1 45 (μ1.2 42 4) (1 % 2)) fun μ2 =>
  ck (0 ≤ (μ2.2 42 4) ∧ (μ2.2 42 4) < 201) (lm (gA μ2 46 (μ2.2 42 4) (0 % 2)) fun μ3 =>
  some (0, μ3))))
set_option maxHeartbeats 4000000 in
set_option maxRecDepth 100000 in
theorem w_X4_open_0 {G : GX} {u : Int × GM} (C : CX G 0 cX4_open 1 RX4) (hQ : gQV G none u) {μ : GM} (hμ : gRg μ) (h : f_X4_open μ = some u) : WM G 1 μ 0 [(0, gR G 42)] [] := by
  unfold f_X4_open at h
  refine o_aload_n C 0 dX4_open_0 rfl rfl ?_
  refine o_getR (j := 7) C kt_42 rfl rfl (Nat.le_of_ble_eq_true rfl) lkf_RX4_28 dX4_open_1 ?_
  refine o_aload_n C 0 dX4_open_4 rfl rfl ?_
  refine o_getI (j := 4) C kt_42 rfl rfl (Nat.le_of_ble_eq_true rfl) lkf_RX4_19 dX4_open_5 ?_
  refine o_iconst C dX4_open_8 ?_
  refine o_zast C kt_44 rfl (hμ.fi kt_42 rfl (by decide)) ⟨by decide, by decide⟩ hμ dX4_open_9 h (fun μ1 hμ1 h => ?_)
  refine o_aload_n C 0 dX4_open_10 rfl rfl ?_
  refine o_getR (j := 8) C kt_42 rfl rfl (Nat.le_of_ble_eq_true rfl) lkf_RX4_32 dX4_open_11 ?_
  refine o_aload_n C 0 dX4_open_14 rfl rfl ?_
  refine o_getI (j := 4) C kt_42 rfl rfl (Nat.le_of_ble_eq_true rfl) lkf_RX4_19 dX4_open_15 ?_
  refine o_iconst C dX4_open_18 ?_
  refine o_zast C kt_45 rfl (hμ1.fi kt_42 rfl (by decide)) ⟨by decide, by decide⟩ hμ1 dX4_open_19 h (fun μ2 hμ2 h => ?_)
  refine o_aload_n C 0 dX4_open_20 rfl rfl ?_
  refine o_getR (j := 9) C kt_42 rfl rfl (Nat.le_of_ble_eq_true rfl) lkf_RX4_35 dX4_open_21 ?_
  refine o_aload_n C 0 dX4_open_24 rfl rfl ?_
  refine o_getI (j := 4) C kt_42 rfl rfl (Nat.le_of_ble_eq_true rfl) lkf_RX4_19 dX4_open_25 ?_
  refine o_iconst C dX4_open_28 ?_
  refine o_zast C kt_46 rfl (hμ2.fi kt_42 rfl (by decide)) ⟨by decide, by decide⟩ hμ2 dX4_open_29 h (fun μ3 hμ3 h => ?_)
  exact o_vret C hQ dX4_open_30 h hμ3
theorem c_X4_open {μ : GM} (hμ : gRg μ) {u : Int × GM} (h : f_X4_open μ = some u) : MtV 0 yX4_open cX4_open 1 none (fun ad => [.ref (ad 42)]) μ u := MtV.of pf_X4_open (fun _ => Nat.le_of_ble_eq_true rfl) (fun G C hQ => w_X4_open_0 C hQ hμ h)
def f_X4_put (z1 : Int) (μ : GM) : Option (Int × GM) :=
  ck (0 ≤ (μ.2 42 4) ∧ (μ.2 42 4) < 201) (
  if z1 = (μ.1 46 (μ.2 42 4)) then
    ck (0 ≤ (μ.2 42 4) ∧ (μ.2 42 4) < 201) (lm (gA μ 45 (μ.2 42 4) (0 % 2)) fun μ2 =>
    ck (0 ≤ (μ2.2 42 4) ∧ (μ2.2 42 4) < 201) (lm (gA μ2 46 (μ2.2 42 4) (0 % 2)) fun μ3 =>
    some (0, μ3)))
  else
    ck (0 ≤ (μ.2 42 4) ∧ (μ.2 42 4) < 201) (lm (gA μ 46 (μ.2 42 4) (0 % 2)) fun μ1 =>
    some (0, μ1)))
set_option maxHeartbeats 4000000 in
set_option maxRecDepth 100000 in
theorem w_X4_put_0 {G : GX} {u : Int × GM} (C : CX G 0 cX4_put 2 RX4) (hQ : gQV G none u) {z1 : Int} (hz1 : r32 z1) {μ : GM} (hμ : gRg μ) (h : f_X4_put z1 μ = some u) : WM G 2 μ 0 [(0, gR G 42), (1, vI z1)] [] := by
  unfold f_X4_put at h
  refine o_iload_n C 1 dX4_put_0 rfl rfl ?_
  refine o_aload_n C 0 dX4_put_1 rfl rfl ?_
  refine o_getR (j := 9) C kt_42 rfl rfl (Nat.le_of_ble_eq_true rfl) lkf_RX4_35 dX4_put_2 ?_
  refine o_aload_n C 0 dX4_put_5 rfl rfl ?_
  refine o_getI (j := 4) C kt_42 rfl rfl (Nat.le_of_ble_eq_true rfl) lkf_RX4_19 dX4_put_6 ?_
  refine o_zald C kt_46 rfl (hμ.fi kt_42 rfl (by decide)) dX4_put_9 h (fun h => ?_)
  refine o_icmp_ne (tgt := 23) C hz1 (hμ.i kt_46 (by decide) _) dX4_put_10 (by decide) h (fun _ h => ?_) (fun _ h => ?_)
  · refine o_aload_n C 0 dX4_put_23 rfl rfl ?_
    refine o_getR (j := 9) C kt_42 rfl rfl (Nat.le_of_ble_eq_true rfl) lkf_RX4_35 dX4_put_24 ?_
    refine o_aload_n C 0 dX4_put_27 rfl rfl ?_
    refine o_getI (j := 4) C kt_42 rfl rfl (Nat.le_of_ble_eq_true rfl) lkf_RX4_19 dX4_put_28 ?_
    refine o_iconst C dX4_put_31 ?_
    refine o_zast C kt_46 rfl (hμ.fi kt_42 rfl (by decide)) ⟨by decide, by decide⟩ hμ dX4_put_32 h (fun μ1 hμ1 h => ?_)
    exact o_vret C hQ dX4_put_33 h hμ1
  · refine o_aload_n C 0 dX4_put_13 rfl rfl ?_
    refine o_getR (j := 8) C kt_42 rfl rfl (Nat.le_of_ble_eq_true rfl) lkf_RX4_32 dX4_put_14 ?_
    refine o_aload_n C 0 dX4_put_17 rfl rfl ?_
    refine o_getI (j := 4) C kt_42 rfl rfl (Nat.le_of_ble_eq_true rfl) lkf_RX4_19 dX4_put_18 ?_
    refine o_iconst C dX4_put_21 ?_
    refine o_zast C kt_45 rfl (hμ.fi kt_42 rfl (by decide)) ⟨by decide, by decide⟩ hμ dX4_put_22 h (fun μ2 hμ2 h => ?_)
    refine o_aload_n C 0 dX4_put_23 rfl rfl ?_
    refine o_getR (j := 9) C kt_42 rfl rfl (Nat.le_of_ble_eq_true rfl) lkf_RX4_35 dX4_put_24 ?_
    refine o_aload_n C 0 dX4_put_27 rfl rfl ?_
    refine o_getI (j := 4) C kt_42 rfl rfl (Nat.le_of_ble_eq_true rfl) lkf_RX4_19 dX4_put_28 ?_
    refine o_iconst C dX4_put_31 ?_
    refine o_zast C kt_46 rfl (hμ2.fi kt_42 rfl (by decide)) ⟨by decide, by decide⟩ hμ2 dX4_put_32 h (fun μ3 hμ3 h => ?_)
    exact o_vret C hQ dX4_put_33 h hμ3
theorem c_X4_put {z1 : Int} (hz1 : r32 z1) {μ : GM} (hμ : gRg μ) {u : Int × GM} (h : f_X4_put z1 μ = some u) : MtV 0 yX4_put cX4_put 2 none (fun ad => [.ref (ad 42), vI z1]) μ u := MtV.of pf_X4_put (fun _ => Nat.le_of_ble_eq_true rfl) (fun G C hQ => w_X4_put_0 C hQ hz1 hμ h)
def f_X4_nextSign (μ : GM) : Option (Int × GM) :=
  if (μ.2 42 10) < (μ.2 42 2) then
    lm (gF μ 42 10 (w32 ((μ.2 42 10) + 1))) fun μ1 =>
    ck (0 ≤ (μ.2 42 10) ∧ (μ.2 42 10) < 200) (
    some ((μ1.1 43 (μ.2 42 10)), μ1))
  else
    some (0, μ)
set_option maxHeartbeats 4000000 in
set_option maxRecDepth 100000 in
theorem w_X4_nextSign_0 {G : GX} {u : Int × GM} (C : CX G 0 cX4_nextSign 1 RX4) (hQ : gQI G (some .int) u) {μ : GM} (hμ : gRg μ) (h : f_X4_nextSign μ = some u) : WM G 1 μ 0 [(0, gR G 42)] [] := by
  unfold f_X4_nextSign at h
  refine o_aload_n C 0 dX4_nextSign_0 rfl rfl ?_
  refine o_getI (j := 10) C kt_42 rfl rfl (Nat.le_of_ble_eq_true rfl) lkf_RX4_38 dX4_nextSign_1 ?_
  refine o_aload_n C 0 dX4_nextSign_4 rfl rfl ?_
  refine o_getI (j := 2) C kt_42 rfl rfl (Nat.le_of_ble_eq_true rfl) lkf_RX4_9 dX4_nextSign_5 ?_
  refine o_icmp_ge (tgt := 30) C (hμ.fi kt_42 rfl (by decide)) (hμ.fi kt_42 rfl (by decide)) dX4_nextSign_8 (by decide) h (fun _ h => ?_) (fun _ h => ?_)
  · refine o_iconst C dX4_nextSign_30 ?_
    exact o_iret C hQ dX4_nextSign_31 h ⟨by decide, by decide⟩ hμ
  · refine o_aload_n C 0 dX4_nextSign_11 rfl rfl ?_
    refine o_getR (j := 3) C kt_42 rfl rfl (Nat.le_of_ble_eq_true rfl) lkf_RX4_15 dX4_nextSign_12 ?_
    refine o_aload_n C 0 dX4_nextSign_15 rfl rfl ?_
    refine o_dupr C dX4_nextSign_16 ?_
    refine o_getI (j := 10) C kt_42 rfl rfl (Nat.le_of_ble_eq_true rfl) lkf_RX4_38 dX4_nextSign_17 ?_
    refine o_dupx1ri C dX4_nextSign_20 ?_
    refine o_iconst C dX4_nextSign_21 ?_
    refine o_iadd C dX4_nextSign_22 ?_
    refine o_putI (j := 10) C kt_42 rfl rfl tyX4_ok nmX4 (Nat.le_of_ble_eq_true rfl) lkf_RX4_38 rfl rfl (r32_w _) hμ dX4_nextSign_23 h (fun μ1 hμ1 h => ?_)
    refine o_iald C kt_43 rfl (hμ.fi kt_42 rfl (by decide)) dX4_nextSign_26 h (fun h => ?_)
    refine o_goto (tgt := 31) C dX4_nextSign_27 (by decide) ?_
    exact o_iret C hQ dX4_nextSign_31 h (hμ1.i kt_43 (by decide) _) hμ1
theorem c_X4_nextSign {μ : GM} (hμ : gRg μ) {u : Int × GM} (h : f_X4_nextSign μ = some u) : MtI 0 yX4_nextSign cX4_nextSign 1 (some .int) (fun ad => [.ref (ad 42)]) μ u := MtI.of pf_X4_nextSign (fun _ => Nat.le_of_ble_eq_true rfl) (fun G C hQ => w_X4_nextSign_0 C hQ hμ h)
def f_X4_valueOf (a2 : Nat) (z1 : Int) (μ : GM) : Option (Int × GM) :=
  if (μ.2 42 6) = 100 then
    bd (f_X6_drainTop 94 z1 μ) fun x1 μ2 =>
    bd (f_X11_milliOf x1 (μ2.2 94 7) μ2) fun x3 μ4 =>
    some (x3, μ4)
  else if (μ.2 42 6) = 103 then
    bd (f_X6_riverTop 94 z1 μ) fun x5 μ6 =>
    bd (f_X11_milliOf x5 (μ6.2 94 7) μ6) fun x7 μ8 =>
    some (x7, μ8)
  else if (μ.2 42 6) = 104 then
    ck (0 ≤ z1 ∧ z1 < 6) (
    bd (f_X11_milliOf (μ.1 99 z1) (μ.2 94 7) μ) fun x9 μ10 =>
    some (x9, μ10))
  else if (μ.2 42 6) = 113 then
    ck (0 ≤ z1 ∧ z1 < 3) (
    some ((μ.1 a2 z1), μ))
  else bd (f_X6_linkTop 94 z1 μ) fun x11 μ12 =>
    bd (f_X11_milliOf x11 (μ12.2 94 7) μ12) fun x13 μ14 =>
    some (x13, μ14)
set_option maxHeartbeats 4000000 in
set_option maxRecDepth 100000 in
theorem w_X4_valueOf_0 {G : GX} {u : Int × GM} (C : CX G 2 cX4_valueOf 3 RX4) (hQ : gQI G (some .int) u) {a2 : Nat} (ha2 : gKT[a2]? = some (0, 3, 0, [])) {z1 : Int} (hz1 : r32 z1) {μ : GM} (hμ : gRg μ) (h : f_X4_valueOf a2 z1 μ = some u) : WM G 3 μ 0 [(0, gR G 42), (1, vI z1), (2, gR G a2)] [] := by
  unfold f_X4_valueOf at h
  refine o_aload_n C 0 dX4_valueOf_0 rfl rfl ?_
  refine o_getI (j := 6) C kt_42 rfl rfl (Nat.le_of_ble_eq_true rfl) lkf_RX4_25 dX4_valueOf_1 ?_
  rcases ite_some h with ⟨e0, h⟩ | ⟨e0, h⟩
  · refine o_look (off := 87) (tgt := 91) C (hμ.fi kt_42 rfl (by decide)) dX4_valueOf_4 rfl (by rw [e0]; first | done | decide) (by decide) ?_
    refine o_aload_n C 0 dX4_valueOf_91 rfl rfl ?_
    refine o_getR (j := 1) C kt_42 rfl rfl (Nat.le_of_ble_eq_true rfl) lkf_RX4_45 dX4_valueOf_92 ?_
    refine o_iload_n C 1 dX4_valueOf_95 rfl rfl ?_
    refine o_cVL C [vI z1] mb_X6_drainTop (by decide) (fun _ hu => c_X6_drainTop gRt_A hz1 hμ hu) rfl (Nat.le_of_ble_eq_true rfl) h mi_X6_drainTop me_X6_drainTop lkm_RX4_149 kt_94 rfl rfl rfl dX4_valueOf_96 (fun x1 μ2 hx1 hμ2 h => ?_)
    refine o_aload_n C 0 dX4_valueOf_99 rfl rfl ?_
    refine o_getR (j := 1) C kt_42 rfl rfl (Nat.le_of_ble_eq_true rfl) lkf_RX4_45 dX4_valueOf_100 ?_
    refine o_getJ (j := 7) C kt_94 rfl rfl (Nat.le_of_ble_eq_true rfl) lkf_RX4_137 dX4_valueOf_103 ?_
    refine o_cNI C [vJ x1, vJ (μ2.2 94 7)] mb_X11_milliOf (by decide) (fun _ hu => c_X11_milliOf hx1 (hμ2.fl kt_94 rfl) hμ2 hu) rfl (Nat.le_of_ble_eq_true rfl) h ms_X11_milliOf lkm_RX4_141 rfl rfl dX4_valueOf_106 (fun x3 μ4 hx3 hμ4 h => ?_)
    exact o_iret C hQ dX4_valueOf_109 h hx3 hμ4
  · rcases ite_some h with ⟨e1, h⟩ | ⟨e1, h⟩
    · refine o_look (off := 68) (tgt := 72) C (hμ.fi kt_42 rfl (by decide)) dX4_valueOf_4 rfl (by rw [e1]; first | done | decide) (by decide) ?_
      refine o_aload_n C 0 dX4_valueOf_72 rfl rfl ?_
      refine o_getR (j := 1) C kt_42 rfl rfl (Nat.le_of_ble_eq_true rfl) lkf_RX4_45 dX4_valueOf_73 ?_
      refine o_iload_n C 1 dX4_valueOf_76 rfl rfl ?_
      refine o_cVL C [vI z1] mb_X6_riverTop (by decide) (fun _ hu => c_X6_riverTop gRt_A hz1 hμ hu) rfl (Nat.le_of_ble_eq_true rfl) h mi_X6_riverTop me_X6_riverTop lkm_RX4_145 kt_94 rfl rfl rfl dX4_valueOf_77 (fun x5 μ6 hx5 hμ6 h => ?_)
      refine o_aload_n C 0 dX4_valueOf_80 rfl rfl ?_
      refine o_getR (j := 1) C kt_42 rfl rfl (Nat.le_of_ble_eq_true rfl) lkf_RX4_45 dX4_valueOf_81 ?_
      refine o_getJ (j := 7) C kt_94 rfl rfl (Nat.le_of_ble_eq_true rfl) lkf_RX4_137 dX4_valueOf_84 ?_
      refine o_cNI C [vJ x5, vJ (μ6.2 94 7)] mb_X11_milliOf (by decide) (fun _ hu => c_X11_milliOf hx5 (hμ6.fl kt_94 rfl) hμ6 hu) rfl (Nat.le_of_ble_eq_true rfl) h ms_X11_milliOf lkm_RX4_141 rfl rfl dX4_valueOf_87 (fun x7 μ8 hx7 hμ8 h => ?_)
      exact o_iret C hQ dX4_valueOf_90 h hx7 hμ8
    · rcases ite_some h with ⟨e2, h⟩ | ⟨e2, h⟩
      · refine o_look (off := 44) (tgt := 48) C (hμ.fi kt_42 rfl (by decide)) dX4_valueOf_4 rfl (by rw [e2]; first | done | decide) (by decide) ?_
        refine o_aload_n C 0 dX4_valueOf_48 rfl rfl ?_
        refine o_getR (j := 1) C kt_42 rfl rfl (Nat.le_of_ble_eq_true rfl) lkf_RX4_45 dX4_valueOf_49 ?_
        refine o_getR (j := 6) C kt_94 rfl rfl (Nat.le_of_ble_eq_true rfl) lkf_RX4_131 dX4_valueOf_52 ?_
        refine o_iload_n C 1 dX4_valueOf_55 rfl rfl ?_
        refine o_lald C kt_99 rfl hz1 dX4_valueOf_56 h (fun h => ?_)
        refine o_aload_n C 0 dX4_valueOf_57 rfl rfl ?_
        refine o_getR (j := 1) C kt_42 rfl rfl (Nat.le_of_ble_eq_true rfl) lkf_RX4_45 dX4_valueOf_58 ?_
        refine o_getJ (j := 7) C kt_94 rfl rfl (Nat.le_of_ble_eq_true rfl) lkf_RX4_137 dX4_valueOf_61 ?_
        refine o_cNI C [vJ (μ.1 99 z1), vJ (μ.2 94 7)] mb_X11_milliOf (by decide) (fun _ hu => c_X11_milliOf (hμ.l kt_99 _) (hμ.fl kt_94 rfl) hμ hu) rfl (Nat.le_of_ble_eq_true rfl) h ms_X11_milliOf lkm_RX4_141 rfl rfl dX4_valueOf_64 (fun x9 μ10 hx9 hμ10 h => ?_)
        exact o_iret C hQ dX4_valueOf_67 h hx9 hμ10
      · rcases ite_some h with ⟨e3, h⟩ | ⟨e3, h⟩
        · refine o_look (off := 64) (tgt := 68) C (hμ.fi kt_42 rfl (by decide)) dX4_valueOf_4 rfl (by rw [e3]; first | done | decide) (by decide) ?_
          refine o_aload_n C 2 dX4_valueOf_68 rfl rfl ?_
          refine o_iload_n C 1 dX4_valueOf_69 rfl rfl ?_
          refine o_iald C ha2 rfl hz1 dX4_valueOf_70 h (fun h => ?_)
          exact o_iret C hQ dX4_valueOf_71 h (hμ.i ha2 (by decide) _) hμ
        · refine o_look (off := 106) (tgt := 110) C (hμ.fi kt_42 rfl (by decide)) dX4_valueOf_4 rfl (by rw [Op.lookupswitch.offset_cons, if_neg (fun q => e0 q.symm), Op.lookupswitch.offset_cons, if_neg (fun q => e1 q.symm), Op.lookupswitch.offset_cons, if_neg (fun q => e2 q.symm), Op.lookupswitch.offset_cons, if_neg (fun q => e3 q.symm)]; first | done | rfl) (by decide) ?_
          refine o_aload_n C 0 dX4_valueOf_110 rfl rfl ?_
          refine o_getR (j := 1) C kt_42 rfl rfl (Nat.le_of_ble_eq_true rfl) lkf_RX4_45 dX4_valueOf_111 ?_
          refine o_iload_n C 1 dX4_valueOf_114 rfl rfl ?_
          refine o_cVL C [vI z1] mb_X6_linkTop (by decide) (fun _ hu => c_X6_linkTop gRt_A hz1 hμ hu) rfl (Nat.le_of_ble_eq_true rfl) h mi_X6_linkTop me_X6_linkTop lkm_RX4_152 kt_94 rfl rfl rfl dX4_valueOf_115 (fun x11 μ12 hx11 hμ12 h => ?_)
          refine o_aload_n C 0 dX4_valueOf_118 rfl rfl ?_
          refine o_getR (j := 1) C kt_42 rfl rfl (Nat.le_of_ble_eq_true rfl) lkf_RX4_45 dX4_valueOf_119 ?_
          refine o_getJ (j := 7) C kt_94 rfl rfl (Nat.le_of_ble_eq_true rfl) lkf_RX4_137 dX4_valueOf_122 ?_
          refine o_cNI C [vJ x11, vJ (μ12.2 94 7)] mb_X11_milliOf (by decide) (fun _ hu => c_X11_milliOf hx11 (hμ12.fl kt_94 rfl) hμ12 hu) rfl (Nat.le_of_ble_eq_true rfl) h ms_X11_milliOf lkm_RX4_141 rfl rfl dX4_valueOf_125 (fun x13 μ14 hx13 hμ14 h => ?_)
          exact o_iret C hQ dX4_valueOf_128 h hx13 hμ14
theorem c_X4_valueOf {a2 : Nat} (ha2 : gKT[a2]? = some (0, 3, 0, [])) {z1 : Int} (hz1 : r32 z1) {μ : GM} (hμ : gRg μ) {u : Int × GM} (h : f_X4_valueOf a2 z1 μ = some u) : MtI 2 yX4_valueOf cX4_valueOf 3 (some .int) (fun ad => [.ref (ad 42), vI z1, .ref (ad a2)]) μ u := MtI.of pf_X4_valueOf (fun _ => Nat.le_of_ble_eq_true rfl) (fun G C hQ => w_X4_valueOf_0 C hQ ha2 hz1 hμ h)
def k_X4_readNumber_112 (z1 : Int) (z2 : Int) (μ : GM) : Option (Int × GM) :=
  if z1 = 0 then
    some (z2, μ)
  else
    some ((w32 (-z2)), μ)
set_option maxHeartbeats 4000000 in
set_option maxRecDepth 100000 in
theorem w_X4_readNumber_112 {G : GX} {u : Int × GM} (C : CX G 1 cX4_readNumber 4 RX4) (hQ : gQI G (some .int) u) {z1 : Int} (hz1 : r32 z1) {z2 : Int} (hz2 : r32 z2) {μ : GM} (hμ : gRg μ) (h : k_X4_readNumber_112 z1 z2 μ = some u) : WM G 4 μ 112 [(1, vI z1), (2, vI z2)] [] := by
  unfold k_X4_readNumber_112 at h
  refine o_iload_n C 0 dX4_readNumber_112 rfl rfl ?_
  refine o_if_eq (tgt := 121) C hz1 dX4_readNumber_113 (by decide) h (fun _ h => ?_) (fun _ h => ?_)
  · refine o_iload_n C 1 dX4_readNumber_121 rfl rfl ?_
    exact o_iret C hQ dX4_readNumber_122 h hz2 hμ
  · refine o_iload_n C 1 dX4_readNumber_116 rfl rfl ?_
    refine o_ineg C dX4_readNumber_117 ?_
    refine o_goto (tgt := 122) C dX4_readNumber_118 (by decide) ?_
    exact o_iret C hQ dX4_readNumber_122 h (r32_w _) hμ
def k_X4_readNumber_49 : Nat → Int → Int → Int → GM → Option (Int × GM)
  | 0, _, _, _, _ => none
  | n + 1, z1, z2, z3, μ =>
    if z3 < 7 then
      if (μ.2 42 10) < (μ.2 42 2) then
        ck (0 ≤ (μ.2 42 10) ∧ (μ.2 42 10) < 200) (
        bd (f_X4_isDigit (μ.1 43 (μ.2 42 10)) μ) fun x1 μ2 =>
        if x1 = 0 then
          k_X4_readNumber_112 z1 z2 μ2
        else
          lm (gF μ2 42 10 (w32 ((μ2.2 42 10) + 1))) fun μ3 =>
          ck (0 ≤ (μ2.2 42 10) ∧ (μ2.2 42 10) < 200) (
          lt (w32 ((w32 ((w32 (z2 * 10)) + (μ3.1 43 (μ2.2 42 10)))) - 48)) fun x4 =>
          lt (w32 (z3 + 1)) fun x5 =>
          k_X4_readNumber_49 n z1 x4 x5 μ3))
      else
        k_X4_readNumber_112 z1 z2 μ
    else
      k_X4_readNumber_112 z1 z2 μ
set_option maxHeartbeats 4000000 in
set_option maxRecDepth 100000 in
theorem w_X4_readNumber_49 {G : GX} {u : Int × GM} (C : CX G 1 cX4_readNumber 4 RX4) (hQ : gQI G (some .int) u) : ∀ (n : Nat) (z1 : Int) (hz1 : r32 z1) (z2 : Int) (hz2 : r32 z2) (z3 : Int) (hz3 : r32 z3) (μ : GM) (hμ : gRg μ), k_X4_readNumber_49 n z1 z2 z3 μ = some u → WM G 4 μ 49 [(0, gR G 42), (1, vI z1), (2, vI z2), (3, vI z3)] [] := by
  intro n
  induction n with
  | zero =>
    intro z1 hz1 z2 hz2 z3 hz3 μ hμ h
    cases h
  | succ n ih =>
    intro z1 hz1 z2 hz2 z3 hz3 μ hμ h
    rw [k_X4_readNumber_49] at h
    refine o_iload_n C 3 dX4_readNumber_49 rfl rfl ?_
    refine o_bipush (v := 7) C dX4_readNumber_50 (by decide) ?_
    refine o_icmp_ge (tgt := 112) C hz3 ⟨by decide, by decide⟩ dX4_readNumber_52 (by decide) h (fun _ h => ?_) (fun _ h => ?_)
    · exact WM.sub [1, 2] rfl (w_X4_readNumber_112 C hQ hz1 hz2 hμ h)
    · refine o_aload_n C 0 dX4_readNumber_55 rfl rfl ?_
      refine o_getI (j := 10) C kt_42 rfl rfl (Nat.le_of_ble_eq_true rfl) lkf_RX4_38 dX4_readNumber_56 ?_
      refine o_aload_n C 0 dX4_readNumber_59 rfl rfl ?_
      refine o_getI (j := 2) C kt_42 rfl rfl (Nat.le_of_ble_eq_true rfl) lkf_RX4_9 dX4_readNumber_60 ?_
      refine o_icmp_ge (tgt := 112) C (hμ.fi kt_42 rfl (by decide)) (hμ.fi kt_42 rfl (by decide)) dX4_readNumber_63 (by decide) h (fun _ h => ?_) (fun _ h => ?_)
      · exact WM.sub [1, 2] rfl (w_X4_readNumber_112 C hQ hz1 hz2 hμ h)
      · refine o_aload_n C 0 dX4_readNumber_66 rfl rfl ?_
        refine o_getR (j := 3) C kt_42 rfl rfl (Nat.le_of_ble_eq_true rfl) lkf_RX4_15 dX4_readNumber_67 ?_
        refine o_aload_n C 0 dX4_readNumber_70 rfl rfl ?_
        refine o_getI (j := 10) C kt_42 rfl rfl (Nat.le_of_ble_eq_true rfl) lkf_RX4_38 dX4_readNumber_71 ?_
        refine o_iald C kt_43 rfl (hμ.fi kt_42 rfl (by decide)) dX4_readNumber_74 h (fun h => ?_)
        refine o_cSI C [vI (μ.1 43 (μ.2 42 10))] mb_X4_isDigit (by decide) (fun _ hu => c_X4_isDigit (hμ.i kt_43 (by decide) _) hμ hu) rfl (Nat.le_of_ble_eq_true rfl) h ms_X4_isDigit lkm_RX4_62 rfl rfl dX4_readNumber_75 (fun x1 μ2 hx1 hμ2 h => ?_)
        refine o_if_eq (tgt := 112) C hx1 dX4_readNumber_78 (by decide) h (fun _ h => ?_) (fun _ h => ?_)
        · exact WM.sub [1, 2] rfl (w_X4_readNumber_112 C hQ hz1 hz2 hμ2 h)
        · refine o_iload_n C 2 dX4_readNumber_81 rfl rfl ?_
          refine o_bipush (v := 10) C dX4_readNumber_82 (by decide) ?_
          refine o_imul C dX4_readNumber_84 ?_
          refine o_aload_n C 0 dX4_readNumber_85 rfl rfl ?_
          refine o_getR (j := 3) C kt_42 rfl rfl (Nat.le_of_ble_eq_true rfl) lkf_RX4_15 dX4_readNumber_86 ?_
          refine o_aload_n C 0 dX4_readNumber_89 rfl rfl ?_
          refine o_dupr C dX4_readNumber_90 ?_
          refine o_getI (j := 10) C kt_42 rfl rfl (Nat.le_of_ble_eq_true rfl) lkf_RX4_38 dX4_readNumber_91 ?_
          refine o_dupx1ri C dX4_readNumber_94 ?_
          refine o_iconst C dX4_readNumber_95 ?_
          refine o_iadd C dX4_readNumber_96 ?_
          refine o_putI (j := 10) C kt_42 rfl rfl tyX4_ok nmX4 (Nat.le_of_ble_eq_true rfl) lkf_RX4_38 rfl rfl (r32_w _) hμ2 dX4_readNumber_97 h (fun μ3 hμ3 h => ?_)
          refine o_iald C kt_43 rfl (hμ2.fi kt_42 rfl (by decide)) dX4_readNumber_100 h (fun h => ?_)
          refine o_iadd C dX4_readNumber_101 ?_
          refine o_bipush (v := 48) C dX4_readNumber_102 (by decide) ?_
          refine o_isub C dX4_readNumber_104 ?_
          refine o_lt h (r32_w _) (fun x4 hx4 h => ?_)
          refine o_istore_n (lv2 := [(2, vI x4), (0, gR G 42), (1, vI z1), (3, vI z3)]) C dX4_readNumber_105 rfl (by decide) rfl ?_
          refine o_iinc (lv2 := fun x5 => [(3, vI x5), (2, vI x4), (0, gR G 42), (1, vI z1)]) C 3 dX4_readNumber_106 rfl (by decide) (fun _ => rfl) h (fun x5 hx5 h => ?_)
          refine o_goto (tgt := 49) C dX4_readNumber_109 (by decide) ?_
          exact WM.sub [2, 3, 1, 0] rfl (ih z1 hz1 x4 hx4 x5 hx5 μ3 hμ3 h)
def k_X4_readNumber_30 (s0 : Int) (μ : GM) : Option (Int × GM) :=
  if s0 = 0 then
    k_X4_readNumber_49 FU s0 0 0 μ
  else
    lm (gF μ 42 10 (w32 ((μ.2 42 10) + 1))) fun μ1 =>
    k_X4_readNumber_49 FU s0 0 0 μ1
set_option maxHeartbeats 4000000 in
set_option maxRecDepth 100000 in
theorem w_X4_readNumber_30 {G : GX} {u : Int × GM} (C : CX G 1 cX4_readNumber 4 RX4) (hQ : gQI G (some .int) u) {s0 : Int} (hs0 : r32 s0) {μ : GM} (hμ : gRg μ) (h : k_X4_readNumber_30 s0 μ = some u) : WM G 4 μ 30 [(0, gR G 42)] [vI s0] := by
  unfold k_X4_readNumber_30 at h
  refine o_istore_n (lv2 := [(1, vI s0), (0, gR G 42)]) C dX4_readNumber_30 rfl (by decide) rfl ?_
  refine o_iload_n C 0 dX4_readNumber_31 rfl rfl ?_
  refine o_if_eq (tgt := 45) C hs0 dX4_readNumber_32 (by decide) h (fun _ h => ?_) (fun _ h => ?_)
  · refine o_iconst C dX4_readNumber_45 ?_
    refine o_istore_n (lv2 := [(2, vI 0), (1, vI s0), (0, gR G 42)]) C dX4_readNumber_46 rfl (by decide) rfl ?_
    refine o_iconst C dX4_readNumber_47 ?_
    refine o_istore_n (lv2 := [(3, vI 0), (2, vI 0), (1, vI s0), (0, gR G 42)]) C dX4_readNumber_48 rfl (by decide) rfl ?_
    exact WM.sub [3, 2, 1, 0] rfl (w_X4_readNumber_49 C hQ FU s0 hs0 0 ⟨by decide, by decide⟩ 0 ⟨by decide, by decide⟩ μ hμ h)
  · refine o_aload_n C 1 dX4_readNumber_35 rfl rfl ?_
    refine o_dupr C dX4_readNumber_36 ?_
    refine o_getI (j := 10) C kt_42 rfl rfl (Nat.le_of_ble_eq_true rfl) lkf_RX4_38 dX4_readNumber_37 ?_
    refine o_iconst C dX4_readNumber_40 ?_
    refine o_iadd C dX4_readNumber_41 ?_
    refine o_putI (j := 10) C kt_42 rfl rfl tyX4_ok nmX4 (Nat.le_of_ble_eq_true rfl) lkf_RX4_38 rfl rfl (r32_w _) hμ dX4_readNumber_42 h (fun μ1 hμ1 h => ?_)
    refine o_iconst C dX4_readNumber_45 ?_
    refine o_istore_n (lv2 := [(2, vI 0), (1, vI s0), (0, gR G 42)]) C dX4_readNumber_46 rfl (by decide) rfl ?_
    refine o_iconst C dX4_readNumber_47 ?_
    refine o_istore_n (lv2 := [(3, vI 0), (2, vI 0), (1, vI s0), (0, gR G 42)]) C dX4_readNumber_48 rfl (by decide) rfl ?_
    exact WM.sub [3, 2, 1, 0] rfl (w_X4_readNumber_49 C hQ FU s0 hs0 0 ⟨by decide, by decide⟩ 0 ⟨by decide, by decide⟩ μ1 hμ1 h)
def k_X4_readNumber_29 (μ : GM) : Option (Int × GM) :=
  k_X4_readNumber_30 0 μ
set_option maxHeartbeats 4000000 in
set_option maxRecDepth 100000 in
theorem w_X4_readNumber_29 {G : GX} {u : Int × GM} (C : CX G 1 cX4_readNumber 4 RX4) (hQ : gQI G (some .int) u) {μ : GM} (hμ : gRg μ) (h : k_X4_readNumber_29 μ = some u) : WM G 4 μ 29 [(0, gR G 42)] [] := by
  unfold k_X4_readNumber_29 at h
  refine o_iconst C dX4_readNumber_29 ?_
  exact WM.sub [0] rfl (w_X4_readNumber_30 C hQ ⟨by decide, by decide⟩ hμ h)
def f_X4_readNumber (μ : GM) : Option (Int × GM) :=
  if (μ.2 42 10) < (μ.2 42 2) then
    ck (0 ≤ (μ.2 42 10) ∧ (μ.2 42 10) < 200) (
    if (μ.1 43 (μ.2 42 10)) = 45 then
      k_X4_readNumber_30 1 μ
    else
      k_X4_readNumber_29 μ)
  else
    k_X4_readNumber_29 μ
set_option maxHeartbeats 4000000 in
set_option maxRecDepth 100000 in
theorem w_X4_readNumber_0 {G : GX} {u : Int × GM} (C : CX G 1 cX4_readNumber 4 RX4) (hQ : gQI G (some .int) u) {μ : GM} (hμ : gRg μ) (h : f_X4_readNumber μ = some u) : WM G 4 μ 0 [(0, gR G 42)] [] := by
  unfold f_X4_readNumber at h
  refine o_aload_n C 0 dX4_readNumber_0 rfl rfl ?_
  refine o_getI (j := 10) C kt_42 rfl rfl (Nat.le_of_ble_eq_true rfl) lkf_RX4_38 dX4_readNumber_1 ?_
  refine o_aload_n C 0 dX4_readNumber_4 rfl rfl ?_
  refine o_getI (j := 2) C kt_42 rfl rfl (Nat.le_of_ble_eq_true rfl) lkf_RX4_9 dX4_readNumber_5 ?_
  refine o_icmp_ge (tgt := 29) C (hμ.fi kt_42 rfl (by decide)) (hμ.fi kt_42 rfl (by decide)) dX4_readNumber_8 (by decide) h (fun _ h => ?_) (fun _ h => ?_)
  · exact WM.sub [0] rfl (w_X4_readNumber_29 C hQ hμ h)
  · refine o_aload_n C 0 dX4_readNumber_11 rfl rfl ?_
    refine o_getR (j := 3) C kt_42 rfl rfl (Nat.le_of_ble_eq_true rfl) lkf_RX4_15 dX4_readNumber_12 ?_
    refine o_aload_n C 0 dX4_readNumber_15 rfl rfl ?_
    refine o_getI (j := 10) C kt_42 rfl rfl (Nat.le_of_ble_eq_true rfl) lkf_RX4_38 dX4_readNumber_16 ?_
    refine o_iald C kt_43 rfl (hμ.fi kt_42 rfl (by decide)) dX4_readNumber_19 h (fun h => ?_)
    refine o_bipush (v := 45) C dX4_readNumber_20 (by decide) ?_
    refine o_icmp_ne (tgt := 29) C (hμ.i kt_43 (by decide) _) ⟨by decide, by decide⟩ dX4_readNumber_22 (by decide) h (fun _ h => ?_) (fun _ h => ?_)
    · exact WM.sub [0] rfl (w_X4_readNumber_29 C hQ hμ h)
    · refine o_iconst C dX4_readNumber_25 ?_
      refine o_goto (tgt := 30) C dX4_readNumber_26 (by decide) ?_
      exact WM.sub [0] rfl (w_X4_readNumber_30 C hQ ⟨by decide, by decide⟩ hμ h)
theorem c_X4_readNumber {μ : GM} (hμ : gRg μ) {u : Int × GM} (h : f_X4_readNumber μ = some u) : MtI 1 yX4_readNumber cX4_readNumber 4 (some .int) (fun ad => [.ref (ad 42)]) μ u := MtI.of pf_X4_readNumber (fun _ => Nat.le_of_ble_eq_true rfl) (fun G C hQ => w_X4_readNumber_0 C hQ hμ h)
def f_X4_ask (a2 : Nat) (z1 : Int) (μ : GM) : Option (Int × GM) :=
  lm (gF μ 42 6 z1) fun μ1 =>
  bd (f_X4_nextSign μ1) fun x2 μ3 =>
  lt (w32 (x2 - 48)) fun x4 =>
  bd (f_X4_nextSign μ3) fun x5 μ6 =>
  bd (f_X4_isThere x4 μ6) fun x7 μ8 =>
  if x7 = 0 then
    some (0 % 2, μ8)
  else
    bd (f_X4_valueOf a2 x4 μ8) fun x9 μ10 =>
    bd (f_X4_readNumber μ10) fun x11 μ12 =>
    if x5 = 60 then
      if x9 < x11 then
        some (1 % 2, μ12)
      else
        some (0 % 2, μ12)
    else
      if x5 = 62 then
        if x11 < x9 then
          some (1 % 2, μ12)
        else
          some (0 % 2, μ12)
      else
        if x9 = x11 then
          some (1 % 2, μ12)
        else
          some (0 % 2, μ12)
set_option maxHeartbeats 4000000 in
set_option maxRecDepth 100000 in
theorem w_X4_ask_0 {G : GX} {u : Int × GM} (C : CX G 3 cX4_ask 7 RX4) (hQ : gQI G (some .boolean) u) {a2 : Nat} (ha2 : gKT[a2]? = some (0, 3, 0, [])) {z1 : Int} (hz1 : r32 z1) {μ : GM} (hμ : gRg μ) (h : f_X4_ask a2 z1 μ = some u) : WM G 7 μ 0 [(0, gR G 42), (1, vI z1), (2, gR G a2)] [] := by
  unfold f_X4_ask at h
  refine o_aload_n C 0 dX4_ask_0 rfl rfl ?_
  refine o_iload_n C 1 dX4_ask_1 rfl rfl ?_
  refine o_putI (j := 6) C kt_42 rfl rfl tyX4_ok nmX4 (Nat.le_of_ble_eq_true rfl) lkf_RX4_25 rfl rfl hz1 hμ dX4_ask_2 h (fun μ1 hμ1 h => ?_)
  refine o_aload_n C 0 dX4_ask_5 rfl rfl ?_
  refine o_cVI C [] mb_X4_nextSign (by decide) (fun _ hu => c_X4_nextSign hμ1 hu) rfl (Nat.le_of_ble_eq_true rfl) h mi_X4_nextSign me_X4_nextSign lkm_RX4_121 kt_42 rfl rfl rfl dX4_ask_6 (fun x2 μ3 hx2 hμ3 h => ?_)
  refine o_bipush (v := 48) C dX4_ask_9 (by decide) ?_
  refine o_isub C dX4_ask_11 ?_
  refine o_lt h (r32_w _) (fun x4 hx4 h => ?_)
  refine o_istore_n (lv2 := [(3, vI x4), (0, gR G 42), (1, vI z1), (2, gR G a2)]) C dX4_ask_12 rfl (by decide) rfl ?_
  refine o_aload_n C 1 dX4_ask_13 rfl rfl ?_
  refine o_cVI C [] mb_X4_nextSign (by decide) (fun _ hu => c_X4_nextSign hμ3 hu) rfl (Nat.le_of_ble_eq_true rfl) h mi_X4_nextSign me_X4_nextSign lkm_RX4_121 kt_42 rfl rfl rfl dX4_ask_14 (fun x5 μ6 hx5 hμ6 h => ?_)
  refine o_istore (lv2 := [(4, vI x5), (3, vI x4), (0, gR G 42), (1, vI z1), (2, gR G a2)]) C dX4_ask_17 (by decide) rfl ?_
  refine o_aload_n C 2 dX4_ask_19 rfl rfl ?_
  refine o_iload_n C 1 dX4_ask_20 rfl rfl ?_
  refine o_cVI C [vI x4] mb_X4_isThere (by decide) (fun _ hu => c_X4_isThere hx4 hμ6 hu) rfl (Nat.le_of_ble_eq_true rfl) h mi_X4_isThere me_X4_isThere lkm_RX4_66 kt_42 rfl rfl rfl dX4_ask_21 (fun x7 μ8 hx7 hμ8 h => ?_)
  refine o_if_ne (tgt := 29) C hx7 dX4_ask_24 (by decide) h (fun _ h => ?_) (fun _ h => ?_)
  · refine o_aload_n C 2 dX4_ask_29 rfl rfl ?_
    refine o_iload_n C 1 dX4_ask_30 rfl rfl ?_
    refine o_aload_n C 4 dX4_ask_31 rfl rfl ?_
    refine o_cVI C [vI x4, gR G a2] mb_X4_valueOf (by decide) (fun _ hu => c_X4_valueOf ha2 hx4 hμ8 hu) rfl (Nat.le_of_ble_eq_true rfl) h mi_X4_valueOf me_X4_valueOf lkm_RX4_124 kt_42 rfl rfl rfl dX4_ask_32 (fun x9 μ10 hx9 hμ10 h => ?_)
    refine o_istore (lv2 := [(5, vI x9), (4, vI x5), (3, vI x4), (0, gR G 42), (1, vI z1), (2, gR G a2)]) C dX4_ask_35 (by decide) rfl ?_
    refine o_aload_n C 3 dX4_ask_37 rfl rfl ?_
    refine o_cVI C [] mb_X4_readNumber (by decide) (fun _ hu => c_X4_readNumber hμ10 hu) rfl (Nat.le_of_ble_eq_true rfl) h mi_X4_readNumber me_X4_readNumber lkm_RX4_128 kt_42 rfl rfl rfl dX4_ask_38 (fun x11 μ12 hx11 hμ12 h => ?_)
    refine o_istore (lv2 := [(6, vI x11), (5, vI x9), (4, vI x5), (3, vI x4), (0, gR G 42), (1, vI z1), (2, gR G a2)]) C dX4_ask_41 (by decide) rfl ?_
    refine o_iload C 2 dX4_ask_43 rfl ?_
    refine o_bipush (v := 60) C dX4_ask_45 (by decide) ?_
    refine o_icmp_ne (tgt := 63) C hx5 ⟨by decide, by decide⟩ dX4_ask_47 (by decide) h (fun _ h => ?_) (fun _ h => ?_)
    · refine o_iload C 2 dX4_ask_63 rfl ?_
      refine o_bipush (v := 62) C dX4_ask_65 (by decide) ?_
      refine o_icmp_ne (tgt := 83) C hx5 ⟨by decide, by decide⟩ dX4_ask_67 (by decide) h (fun _ h => ?_) (fun _ h => ?_)
      · refine o_iload C 1 dX4_ask_83 rfl ?_
        refine o_iload C 0 dX4_ask_85 rfl ?_
        refine o_icmp_ne (tgt := 94) C hx9 hx11 dX4_ask_87 (by decide) h (fun _ h => ?_) (fun _ h => ?_)
        · refine o_iconst C dX4_ask_94 ?_
          exact o_zret C hQ dX4_ask_95 h hμ12
        · refine o_iconst C dX4_ask_90 ?_
          refine o_goto (tgt := 95) C dX4_ask_91 (by decide) ?_
          exact o_zret C hQ dX4_ask_95 h hμ12
      · refine o_iload C 1 dX4_ask_70 rfl ?_
        refine o_iload C 0 dX4_ask_72 rfl ?_
        refine o_icmp_le (tgt := 81) C hx9 hx11 dX4_ask_74 (by decide) h (fun _ h => ?_) (fun _ h => ?_)
        · refine o_iconst C dX4_ask_81 ?_
          exact o_zret C hQ dX4_ask_82 h hμ12
        · refine o_iconst C dX4_ask_77 ?_
          refine o_goto (tgt := 82) C dX4_ask_78 (by decide) ?_
          exact o_zret C hQ dX4_ask_82 h hμ12
    · refine o_iload C 1 dX4_ask_50 rfl ?_
      refine o_iload C 0 dX4_ask_52 rfl ?_
      refine o_icmp_ge (tgt := 61) C hx9 hx11 dX4_ask_54 (by decide) h (fun _ h => ?_) (fun _ h => ?_)
      · refine o_iconst C dX4_ask_61 ?_
        exact o_zret C hQ dX4_ask_62 h hμ12
      · refine o_iconst C dX4_ask_57 ?_
        refine o_goto (tgt := 62) C dX4_ask_58 (by decide) ?_
        exact o_zret C hQ dX4_ask_62 h hμ12
  · refine o_iconst C dX4_ask_27 ?_
    exact o_zret C hQ dX4_ask_28 h hμ8
theorem c_X4_ask {a2 : Nat} (ha2 : gKT[a2]? = some (0, 3, 0, [])) {z1 : Int} (hz1 : r32 z1) {μ : GM} (hμ : gRg μ) {u : Int × GM} (h : f_X4_ask a2 z1 μ = some u) : MtI 3 yX4_ask cX4_ask 7 (some .boolean) (fun ad => [.ref (ad 42), vI z1, .ref (ad a2)]) μ u := MtI.of pf_X4_ask (fun _ => Nat.le_of_ble_eq_true rfl) (fun G C hQ => w_X4_ask_0 C hQ ha2 hz1 hμ h)
