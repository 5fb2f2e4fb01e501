def reg_X11_init : List Nat := 0 :: (reg_X2_init ++ (reg_X6_init32 ++ (reg_X8_init ++ (reg_X0_init ++ (reg_X10_init ++ (reg_X4_init ++ (reg_X5_init ++ ([]))))))))
set_option maxHeartbeats 8000000 in
set_option maxRecDepth 100000 in
theorem ci_X11_init (h0 : Nat) : Cw 3 97 2423 yX11_init cX11_init 1 [Value.ref h0] (fun _ => [(h0, .inr (11, [.null, .null, .null, .null, .null, .null, .null]))]) (fun ad => ad 0 = h0) (fun ad cT => gWl reg_X11_init ad cT gMem0) := by
  refine Cw.of pf_X11_init (Nat.le_of_ble_eq_true rfl) (fun G C hini hQ => ?_)
  show WK G 1 [(h0, .inr (11, [.null, .null, .null, .null, .null, .null, .null]))] 0 0 0 [(0, Value.ref h0)] []
  refine n_aload_n C 0 dX11_init_0 rfl rfl ?_
  refine n_obji C lko_RX11_1 ob_i ob_c (by decide) (Nat.le_of_ble_eq_true rfl) dX11_init_1 ?_
  refine n_aload_n C 0 dX11_init_4 rfl rfl ?_
  refine n_new (ci := 2) (fs := [.int 0, .null, .null, .null, .null, .null, .null, .null]) (ws2 := fun q1 => (h0, .inr (11, [.null, .null, .null, .null, .null, .null, .null])) :: ((q1, .inr (2, [.int 0, .null, .null, .null, .null, .null, .null, .null])) :: ([]))) C rfl tyX2_ok nf_2 lkk_RX11_7 ins_RX2 ini_RX2 (by decide) (by decide) dX11_init_5 (fun q1 => by simp only [List.cons_append, List.append_assoc, List.nil_append]) (fun q1 => ?_)
  refine n_dup C dX11_init_8 ?_
  refine n_cN (w0 := (h0, .inr (11, [.null, .null, .null, .null, .null, .null, .null])) :: ([])) (ws2 := fun ad2 => (h0, .inr (11, [.null, .null, .null, .null, .null, .null, .null])) :: (gWl reg_X2_init ad2 (gcT G) gMem0 ++ ([]))) C [] mb_X2_init rfl mii_X2_init lkm_RX11_9 (by decide) (ci_X2_init q1) rfl (Nat.le_of_ble_eq_true rfl) (by simp only [List.cons_append, List.append_assoc, List.nil_append]) rfl (by decide) (by decide) dX11_init_9 (fun ad2 => by simp only [List.cons_append, List.append_assoc, List.nil_append, List.append_nil]) (fun ad2 he2 => ?_)
  have hf2_0 := he2
  subst hf2_0
  refine n_putF (j := 0) (fs2 := [Value.ref (ad2 1), .null, .null, .null, .null, .null, .null]) C rfl tyX11_ok nmX11 (Nat.le_of_ble_eq_true rfl) lkf_RX11_10 rfl hini rfl rfl rfl rfl (Nat.le_of_ble_eq_true rfl) dX11_init_12 rfl ?_
  refine n_aload_n C 0 dX11_init_15 rfl rfl ?_
  refine n_new (ci := 6) (fs := [.null, .int 0, .null, .null, .null, .null, .null, .long 0, .int 0]) (ws2 := fun q3 => (h0, .inr (11, [Value.ref (ad2 1), .null, .null, .null, .null, .null, .null])) :: (gWl reg_X2_init ad2 (gcT G) gMem0 ++ ((q3, .inr (6, [.null, .int 0, .null, .null, .null, .null, .null, .long 0, .int 0])) :: ([])))) C rfl tyX6_ok nf_6 lkk_RX11_16 ins_RX6 ini_RX6 (by decide) (by decide) dX11_init_16 (fun q3 => by simp only [List.cons_append, List.append_assoc, List.nil_append]) (fun q3 => ?_)
  refine n_dup C dX11_init_19 ?_
  refine n_aload_n C 0 dX11_init_20 rfl rfl ?_
  refine n_get (j := 0) C rfl (Nat.le_of_ble_eq_true rfl) lkf_RX11_10 rfl dX11_init_21 ?_
  refine n_bipush (v := 32) C dX11_init_24 (by decide) ?_
  refine n_cI (w0 := (h0, .inr (11, [Value.ref (ad2 1), .null, .null, .null, .null, .null, .null])) :: (gWl reg_X2_init ad2 (gcT G) gMem0 ++ ([]))) (ws2 := fun ad4 => (h0, .inr (11, [Value.ref (ad2 1), .null, .null, .null, .null, .null, .null])) :: (gWl reg_X2_init ad2 (gcT G) gMem0 ++ (gWl reg_X6_init32 ad4 (gcT G) gMem0 ++ ([])))) C [Value.ref (ad2 1), vI 32] mb_X6_init rfl mii_X6_init lkm_RX11_18 (by decide) (ci_X6_init32 q3 (ad2 1)) rfl (Nat.le_of_ble_eq_true rfl) (by simp only [List.cons_append, List.append_assoc, List.nil_append]) rfl (by decide) (by decide) dX11_init_26 (fun ad4 => by simp only [List.cons_append, List.append_assoc, List.nil_append, List.append_nil]) (fun ad4 he4 => ?_)
  obtain ⟨hf4_0, hf4_1⟩ := he4
  subst hf4_0
  refine n_putF (j := 1) (fs2 := [Value.ref (ad2 1), Value.ref (ad4 94), .null, .null, .null, .null, .null]) C rfl tyX11_ok nmX11 (Nat.le_of_ble_eq_true rfl) lkf_RX11_21 rfl hini rfl rfl rfl rfl (Nat.le_of_ble_eq_true rfl) dX11_init_29 rfl ?_
  refine n_aload_n C 0 dX11_init_32 rfl rfl ?_
  refine n_new (ci := 8) (fs := [.null, .null, .int 0, .null, .null, .null]) (ws2 := fun q5 => (h0, .inr (11, [Value.ref (ad2 1), Value.ref (ad4 94), .null, .null, .null, .null, .null])) :: (gWl reg_X2_init ad2 (gcT G) gMem0 ++ (gWl reg_X6_init32 ad4 (gcT G) gMem0 ++ ((q5, .inr (8, [.null, .null, .int 0, .null, .null, .null])) :: ([]))))) C rfl tyX8_ok nf_8 lkk_RX11_25 ins_RX8 ini_RX8 (by decide) (by decide) dX11_init_33 (fun q5 => by simp only [List.cons_append, List.append_assoc, List.nil_append]) (fun q5 => ?_)
  refine n_dup C dX11_init_36 ?_
  refine n_aload_n C 0 dX11_init_37 rfl rfl ?_
  refine n_get (j := 0) C rfl (Nat.le_of_ble_eq_true rfl) lkf_RX11_10 rfl dX11_init_38 ?_
  refine n_aload_n C 0 dX11_init_41 rfl rfl ?_
  refine n_get (j := 1) C rfl (Nat.le_of_ble_eq_true rfl) lkf_RX11_21 rfl dX11_init_42 ?_
  refine n_cI (w0 := (h0, .inr (11, [Value.ref (ad2 1), Value.ref (ad4 94), .null, .null, .null, .null, .null])) :: (gWl reg_X2_init ad2 (gcT G) gMem0 ++ (gWl reg_X6_init32 ad4 (gcT G) gMem0 ++ ([])))) (ws2 := fun ad6 => (h0, .inr (11, [Value.ref (ad2 1), Value.ref (ad4 94), .null, .null, .null, .null, .null])) :: (gWl reg_X2_init ad2 (gcT G) gMem0 ++ (gWl reg_X6_init32 ad4 (gcT G) gMem0 ++ (gWl reg_X8_init ad6 (gcT G) gMem0 ++ ([]))))) C [Value.ref (ad2 1), Value.ref (ad4 94)] mb_X8_init rfl mii_X8_init lkm_RX11_27 (by decide) (ci_X8_init q5 (ad2 1) (ad4 94)) rfl (Nat.le_of_ble_eq_true rfl) (by simp only [List.cons_append, List.append_assoc, List.nil_append]) rfl (by decide) (by decide) dX11_init_45 (fun ad6 => by simp only [List.cons_append, List.append_assoc, List.nil_append, List.append_nil]) (fun ad6 he6 => ?_)
  obtain ⟨hf6_0, hf6_1, hf6_2⟩ := he6
  subst hf6_0
  refine n_putF (j := 2) (fs2 := [Value.ref (ad2 1), Value.ref (ad4 94), Value.ref (ad6 23), .null, .null, .null, .null]) C rfl tyX11_ok nmX11 (Nat.le_of_ble_eq_true rfl) lkf_RX11_30 rfl hini rfl rfl rfl rfl (Nat.le_of_ble_eq_true rfl) dX11_init_48 rfl ?_
  refine n_aload_n C 0 dX11_init_51 rfl rfl ?_
  refine n_new (ci := 0) (fs := [.null, .null, .null, .null]) (ws2 := fun q7 => (h0, .inr (11, [Value.ref (ad2 1), Value.ref (ad4 94), Value.ref (ad6 23), .null, .null, .null, .null])) :: (gWl reg_X2_init ad2 (gcT G) gMem0 ++ (gWl reg_X6_init32 ad4 (gcT G) gMem0 ++ (gWl reg_X8_init ad6 (gcT G) gMem0 ++ ((q7, .inr (0, [.null, .null, .null, .null])) :: ([])))))) C rfl tyX0_ok nf_0 lkk_RX11_34 ins_RX0 ini_RX0 (by decide) (by decide) dX11_init_52 (fun q7 => by simp only [List.cons_append, List.append_assoc, List.nil_append]) (fun q7 => ?_)
  refine n_dup C dX11_init_55 ?_
  refine n_aload_n C 0 dX11_init_56 rfl rfl ?_
  refine n_get (j := 0) C rfl (Nat.le_of_ble_eq_true rfl) lkf_RX11_10 rfl dX11_init_57 ?_
  refine n_cI (w0 := (h0, .inr (11, [Value.ref (ad2 1), Value.ref (ad4 94), Value.ref (ad6 23), .null, .null, .null, .null])) :: (gWl reg_X2_init ad2 (gcT G) gMem0 ++ (gWl reg_X6_init32 ad4 (gcT G) gMem0 ++ (gWl reg_X8_init ad6 (gcT G) gMem0 ++ ([]))))) (ws2 := fun ad8 => (h0, .inr (11, [Value.ref (ad2 1), Value.ref (ad4 94), Value.ref (ad6 23), .null, .null, .null, .null])) :: (gWl reg_X2_init ad2 (gcT G) gMem0 ++ (gWl reg_X6_init32 ad4 (gcT G) gMem0 ++ (gWl reg_X8_init ad6 (gcT G) gMem0 ++ (gWl reg_X0_init ad8 (gcT G) gMem0 ++ ([])))))) C [Value.ref (ad2 1)] mb_X0_init rfl mii_X0_init lkm_RX11_36 (by decide) (ci_X0_init q7 (ad2 1)) rfl (Nat.le_of_ble_eq_true rfl) (by simp only [List.cons_append, List.append_assoc, List.nil_append]) rfl (by decide) (by decide) dX11_init_60 (fun ad8 => by simp only [List.cons_append, List.append_assoc, List.nil_append, List.append_nil]) (fun ad8 he8 => ?_)
  obtain ⟨hf8_0, hf8_1⟩ := he8
  subst hf8_0
  refine n_putF (j := 3) (fs2 := [Value.ref (ad2 1), Value.ref (ad4 94), Value.ref (ad6 23), Value.ref (ad8 27), .null, .null, .null]) C rfl tyX11_ok nmX11 (Nat.le_of_ble_eq_true rfl) lkf_RX11_39 rfl hini rfl rfl rfl rfl (Nat.le_of_ble_eq_true rfl) dX11_init_63 rfl ?_
  refine n_aload_n C 0 dX11_init_66 rfl rfl ?_
  refine n_new (ci := 10) (fs := [.null, .null, .int 0, .null, .null, .null, .null, .null]) (ws2 := fun q9 => (h0, .inr (11, [Value.ref (ad2 1), Value.ref (ad4 94), Value.ref (ad6 23), Value.ref (ad8 27), .null, .null, .null])) :: (gWl reg_X2_init ad2 (gcT G) gMem0 ++ (gWl reg_X6_init32 ad4 (gcT G) gMem0 ++ (gWl reg_X8_init ad6 (gcT G) gMem0 ++ (gWl reg_X0_init ad8 (gcT G) gMem0 ++ ((q9, .inr (10, [.null, .null, .int 0, .null, .null, .null, .null, .null])) :: ([]))))))) C rfl tyX10_ok nf_10 lkk_RX11_43 ins_RX10 ini_RX10 (by decide) (by decide) dX11_init_67 (fun q9 => by simp only [List.cons_append, List.append_assoc, List.nil_append]) (fun q9 => ?_)
  refine n_dup C dX11_init_70 ?_
  refine n_aload_n C 0 dX11_init_71 rfl rfl ?_
  refine n_get (j := 0) C rfl (Nat.le_of_ble_eq_true rfl) lkf_RX11_10 rfl dX11_init_72 ?_
  refine n_cI (w0 := (h0, .inr (11, [Value.ref (ad2 1), Value.ref (ad4 94), Value.ref (ad6 23), Value.ref (ad8 27), .null, .null, .null])) :: (gWl reg_X2_init ad2 (gcT G) gMem0 ++ (gWl reg_X6_init32 ad4 (gcT G) gMem0 ++ (gWl reg_X8_init ad6 (gcT G) gMem0 ++ (gWl reg_X0_init ad8 (gcT G) gMem0 ++ ([])))))) (ws2 := fun ad10 => (h0, .inr (11, [Value.ref (ad2 1), Value.ref (ad4 94), Value.ref (ad6 23), Value.ref (ad8 27), .null, .null, .null])) :: (gWl reg_X2_init ad2 (gcT G) gMem0 ++ (gWl reg_X6_init32 ad4 (gcT G) gMem0 ++ (gWl reg_X8_init ad6 (gcT G) gMem0 ++ (gWl reg_X0_init ad8 (gcT G) gMem0 ++ (gWl reg_X10_init ad10 (gcT G) gMem0 ++ ([]))))))) C [Value.ref (ad2 1)] mb_X10_init rfl mii_X10_init lkm_RX11_45 (by decide) (ci_X10_init q9 (ad2 1)) rfl (Nat.le_of_ble_eq_true rfl) (by simp only [List.cons_append, List.append_assoc, List.nil_append]) rfl (by decide) (by decide) dX11_init_75 (fun ad10 => by simp only [List.cons_append, List.append_assoc, List.nil_append, List.append_nil]) (fun ad10 he10 => ?_)
  obtain ⟨hf10_0, hf10_1⟩ := he10
  subst hf10_0
  refine n_putF (j := 4) (fs2 := [Value.ref (ad2 1), Value.ref (ad4 94), Value.ref (ad6 23), Value.ref (ad8 27), Value.ref (ad10 31), .null, .null]) C rfl tyX11_ok nmX11 (Nat.le_of_ble_eq_true rfl) lkf_RX11_46 rfl hini rfl rfl rfl rfl (Nat.le_of_ble_eq_true rfl) dX11_init_78 rfl ?_
  refine n_aload_n C 0 dX11_init_81 rfl rfl ?_
  refine n_new (ci := 4) (fs := [.null, .null, .int 0, .null, .int 0, .int 0, .int 0, .null, .null, .null, .int 0]) (ws2 := fun q11 => (h0, .inr (11, [Value.ref (ad2 1), Value.ref (ad4 94), Value.ref (ad6 23), Value.ref (ad8 27), Value.ref (ad10 31), .null, .null])) :: (gWl reg_X2_init ad2 (gcT G) gMem0 ++ (gWl reg_X6_init32 ad4 (gcT G) gMem0 ++ (gWl reg_X8_init ad6 (gcT G) gMem0 ++ (gWl reg_X0_init ad8 (gcT G) gMem0 ++ (gWl reg_X10_init ad10 (gcT G) gMem0 ++ ((q11, .inr (4, [.null, .null, .int 0, .null, .int 0, .int 0, .int 0, .null, .null, .null, .int 0])) :: ([])))))))) C rfl tyX4_ok nf_4 lkk_RX11_50 ins_RX4 ini_RX4 (by decide) (by decide) dX11_init_82 (fun q11 => by simp only [List.cons_append, List.append_assoc, List.nil_append]) (fun q11 => ?_)
  refine n_dup C dX11_init_85 ?_
  refine n_aload_n C 0 dX11_init_86 rfl rfl ?_
  refine n_get (j := 0) C rfl (Nat.le_of_ble_eq_true rfl) lkf_RX11_10 rfl dX11_init_87 ?_
  refine n_aload_n C 0 dX11_init_90 rfl rfl ?_
  refine n_get (j := 1) C rfl (Nat.le_of_ble_eq_true rfl) lkf_RX11_21 rfl dX11_init_91 ?_
  refine n_cI (w0 := (h0, .inr (11, [Value.ref (ad2 1), Value.ref (ad4 94), Value.ref (ad6 23), Value.ref (ad8 27), Value.ref (ad10 31), .null, .null])) :: (gWl reg_X2_init ad2 (gcT G) gMem0 ++ (gWl reg_X6_init32 ad4 (gcT G) gMem0 ++ (gWl reg_X8_init ad6 (gcT G) gMem0 ++ (gWl reg_X0_init ad8 (gcT G) gMem0 ++ (gWl reg_X10_init ad10 (gcT G) gMem0 ++ ([]))))))) (ws2 := fun ad12 => (h0, .inr (11, [Value.ref (ad2 1), Value.ref (ad4 94), Value.ref (ad6 23), Value.ref (ad8 27), Value.ref (ad10 31), .null, .null])) :: (gWl reg_X2_init ad2 (gcT G) gMem0 ++ (gWl reg_X6_init32 ad4 (gcT G) gMem0 ++ (gWl reg_X8_init ad6 (gcT G) gMem0 ++ (gWl reg_X0_init ad8 (gcT G) gMem0 ++ (gWl reg_X10_init ad10 (gcT G) gMem0 ++ (gWl reg_X4_init ad12 (gcT G) gMem0 ++ ([])))))))) C [Value.ref (ad2 1), Value.ref (ad4 94)] mb_X4_init rfl mii_X4_init lkm_RX11_52 (by decide) (ci_X4_init q11 (ad2 1) (ad4 94)) rfl (Nat.le_of_ble_eq_true rfl) (by simp only [List.cons_append, List.append_assoc, List.nil_append]) rfl (by decide) (by decide) dX11_init_94 (fun ad12 => by simp only [List.cons_append, List.append_assoc, List.nil_append, List.append_nil]) (fun ad12 he12 => ?_)
  obtain ⟨hf12_0, hf12_1, hf12_2⟩ := he12
  subst hf12_0
  refine n_putF (j := 5) (fs2 := [Value.ref (ad2 1), Value.ref (ad4 94), Value.ref (ad6 23), Value.ref (ad8 27), Value.ref (ad10 31), Value.ref (ad12 42), .null]) C rfl tyX11_ok nmX11 (Nat.le_of_ble_eq_true rfl) lkf_RX11_53 rfl hini rfl rfl rfl rfl (Nat.le_of_ble_eq_true rfl) dX11_init_97 rfl ?_
  refine n_aload_n C 0 dX11_init_100 rfl rfl ?_
  refine n_new (ci := 5) (fs := [.null, .null, .null, .null, .null, .null, .null, .null]) (ws2 := fun q13 => (h0, .inr (11, [Value.ref (ad2 1), Value.ref (ad4 94), Value.ref (ad6 23), Value.ref (ad8 27), Value.ref (ad10 31), Value.ref (ad12 42), .null])) :: (gWl reg_X2_init ad2 (gcT G) gMem0 ++ (gWl reg_X6_init32 ad4 (gcT G) gMem0 ++ (gWl reg_X8_init ad6 (gcT G) gMem0 ++ (gWl reg_X0_init ad8 (gcT G) gMem0 ++ (gWl reg_X10_init ad10 (gcT G) gMem0 ++ (gWl reg_X4_init ad12 (gcT G) gMem0 ++ ((q13, .inr (5, [.null, .null, .null, .null, .null, .null, .null, .null])) :: ([]))))))))) C rfl tyX5_ok nf_5 lkk_RX11_57 ins_RX5 ini_RX5 (by decide) (by decide) dX11_init_101 (fun q13 => by simp only [List.cons_append, List.append_assoc, List.nil_append]) (fun q13 => ?_)
  refine n_dup C dX11_init_104 ?_
  refine n_aload_n C 0 dX11_init_105 rfl rfl ?_
  refine n_get (j := 0) C rfl (Nat.le_of_ble_eq_true rfl) lkf_RX11_10 rfl dX11_init_106 ?_
  refine n_aload_n C 0 dX11_init_109 rfl rfl ?_
  refine n_get (j := 1) C rfl (Nat.le_of_ble_eq_true rfl) lkf_RX11_21 rfl dX11_init_110 ?_
  refine n_aload_n C 0 dX11_init_113 rfl rfl ?_
  refine n_get (j := 5) C rfl (Nat.le_of_ble_eq_true rfl) lkf_RX11_53 rfl dX11_init_114 ?_
  refine n_cI (w0 := (h0, .inr (11, [Value.ref (ad2 1), Value.ref (ad4 94), Value.ref (ad6 23), Value.ref (ad8 27), Value.ref (ad10 31), Value.ref (ad12 42), .null])) :: (gWl reg_X2_init ad2 (gcT G) gMem0 ++ (gWl reg_X6_init32 ad4 (gcT G) gMem0 ++ (gWl reg_X8_init ad6 (gcT G) gMem0 ++ (gWl reg_X0_init ad8 (gcT G) gMem0 ++ (gWl reg_X10_init ad10 (gcT G) gMem0 ++ (gWl reg_X4_init ad12 (gcT G) gMem0 ++ ([])))))))) (ws2 := fun ad14 => (h0, .inr (11, [Value.ref (ad2 1), Value.ref (ad4 94), Value.ref (ad6 23), Value.ref (ad8 27), Value.ref (ad10 31), Value.ref (ad12 42), .null])) :: (gWl reg_X2_init ad2 (gcT G) gMem0 ++ (gWl reg_X6_init32 ad4 (gcT G) gMem0 ++ (gWl reg_X8_init ad6 (gcT G) gMem0 ++ (gWl reg_X0_init ad8 (gcT G) gMem0 ++ (gWl reg_X10_init ad10 (gcT G) gMem0 ++ (gWl reg_X4_init ad12 (gcT G) gMem0 ++ (gWl reg_X5_init ad14 (gcT G) gMem0 ++ ([]))))))))) C [Value.ref (ad2 1), Value.ref (ad4 94), Value.ref (ad12 42)] mb_X5_init rfl mii_X5_init lkm_RX11_59 (by decide) (ci_X5_init q13 (ad2 1) (ad4 94) (ad12 42)) rfl (Nat.le_of_ble_eq_true rfl) (by simp only [List.cons_append, List.append_assoc, List.nil_append]) rfl (by decide) (by decide) dX11_init_117 (fun ad14 => by simp only [List.cons_append, List.append_assoc, List.nil_append, List.append_nil]) (fun ad14 he14 => ?_)
  obtain ⟨hf14_0, hf14_1, hf14_2, hf14_3⟩ := he14
  subst hf14_0
  refine n_putF (j := 6) (fs2 := [Value.ref (ad2 1), Value.ref (ad4 94), Value.ref (ad6 23), Value.ref (ad8 27), Value.ref (ad10 31), Value.ref (ad12 42), Value.ref (ad14 47)]) C rfl tyX11_ok nmX11 (Nat.le_of_ble_eq_true rfl) lkf_RX11_62 rfl hini rfl rfl rfl rfl (Nat.le_of_ble_eq_true rfl) dX11_init_120 rfl ?_
  refine n_vret C hQ (fun k => if k = 0 then h0 else if 1 ≤ k ∧ k < 23 then ad2 k else if 94 ≤ k ∧ k < 132 then ad4 k else if 23 ≤ k ∧ k < 27 then ad6 k else if 27 ≤ k ∧ k < 31 then ad8 k else if 31 ≤ k ∧ k < 42 then ad10 k else if 132 ≤ k ∧ k < 139 then ad10 k else if 42 ≤ k ∧ k < 47 then ad12 k else if 47 ≤ k ∧ k < 53 then ad14 k else 0) rfl ?_ (by decide) (by decide) dX11_init_123
  generalize hadf : ((fun k => if k = 0 then h0 else if 1 ≤ k ∧ k < 23 then ad2 k else if 94 ≤ k ∧ k < 132 then ad4 k else if 23 ≤ k ∧ k < 27 then ad6 k else if 27 ≤ k ∧ k < 31 then ad8 k else if 31 ≤ k ∧ k < 42 then ad10 k else if 132 ≤ k ∧ k < 139 then ad10 k else if 42 ≤ k ∧ k < 47 then ad12 k else if 47 ≤ k ∧ k < 53 then ad14 k else 0) : Nat → Nat) = adf
  have hs_ad2 : gWl reg_X2_init ad2 (gcT G) gMem0 = gWl reg_X2_init adf (gcT G) gMem0 := by
    refine gWl_congr (S := (reg_X2_init ++ [])) (fun k hk => ?_) (by decide +kernel)
    rcases List.mem_append.mp hk with hk | hk
    · have hr : (1 ≤ k ∧ k < 23) := by
        have key : ∀ k ∈ reg_X2_init, (1 ≤ k ∧ k < 23) := by decide +kernel
        exact key k hk
      rw [← hadf]
      dsimp only
      repeat (first | rw [if_pos (by omega)] | rw [if_neg (by omega)])
    · cases hk
  have hs_ad4 : gWl reg_X6_init32 ad4 (gcT G) gMem0 = gWl reg_X6_init32 adf (gcT G) gMem0 := by
    refine gWl_congr (S := (reg_X6_init32 ++ [1])) (fun k hk => ?_) (by decide +kernel)
    rcases List.mem_append.mp hk with hk | hk
    · have hr : (94 ≤ k ∧ k < 132) := by
        have key : ∀ k ∈ reg_X6_init32, (94 ≤ k ∧ k < 132) := by decide +kernel
        exact key k hk
      rw [← hadf]
      dsimp only
      repeat (first | rw [if_pos (by omega)] | rw [if_neg (by omega)])
    · simp only [List.mem_cons, List.not_mem_nil, or_false] at hk
      rcases hk with rfl
      · rw [hf4_1, ← hadf]; rfl
  have hs_ad6 : gWl reg_X8_init ad6 (gcT G) gMem0 = gWl reg_X8_init adf (gcT G) gMem0 := by
    refine gWl_congr (S := (reg_X8_init ++ [1, 94])) (fun k hk => ?_) (by decide +kernel)
    rcases List.mem_append.mp hk with hk | hk
    · have hr : (23 ≤ k ∧ k < 27) := by
        have key : ∀ k ∈ reg_X8_init, (23 ≤ k ∧ k < 27) := by decide +kernel
        exact key k hk
      rw [← hadf]
      dsimp only
      repeat (first | rw [if_pos (by omega)] | rw [if_neg (by omega)])
    · simp only [List.mem_cons, List.not_mem_nil, or_false] at hk
      rcases hk with rfl | rfl
      · rw [hf6_1, ← hadf]; rfl
      · rw [hf6_2, ← hadf]; rfl
  have hs_ad8 : gWl reg_X0_init ad8 (gcT G) gMem0 = gWl reg_X0_init adf (gcT G) gMem0 := by
    refine gWl_congr (S := (reg_X0_init ++ [1])) (fun k hk => ?_) (by decide +kernel)
    rcases List.mem_append.mp hk with hk | hk
    · have hr : (27 ≤ k ∧ k < 31) := by
        have key : ∀ k ∈ reg_X0_init, (27 ≤ k ∧ k < 31) := by decide +kernel
        exact key k hk
      rw [← hadf]
      dsimp only
      repeat (first | rw [if_pos (by omega)] | rw [if_neg (by omega)])
    · simp only [List.mem_cons, List.not_mem_nil, or_false] at hk
      rcases hk with rfl
      · rw [hf8_1, ← hadf]; rfl
  have hs_ad10 : gWl reg_X10_init ad10 (gcT G) gMem0 = gWl reg_X10_init adf (gcT G) gMem0 := by
    refine gWl_congr (S := (reg_X10_init ++ [1])) (fun k hk => ?_) (by decide +kernel)
    rcases List.mem_append.mp hk with hk | hk
    · have hr : (31 ≤ k ∧ k < 42) ∨ (132 ≤ k ∧ k < 139) := by
        have key : ∀ k ∈ reg_X10_init, (31 ≤ k ∧ k < 42) ∨ (132 ≤ k ∧ k < 139) := by decide +kernel
        exact key k hk
      rw [← hadf]
      dsimp only
      rcases hr with hr | hr
      · repeat (first | rw [if_pos (by omega)] | rw [if_neg (by omega)])
      · repeat (first | rw [if_pos (by omega)] | rw [if_neg (by omega)])
    · simp only [List.mem_cons, List.not_mem_nil, or_false] at hk
      rcases hk with rfl
      · rw [hf10_1, ← hadf]; rfl
  have hs_ad12 : gWl reg_X4_init ad12 (gcT G) gMem0 = gWl reg_X4_init adf (gcT G) gMem0 := by
    refine gWl_congr (S := (reg_X4_init ++ [1, 94])) (fun k hk => ?_) (by decide +kernel)
    rcases List.mem_append.mp hk with hk | hk
    · have hr : (42 ≤ k ∧ k < 47) := by
        have key : ∀ k ∈ reg_X4_init, (42 ≤ k ∧ k < 47) := by decide +kernel
        exact key k hk
      rw [← hadf]
      dsimp only
      repeat (first | rw [if_pos (by omega)] | rw [if_neg (by omega)])
    · simp only [List.mem_cons, List.not_mem_nil, or_false] at hk
      rcases hk with rfl | rfl
      · rw [hf12_1, ← hadf]; rfl
      · rw [hf12_2, ← hadf]; rfl
  have hs_ad14 : gWl reg_X5_init ad14 (gcT G) gMem0 = gWl reg_X5_init adf (gcT G) gMem0 := by
    refine gWl_congr (S := (reg_X5_init ++ [1, 42, 94])) (fun k hk => ?_) (by decide +kernel)
    rcases List.mem_append.mp hk with hk | hk
    · have hr : (47 ≤ k ∧ k < 53) := by
        have key : ∀ k ∈ reg_X5_init, (47 ≤ k ∧ k < 53) := by decide +kernel
        exact key k hk
      rw [← hadf]
      dsimp only
      repeat (first | rw [if_pos (by omega)] | rw [if_neg (by omega)])
    · simp only [List.mem_cons, List.not_mem_nil, or_false] at hk
      rcases hk with rfl | rfl | rfl
      · rw [hf14_1, ← hadf]; rfl
      · rw [hf14_2, ← hadf]; rfl
      · rw [hf14_3, ← hadf]; rfl
  rw [hs_ad2]
  rw [hs_ad4]
  rw [hs_ad6]
  rw [hs_ad8]
  rw [hs_ad10]
  rw [hs_ad12]
  rw [hs_ad14]
  show _ = gWl (0 :: (reg_X2_init ++ (reg_X6_init32 ++ (reg_X8_init ++ (reg_X0_init ++ (reg_X10_init ++ (reg_X4_init ++ (reg_X5_init ++ ([]))))))))) adf (gcT G) gMem0
  simp only [gWl_cons, gWl_app]
  subst hadf
  rfl
