theorem nf_0 : ∀ j, j < 4 → defaultValue (tyX0 j) = vp_V [.null, .null, .null, .null] j := fun j hj => match j, hj with
  | 0, _ => rfl
  | 1, _ => rfl
  | 2, _ => rfl
  | 3, _ => rfl
  | j + 4, hj => absurd hj (by omega)
theorem nf_1 : ∀ j, j < 4 → defaultValue (tyX1 j) = vp_V [.int 0, .null, .null, .null] j := fun j hj => match j, hj with
  | 0, _ => rfl
  | 1, _ => rfl
  | 2, _ => rfl
  | 3, _ => rfl
  | j + 4, hj => absurd hj (by omega)
theorem nf_2 : ∀ j, j < 8 → defaultValue (tyX2 j) = vp_V [.int 0, .null, .null, .null, .null, .null, .null, .null] j := fun j hj => match j, hj with
  | 0, _ => rfl
  | 1, _ => rfl
  | 2, _ => rfl
  | 3, _ => rfl
  | 4, _ => rfl
  | 5, _ => rfl
  | 6, _ => rfl
  | 7, _ => rfl
  | j + 8, hj => absurd hj (by omega)
theorem nf_3 : ∀ j, j < 4 → defaultValue (tyX3 j) = vp_V [.int 0, .null, .null, .null] j := fun j hj => match j, hj with
  | 0, _ => rfl
  | 1, _ => rfl
  | 2, _ => rfl
  | 3, _ => rfl
  | j + 4, hj => absurd hj (by omega)
theorem nf_4 : ∀ j, j < 11 → defaultValue (tyX4 j) = vp_V [.null, .null, .int 0, .null, .int 0, .int 0, .int 0, .null, .null, .null, .int 0] j := fun j hj => match j, hj with
  | 0, _ => rfl
  | 1, _ => rfl
  | 2, _ => rfl
  | 3, _ => rfl
  | 4, _ => rfl
  | 5, _ => rfl
  | 6, _ => rfl
  | 7, _ => rfl
  | 8, _ => rfl
  | 9, _ => rfl
  | 10, _ => rfl
  | j + 11, hj => absurd hj (by omega)
theorem nf_5 : ∀ j, j < 8 → defaultValue (tyX5 j) = vp_V [.null, .null, .null, .null, .null, .null, .null, .null] j := fun j hj => match j, hj with
  | 0, _ => rfl
  | 1, _ => rfl
  | 2, _ => rfl
  | 3, _ => rfl
  | 4, _ => rfl
  | 5, _ => rfl
  | 6, _ => rfl
  | 7, _ => rfl
  | j + 8, hj => absurd hj (by omega)
theorem nf_6 : ∀ j, j < 9 → defaultValue (tyX6 j) = vp_V [.null, .int 0, .null, .null, .null, .null, .null, .long 0, .int 0] j := fun j hj => match j, hj with
  | 0, _ => rfl
  | 1, _ => rfl
  | 2, _ => rfl
  | 3, _ => rfl
  | 4, _ => rfl
  | 5, _ => rfl
  | 6, _ => rfl
  | 7, _ => rfl
  | 8, _ => rfl
  | j + 9, hj => absurd hj (by omega)
theorem nf_7 : ∀ j, j < 5 → defaultValue (tyX7 j) = vp_V [.int 0, .null, .null, .null, .null] j := fun j hj => match j, hj with
  | 0, _ => rfl
  | 1, _ => rfl
  | 2, _ => rfl
  | 3, _ => rfl
  | 4, _ => rfl
  | j + 5, hj => absurd hj (by omega)
theorem nf_8 : ∀ j, j < 6 → defaultValue (tyX8 j) = vp_V [.null, .null, .int 0, .null, .null, .null] j := fun j hj => match j, hj with
  | 0, _ => rfl
  | 1, _ => rfl
  | 2, _ => rfl
  | 3, _ => rfl
  | 4, _ => rfl
  | 5, _ => rfl
  | j + 6, hj => absurd hj (by omega)
theorem nf_9 : ∀ j, j < 5 → defaultValue (tyX9 j) = vp_V [.int 0, .null, .null, .null, .null] j := fun j hj => match j, hj with
  | 0, _ => rfl
  | 1, _ => rfl
  | 2, _ => rfl
  | 3, _ => rfl
  | 4, _ => rfl
  | j + 5, hj => absurd hj (by omega)
theorem nf_10 : ∀ j, j < 8 → defaultValue (tyX10 j) = vp_V [.null, .null, .int 0, .null, .null, .null, .null, .null] j := fun j hj => match j, hj with
  | 0, _ => rfl
  | 1, _ => rfl
  | 2, _ => rfl
  | 3, _ => rfl
  | 4, _ => rfl
  | 5, _ => rfl
  | 6, _ => rfl
  | 7, _ => rfl
  | j + 8, hj => absurd hj (by omega)
theorem nf_11 : ∀ j, j < 7 → defaultValue (tyX11 j) = vp_V [.null, .null, .null, .null, .null, .null, .null] j := fun j hj => match j, hj with
  | 0, _ => rfl
  | 1, _ => rfl
  | 2, _ => rfl
  | 3, _ => rfl
  | 4, _ => rfl
  | 5, _ => rfl
  | 6, _ => rfl
  | j + 7, hj => absurd hj (by omega)
theorem nf_12 : ∀ j, j < 54 → defaultValue (tyX12 j) = vp_V [.int 0, .int 0, .null, .null, .null, .int 0, .null, .null, .null, .int 0, .null, .null, .null, .null, .int 0, .null, .null, .null, .int 0, .null, .null, .null, .null, .null, .long 0, .int 0, .null, .null, .null, .null, .null, .int 0, .null, .null, .null, .null, .null, .int 0, .null, .null, .null, .null, .null, .null, .int 0, .null, .null, .null, .null, .null, .int 0, .int 0, .int 0, .null] j := fun j hj => match j, hj with
  | 0, _ => rfl
  | 1, _ => rfl
  | 2, _ => rfl
  | 3, _ => rfl
  | 4, _ => rfl
  | 5, _ => rfl
  | 6, _ => rfl
  | 7, _ => rfl
  | 8, _ => rfl
  | 9, _ => rfl
  | 10, _ => rfl
  | 11, _ => rfl
  | 12, _ => rfl
  | 13, _ => rfl
  | 14, _ => rfl
  | 15, _ => rfl
  | 16, _ => rfl
  | 17, _ => rfl
  | 18, _ => rfl
  | 19, _ => rfl
  | 20, _ => rfl
  | 21, _ => rfl
  | 22, _ => rfl
  | 23, _ => rfl
  | 24, _ => rfl
  | 25, _ => rfl
  | 26, _ => rfl
  | 27, _ => rfl
  | 28, _ => rfl
  | 29, _ => rfl
  | 30, _ => rfl
  | 31, _ => rfl
  | 32, _ => rfl
  | 33, _ => rfl
  | 34, _ => rfl
  | 35, _ => rfl
  | 36, _ => rfl
  | 37, _ => rfl
  | 38, _ => rfl
  | 39, _ => rfl
  | 40, _ => rfl
  | 41, _ => rfl
  | 42, _ => rfl
  | 43, _ => rfl
  | 44, _ => rfl
  | 45, _ => rfl
  | 46, _ => rfl
  | 47, _ => rfl
  | 48, _ => rfl
  | 49, _ => rfl
  | 50, _ => rfl
  | 51, _ => rfl
  | 52, _ => rfl
  | 53, _ => rfl
  | j + 54, hj => absurd hj (by omega)
def reg_X3_init : List Nat := 5 :: (6 :: (7 :: (8 :: ([]))))
set_option maxHeartbeats 8000000 in
set_option maxRecDepth 100000 in
theorem ci_X3_init (h0 : Nat) : Cw 1 3 36 yX3_init cX3_init 1 [Value.ref h0] (fun _ => [(h0, .inr (3, [.int 0, .null, .null, .null]))]) (fun ad => ad 5 = h0) (fun ad cT => gWl reg_X3_init ad cT gMem0) := by
  refine Cw.of pf_X3_init (Nat.le_of_ble_eq_true rfl) (fun G C hini hQ => ?_)
  show WK G 1 [(h0, .inr (3, [.int 0, .null, .null, .null]))] 0 0 0 [(0, Value.ref h0)] []
  refine n_aload_n C 0 dX3_init_0 rfl rfl ?_
  refine n_obji C lko_RX3_3 ob_i ob_c (by decide) (Nat.le_of_ble_eq_true rfl) dX3_init_1 ?_
  refine n_aload_n C 0 dX3_init_4 rfl rfl ?_
  refine n_iconst C dX3_init_5 ?_
  refine n_put (j := 0) (fs2 := [vI 0, .null, .null, .null]) C rfl tyX3_ok nmX3 (Nat.le_of_ble_eq_true rfl) lkf_RX3_9 rfl rfl rfl rfl (Nat.le_of_ble_eq_true rfl) dX3_init_6 rfl ?_
  refine n_aload_n C 0 dX3_init_9 rfl rfl ?_
  refine n_bipush (v := 12) C dX3_init_10 (by decide) ?_
  refine n_newI (N := 12) (ws2 := fun q1 => (h0, .inr (3, [vI 0, .null, .null, .null])) :: ((q1, .inl (gcT G 0, 12, .inl fun _ => 0)) :: ([]))) C rfl (by decide) ac_int (by decide) (by decide) dX3_init_12 (fun q1 => by simp only [List.cons_append, List.append_assoc, List.nil_append]) (fun q1 => ?_)
  refine n_putF (j := 1) (fs2 := [vI 0, Value.ref q1, .null, .null]) C rfl tyX3_ok nmX3 (Nat.le_of_ble_eq_true rfl) lkf_RX3_15 rfl hini rfl rfl rfl rfl (Nat.le_of_ble_eq_true rfl) dX3_init_14 rfl ?_
  refine n_aload_n C 0 dX3_init_17 rfl rfl ?_
  refine n_bipush (v := 12) C dX3_init_18 (by decide) ?_
  refine n_newI (N := 12) (ws2 := fun q2 => (h0, .inr (3, [vI 0, Value.ref q1, .null, .null])) :: ((q1, .inl (gcT G 0, 12, .inl fun _ => 0)) :: ((q2, .inl (gcT G 0, 12, .inl fun _ => 0)) :: ([])))) C rfl (by decide) ac_int (by decide) (by decide) dX3_init_20 (fun q2 => by simp only [List.cons_append, List.append_assoc, List.nil_append]) (fun q2 => ?_)
  refine n_putF (j := 2) (fs2 := [vI 0, Value.ref q1, Value.ref q2, .null]) C rfl tyX3_ok nmX3 (Nat.le_of_ble_eq_true rfl) lkf_RX3_19 rfl hini rfl rfl rfl rfl (Nat.le_of_ble_eq_true rfl) dX3_init_22 rfl ?_
  refine n_aload_n C 0 dX3_init_25 rfl rfl ?_
  refine n_bipush (v := 12) C dX3_init_26 (by decide) ?_
  refine n_newI (N := 12) (ws2 := fun q3 => (h0, .inr (3, [vI 0, Value.ref q1, Value.ref q2, .null])) :: ((q1, .inl (gcT G 0, 12, .inl fun _ => 0)) :: ((q2, .inl (gcT G 0, 12, .inl fun _ => 0)) :: ((q3, .inl (gcT G 0, 12, .inl fun _ => 0)) :: ([]))))) C rfl (by decide) ac_int (by decide) (by decide) dX3_init_28 (fun q3 => by simp only [List.cons_append, List.append_assoc, List.nil_append]) (fun q3 => ?_)
  refine n_putF (j := 3) (fs2 := [vI 0, Value.ref q1, Value.ref q2, Value.ref q3]) C rfl tyX3_ok nmX3 (Nat.le_of_ble_eq_true rfl) lkf_RX3_22 rfl hini rfl rfl rfl rfl (Nat.le_of_ble_eq_true rfl) dX3_init_30 rfl ?_
  refine n_vret C hQ (fun k => if k = 5 then h0 else if k = 6 then q1 else if k = 7 then q2 else if k = 8 then q3 else 0) rfl ?_ (by decide) (by decide) dX3_init_33
  rfl
def reg_X7_init : List Nat := 9 :: (10 :: (11 :: (12 :: (13 :: ([])))))
set_option maxHeartbeats 8000000 in
set_option maxRecDepth 100000 in
theorem ci_X7_init (h0 : Nat) : Cw 1 4 12 yX7_init cX7_init 1 [Value.ref h0] (fun _ => [(h0, .inr (7, [.int 0, .null, .null, .null, .null]))]) (fun ad => ad 9 = h0) (fun ad cT => gWl reg_X7_init ad cT gMem0) := by
  refine Cw.of pf_X7_init (Nat.le_of_ble_eq_true rfl) (fun G C hini hQ => ?_)
  show WK G 1 [(h0, .inr (7, [.int 0, .null, .null, .null, .null]))] 0 0 0 [(0, Value.ref h0)] []
  refine n_aload_n C 0 dX7_init_0 rfl rfl ?_
  refine n_obji C lko_RX7_3 ob_i ob_c (by decide) (Nat.le_of_ble_eq_true rfl) dX7_init_1 ?_
  refine n_aload_n C 0 dX7_init_4 rfl rfl ?_
  refine n_iconst C dX7_init_5 ?_
  refine n_put (j := 0) (fs2 := [vI 0, .null, .null, .null, .null]) C rfl tyX7_ok nmX7 (Nat.le_of_ble_eq_true rfl) lkf_RX7_9 rfl rfl rfl rfl (Nat.le_of_ble_eq_true rfl) dX7_init_6 rfl ?_
  refine n_aload_n C 0 dX7_init_9 rfl rfl ?_
  refine n_iconst C dX7_init_10 ?_
  refine n_newI (N := 3) (ws2 := fun q1 => (h0, .inr (7, [vI 0, .null, .null, .null, .null])) :: ((q1, .inl (gcT G 0, 3, .inl fun _ => 0)) :: ([]))) C rfl (by decide) ac_int (by decide) (by decide) dX7_init_11 (fun q1 => by simp only [List.cons_append, List.append_assoc, List.nil_append]) (fun q1 => ?_)
  refine n_putF (j := 1) (fs2 := [vI 0, Value.ref q1, .null, .null, .null]) C rfl tyX7_ok nmX7 (Nat.le_of_ble_eq_true rfl) lkf_RX7_15 rfl hini rfl rfl rfl rfl (Nat.le_of_ble_eq_true rfl) dX7_init_13 rfl ?_
  refine n_aload_n C 0 dX7_init_16 rfl rfl ?_
  refine n_iconst C dX7_init_17 ?_
  refine n_newI (N := 3) (ws2 := fun q2 => (h0, .inr (7, [vI 0, Value.ref q1, .null, .null, .null])) :: ((q1, .inl (gcT G 0, 3, .inl fun _ => 0)) :: ((q2, .inl (gcT G 0, 3, .inl fun _ => 0)) :: ([])))) C rfl (by decide) ac_int (by decide) (by decide) dX7_init_18 (fun q2 => by simp only [List.cons_append, List.append_assoc, List.nil_append]) (fun q2 => ?_)
  refine n_putF (j := 2) (fs2 := [vI 0, Value.ref q1, Value.ref q2, .null, .null]) C rfl tyX7_ok nmX7 (Nat.le_of_ble_eq_true rfl) lkf_RX7_19 rfl hini rfl rfl rfl rfl (Nat.le_of_ble_eq_true rfl) dX7_init_20 rfl ?_
  refine n_aload_n C 0 dX7_init_23 rfl rfl ?_
  refine n_iconst C dX7_init_24 ?_
  refine n_newI (N := 3) (ws2 := fun q3 => (h0, .inr (7, [vI 0, Value.ref q1, Value.ref q2, .null, .null])) :: ((q1, .inl (gcT G 0, 3, .inl fun _ => 0)) :: ((q2, .inl (gcT G 0, 3, .inl fun _ => 0)) :: ((q3, .inl (gcT G 0, 3, .inl fun _ => 0)) :: ([]))))) C rfl (by decide) ac_int (by decide) (by decide) dX7_init_25 (fun q3 => by simp only [List.cons_append, List.append_assoc, List.nil_append]) (fun q3 => ?_)
  refine n_putF (j := 3) (fs2 := [vI 0, Value.ref q1, Value.ref q2, Value.ref q3, .null]) C rfl tyX7_ok nmX7 (Nat.le_of_ble_eq_true rfl) lkf_RX7_22 rfl hini rfl rfl rfl rfl (Nat.le_of_ble_eq_true rfl) dX7_init_27 rfl ?_
  refine n_aload_n C 0 dX7_init_30 rfl rfl ?_
  refine n_iconst C dX7_init_31 ?_
  refine n_newI (N := 3) (ws2 := fun q4 => (h0, .inr (7, [vI 0, Value.ref q1, Value.ref q2, Value.ref q3, .null])) :: ((q1, .inl (gcT G 0, 3, .inl fun _ => 0)) :: ((q2, .inl (gcT G 0, 3, .inl fun _ => 0)) :: ((q3, .inl (gcT G 0, 3, .inl fun _ => 0)) :: ((q4, .inl (gcT G 0, 3, .inl fun _ => 0)) :: ([])))))) C rfl (by decide) ac_int (by decide) (by decide) dX7_init_32 (fun q4 => by simp only [List.cons_append, List.append_assoc, List.nil_append]) (fun q4 => ?_)
  refine n_putF (j := 4) (fs2 := [vI 0, Value.ref q1, Value.ref q2, Value.ref q3, Value.ref q4]) C rfl tyX7_ok nmX7 (Nat.le_of_ble_eq_true rfl) lkf_RX7_25 rfl hini rfl rfl rfl rfl (Nat.le_of_ble_eq_true rfl) dX7_init_34 rfl ?_
  refine n_vret C hQ (fun k => if k = 9 then h0 else if k = 10 then q1 else if k = 11 then q2 else if k = 12 then q3 else if k = 13 then q4 else 0) rfl ?_ (by decide) (by decide) dX7_init_37
  rfl
def reg_X1_init : List Nat := 14 :: (15 :: (16 :: (17 :: ([]))))
set_option maxHeartbeats 8000000 in
set_option maxRecDepth 100000 in
theorem ci_X1_init (h0 : Nat) : Cw 1 3 6 yX1_init cX1_init 1 [Value.ref h0] (fun _ => [(h0, .inr (1, [.int 0, .null, .null, .null]))]) (fun ad => ad 14 = h0) (fun ad cT => gWl reg_X1_init ad cT gMem0) := by
  refine Cw.of pf_X1_init (Nat.le_of_ble_eq_true rfl) (fun G C hini hQ => ?_)
  show WK G 1 [(h0, .inr (1, [.int 0, .null, .null, .null]))] 0 0 0 [(0, Value.ref h0)] []
  refine n_aload_n C 0 dX1_init_0 rfl rfl ?_
  refine n_obji C lko_RX1_3 ob_i ob_c (by decide) (Nat.le_of_ble_eq_true rfl) dX1_init_1 ?_
  refine n_aload_n C 0 dX1_init_4 rfl rfl ?_
  refine n_iconst C dX1_init_5 ?_
  refine n_put (j := 0) (fs2 := [vI 0, .null, .null, .null]) C rfl tyX1_ok nmX1 (Nat.le_of_ble_eq_true rfl) lkf_RX1_9 rfl rfl rfl rfl (Nat.le_of_ble_eq_true rfl) dX1_init_6 rfl ?_
  refine n_aload_n C 0 dX1_init_9 rfl rfl ?_
  refine n_iconst C dX1_init_10 ?_
  refine n_newI (N := 2) (ws2 := fun q1 => (h0, .inr (1, [vI 0, .null, .null, .null])) :: ((q1, .inl (gcT G 0, 2, .inl fun _ => 0)) :: ([]))) C rfl (by decide) ac_int (by decide) (by decide) dX1_init_11 (fun q1 => by simp only [List.cons_append, List.append_assoc, List.nil_append]) (fun q1 => ?_)
  refine n_putF (j := 1) (fs2 := [vI 0, Value.ref q1, .null, .null]) C rfl tyX1_ok nmX1 (Nat.le_of_ble_eq_true rfl) lkf_RX1_15 rfl hini rfl rfl rfl rfl (Nat.le_of_ble_eq_true rfl) dX1_init_13 rfl ?_
  refine n_aload_n C 0 dX1_init_16 rfl rfl ?_
  refine n_iconst C dX1_init_17 ?_
  refine n_newI (N := 2) (ws2 := fun q2 => (h0, .inr (1, [vI 0, Value.ref q1, .null, .null])) :: ((q1, .inl (gcT G 0, 2, .inl fun _ => 0)) :: ((q2, .inl (gcT G 0, 2, .inl fun _ => 0)) :: ([])))) C rfl (by decide) ac_int (by decide) (by decide) dX1_init_18 (fun q2 => by simp only [List.cons_append, List.append_assoc, List.nil_append]) (fun q2 => ?_)
  refine n_putF (j := 2) (fs2 := [vI 0, Value.ref q1, Value.ref q2, .null]) C rfl tyX1_ok nmX1 (Nat.le_of_ble_eq_true rfl) lkf_RX1_19 rfl hini rfl rfl rfl rfl (Nat.le_of_ble_eq_true rfl) dX1_init_20 rfl ?_
  refine n_aload_n C 0 dX1_init_23 rfl rfl ?_
  refine n_iconst C dX1_init_24 ?_
  refine n_newI (N := 2) (ws2 := fun q3 => (h0, .inr (1, [vI 0, Value.ref q1, Value.ref q2, .null])) :: ((q1, .inl (gcT G 0, 2, .inl fun _ => 0)) :: ((q2, .inl (gcT G 0, 2, .inl fun _ => 0)) :: ((q3, .inl (gcT G 0, 2, .inl fun _ => 0)) :: ([]))))) C rfl (by decide) ac_int (by decide) (by decide) dX1_init_25 (fun q3 => by simp only [List.cons_append, List.append_assoc, List.nil_append]) (fun q3 => ?_)
  refine n_putF (j := 3) (fs2 := [vI 0, Value.ref q1, Value.ref q2, Value.ref q3]) C rfl tyX1_ok nmX1 (Nat.le_of_ble_eq_true rfl) lkf_RX1_22 rfl hini rfl rfl rfl rfl (Nat.le_of_ble_eq_true rfl) dX1_init_27 rfl ?_
  refine n_vret C hQ (fun k => if k = 14 then h0 else if k = 15 then q1 else if k = 16 then q2 else if k = 17 then q3 else 0) rfl ?_ (by decide) (by decide) dX1_init_30
  rfl
def reg_X9_init : List Nat := 18 :: (19 :: (20 :: (21 :: (22 :: ([])))))
set_option maxHeartbeats 8000000 in
set_option maxRecDepth 100000 in
theorem ci_X9_init (h0 : Nat) : Cw 1 4 12 yX9_init cX9_init 1 [Value.ref h0] (fun _ => [(h0, .inr (9, [.int 0, .null, .null, .null, .null]))]) (fun ad => ad 18 = h0) (fun ad cT => gWl reg_X9_init ad cT gMem0) := by
  refine Cw.of pf_X9_init (Nat.le_of_ble_eq_true rfl) (fun G C hini hQ => ?_)
  show WK G 1 [(h0, .inr (9, [.int 0, .null, .null, .null, .null]))] 0 0 0 [(0, Value.ref h0)] []
  refine n_aload_n C 0 dX9_init_0 rfl rfl ?_
  refine n_obji C lko_RX9_3 ob_i ob_c (by decide) (Nat.le_of_ble_eq_true rfl) dX9_init_1 ?_
  refine n_aload_n C 0 dX9_init_4 rfl rfl ?_
  refine n_iconst C dX9_init_5 ?_
  refine n_put (j := 0) (fs2 := [vI 0, .null, .null, .null, .null]) C rfl tyX9_ok nmX9 (Nat.le_of_ble_eq_true rfl) lkf_RX9_9 rfl rfl rfl rfl (Nat.le_of_ble_eq_true rfl) dX9_init_6 rfl ?_
  refine n_aload_n C 0 dX9_init_9 rfl rfl ?_
  refine n_iconst C dX9_init_10 ?_
  refine n_newI (N := 3) (ws2 := fun q1 => (h0, .inr (9, [vI 0, .null, .null, .null, .null])) :: ((q1, .inl (gcT G 0, 3, .inl fun _ => 0)) :: ([]))) C rfl (by decide) ac_int (by decide) (by decide) dX9_init_11 (fun q1 => by simp only [List.cons_append, List.append_assoc, List.nil_append]) (fun q1 => ?_)
  refine n_putF (j := 1) (fs2 := [vI 0, Value.ref q1, .null, .null, .null]) C rfl tyX9_ok nmX9 (Nat.le_of_ble_eq_true rfl) lkf_RX9_15 rfl hini rfl rfl rfl rfl (Nat.le_of_ble_eq_true rfl) dX9_init_13 rfl ?_
  refine n_aload_n C 0 dX9_init_16 rfl rfl ?_
  refine n_iconst C dX9_init_17 ?_
  refine n_newI (N := 3) (ws2 := fun q2 => (h0, .inr (9, [vI 0, Value.ref q1, .null, .null, .null])) :: ((q1, .inl (gcT G 0, 3, .inl fun _ => 0)) :: ((q2, .inl (gcT G 0, 3, .inl fun _ => 0)) :: ([])))) C rfl (by decide) ac_int (by decide) (by decide) dX9_init_18 (fun q2 => by simp only [List.cons_append, List.append_assoc, List.nil_append]) (fun q2 => ?_)
  refine n_putF (j := 2) (fs2 := [vI 0, Value.ref q1, Value.ref q2, .null, .null]) C rfl tyX9_ok nmX9 (Nat.le_of_ble_eq_true rfl) lkf_RX9_19 rfl hini rfl rfl rfl rfl (Nat.le_of_ble_eq_true rfl) dX9_init_20 rfl ?_
  refine n_aload_n C 0 dX9_init_23 rfl rfl ?_
  refine n_iconst C dX9_init_24 ?_
  refine n_newI (N := 3) (ws2 := fun q3 => (h0, .inr (9, [vI 0, Value.ref q1, Value.ref q2, .null, .null])) :: ((q1, .inl (gcT G 0, 3, .inl fun _ => 0)) :: ((q2, .inl (gcT G 0, 3, .inl fun _ => 0)) :: ((q3, .inl (gcT G 0, 3, .inl fun _ => 0)) :: ([]))))) C rfl (by decide) ac_int (by decide) (by decide) dX9_init_25 (fun q3 => by simp only [List.cons_append, List.append_assoc, List.nil_append]) (fun q3 => ?_)
  refine n_putF (j := 3) (fs2 := [vI 0, Value.ref q1, Value.ref q2, Value.ref q3, .null]) C rfl tyX9_ok nmX9 (Nat.le_of_ble_eq_true rfl) lkf_RX9_22 rfl hini rfl rfl rfl rfl (Nat.le_of_ble_eq_true rfl) dX9_init_27 rfl ?_
  refine n_aload_n C 0 dX9_init_30 rfl rfl ?_
  refine n_iconst C dX9_init_31 ?_
  refine n_newI (N := 3) (ws2 := fun q4 => (h0, .inr (9, [vI 0, Value.ref q1, Value.ref q2, Value.ref q3, .null])) :: ((q1, .inl (gcT G 0, 3, .inl fun _ => 0)) :: ((q2, .inl (gcT G 0, 3, .inl fun _ => 0)) :: ((q3, .inl (gcT G 0, 3, .inl fun _ => 0)) :: ((q4, .inl (gcT G 0, 3, .inl fun _ => 0)) :: ([])))))) C rfl (by decide) ac_int (by decide) (by decide) dX9_init_32 (fun q4 => by simp only [List.cons_append, List.append_assoc, List.nil_append]) (fun q4 => ?_)
  refine n_putF (j := 4) (fs2 := [vI 0, Value.ref q1, Value.ref q2, Value.ref q3, Value.ref q4]) C rfl tyX9_ok nmX9 (Nat.le_of_ble_eq_true rfl) lkf_RX9_25 rfl hini rfl rfl rfl rfl (Nat.le_of_ble_eq_true rfl) dX9_init_34 rfl ?_
  refine n_vret C hQ (fun k => if k = 18 then h0 else if k = 19 then q1 else if k = 20 then q2 else if k = 21 then q3 else if k = 22 then q4 else 0) rfl ?_ (by decide) (by decide) dX9_init_37
  rfl
def reg_X2_init : List Nat := 1 :: (2 :: (3 :: (4 :: (reg_X3_init ++ (reg_X7_init ++ (reg_X1_init ++ (reg_X9_init ++ ([]))))))))
set_option maxHeartbeats 8000000 in
set_option maxRecDepth 100000 in
theorem ci_X2_init (h0 : Nat) : Cw 2 21 102 yX2_init cX2_init 1 [Value.ref h0] (fun _ => [(h0, .inr (2, [.int 0, .null, .null, .null, .null, .null, .null, .null]))]) (fun ad => ad 1 = h0) (fun ad cT => gWl reg_X2_init ad cT gMem0) := by
  refine Cw.of pf_X2_init (Nat.le_of_ble_eq_true rfl) (fun G C hini hQ => ?_)
  show WK G 1 [(h0, .inr (2, [.int 0, .null, .null, .null, .null, .null, .null, .null]))] 0 0 0 [(0, Value.ref h0)] []
  refine n_aload_n C 0 dX2_init_0 rfl rfl ?_
  refine n_obji C lko_RX2_3 ob_i ob_c (by decide) (Nat.le_of_ble_eq_true rfl) dX2_init_1 ?_
  refine n_aload_n C 0 dX2_init_4 rfl rfl ?_
  refine n_iconst C dX2_init_5 ?_
  refine n_put (j := 0) (fs2 := [vI 0, .null, .null, .null, .null, .null, .null, .null]) C rfl tyX2_ok nmX2 (Nat.le_of_ble_eq_true rfl) lkf_RX2_9 rfl rfl rfl rfl (Nat.le_of_ble_eq_true rfl) dX2_init_6 rfl ?_
  refine n_aload_n C 0 dX2_init_9 rfl rfl ?_
  refine n_bipush (v := 6) C dX2_init_10 (by decide) ?_
  refine n_newI (N := 6) (ws2 := fun q1 => (h0, .inr (2, [vI 0, .null, .null, .null, .null, .null, .null, .null])) :: ((q1, .inl (gcT G 0, 6, .inl fun _ => 0)) :: ([]))) C rfl (by decide) ac_int (by decide) (by decide) dX2_init_12 (fun q1 => by simp only [List.cons_append, List.append_assoc, List.nil_append]) (fun q1 => ?_)
  refine n_putF (j := 1) (fs2 := [vI 0, Value.ref q1, .null, .null, .null, .null, .null, .null]) C rfl tyX2_ok nmX2 (Nat.le_of_ble_eq_true rfl) lkf_RX2_15 rfl hini rfl rfl rfl rfl (Nat.le_of_ble_eq_true rfl) dX2_init_14 rfl ?_
  refine n_aload_n C 0 dX2_init_17 rfl rfl ?_
  refine n_bipush (v := 6) C dX2_init_18 (by decide) ?_
  refine n_newI (N := 6) (ws2 := fun q2 => (h0, .inr (2, [vI 0, Value.ref q1, .null, .null, .null, .null, .null, .null])) :: ((q1, .inl (gcT G 0, 6, .inl fun _ => 0)) :: ((q2, .inl (gcT G 0, 6, .inl fun _ => 0)) :: ([])))) C rfl (by decide) ac_int (by decide) (by decide) dX2_init_20 (fun q2 => by simp only [List.cons_append, List.append_assoc, List.nil_append]) (fun q2 => ?_)
  refine n_putF (j := 2) (fs2 := [vI 0, Value.ref q1, Value.ref q2, .null, .null, .null, .null, .null]) C rfl tyX2_ok nmX2 (Nat.le_of_ble_eq_true rfl) lkf_RX2_19 rfl hini rfl rfl rfl rfl (Nat.le_of_ble_eq_true rfl) dX2_init_22 rfl ?_
  refine n_aload_n C 0 dX2_init_25 rfl rfl ?_
  refine n_bipush (v := 6) C dX2_init_26 (by decide) ?_
  refine n_newI (N := 6) (ws2 := fun q3 => (h0, .inr (2, [vI 0, Value.ref q1, Value.ref q2, .null, .null, .null, .null, .null])) :: ((q1, .inl (gcT G 0, 6, .inl fun _ => 0)) :: ((q2, .inl (gcT G 0, 6, .inl fun _ => 0)) :: ((q3, .inl (gcT G 0, 6, .inl fun _ => 0)) :: ([]))))) C rfl (by decide) ac_int (by decide) (by decide) dX2_init_28 (fun q3 => by simp only [List.cons_append, List.append_assoc, List.nil_append]) (fun q3 => ?_)
  refine n_putF (j := 3) (fs2 := [vI 0, Value.ref q1, Value.ref q2, Value.ref q3, .null, .null, .null, .null]) C rfl tyX2_ok nmX2 (Nat.le_of_ble_eq_true rfl) lkf_RX2_22 rfl hini rfl rfl rfl rfl (Nat.le_of_ble_eq_true rfl) dX2_init_30 rfl ?_
  refine n_aload_n C 0 dX2_init_33 rfl rfl ?_
  refine n_new (ci := 3) (fs := [.int 0, .null, .null, .null]) (ws2 := fun q4 => (h0, .inr (2, [vI 0, Value.ref q1, Value.ref q2, Value.ref q3, .null, .null, .null, .null])) :: ((q1, .inl (gcT G 0, 6, .inl fun _ => 0)) :: ((q2, .inl (gcT G 0, 6, .inl fun _ => 0)) :: ((q3, .inl (gcT G 0, 6, .inl fun _ => 0)) :: ((q4, .inr (3, [.int 0, .null, .null, .null])) :: ([])))))) C rfl tyX3_ok nf_3 lkk_RX2_25 ins_RX3 ini_RX3 (by decide) (by decide) dX2_init_34 (fun q4 => by simp only [List.cons_append, List.append_assoc, List.nil_append]) (fun q4 => ?_)
  refine n_dup C dX2_init_37 ?_
  refine n_cN (w0 := (h0, .inr (2, [vI 0, Value.ref q1, Value.ref q2, Value.ref q3, .null, .null, .null, .null])) :: ((q1, .inl (gcT G 0, 6, .inl fun _ => 0)) :: ((q2, .inl (gcT G 0, 6, .inl fun _ => 0)) :: ((q3, .inl (gcT G 0, 6, .inl fun _ => 0)) :: ([]))))) (ws2 := fun ad5 => (h0, .inr (2, [vI 0, Value.ref q1, Value.ref q2, Value.ref q3, .null, .null, .null, .null])) :: ((q1, .inl (gcT G 0, 6, .inl fun _ => 0)) :: ((q2, .inl (gcT G 0, 6, .inl fun _ => 0)) :: ((q3, .inl (gcT G 0, 6, .inl fun _ => 0)) :: (gWl reg_X3_init ad5 (gcT G) gMem0 ++ ([])))))) C [] mb_X3_init rfl mii_X3_init lkm_RX2_27 (by decide) (ci_X3_init q4) rfl (Nat.le_of_ble_eq_true rfl) (by simp only [List.cons_append, List.append_assoc, List.nil_append]) rfl (by decide) (by decide) dX2_init_38 (fun ad5 => by simp only [List.cons_append, List.append_assoc, List.nil_append, List.append_nil]) (fun ad5 he5 => ?_)
  have hf5_0 := he5
  subst hf5_0
  refine n_putF (j := 4) (fs2 := [vI 0, Value.ref q1, Value.ref q2, Value.ref q3, Value.ref (ad5 5), .null, .null, .null]) C rfl tyX2_ok nmX2 (Nat.le_of_ble_eq_true rfl) lkf_RX2_28 rfl hini rfl rfl rfl rfl (Nat.le_of_ble_eq_true rfl) dX2_init_41 rfl ?_
  refine n_aload_n C 0 dX2_init_44 rfl rfl ?_
  refine n_new (ci := 7) (fs := [.int 0, .null, .null, .null, .null]) (ws2 := fun q6 => (h0, .inr (2, [vI 0, Value.ref q1, Value.ref q2, Value.ref q3, Value.ref (ad5 5), .null, .null, .null])) :: ((q1, .inl (gcT G 0, 6, .inl fun _ => 0)) :: ((q2, .inl (gcT G 0, 6, .inl fun _ => 0)) :: ((q3, .inl (gcT G 0, 6, .inl fun _ => 0)) :: (gWl reg_X3_init ad5 (gcT G) gMem0 ++ ((q6, .inr (7, [.int 0, .null, .null, .null, .null])) :: ([]))))))) C rfl tyX7_ok nf_7 lkk_RX2_32 ins_RX7 ini_RX7 (by decide) (by decide) dX2_init_45 (fun q6 => by simp only [List.cons_append, List.append_assoc, List.nil_append]) (fun q6 => ?_)
  refine n_dup C dX2_init_48 ?_
  refine n_cN (w0 := (h0, .inr (2, [vI 0, Value.ref q1, Value.ref q2, Value.ref q3, Value.ref (ad5 5), .null, .null, .null])) :: ((q1, .inl (gcT G 0, 6, .inl fun _ => 0)) :: ((q2, .inl (gcT G 0, 6, .inl fun _ => 0)) :: ((q3, .inl (gcT G 0, 6, .inl fun _ => 0)) :: (gWl reg_X3_init ad5 (gcT G) gMem0 ++ ([])))))) (ws2 := fun ad7 => (h0, .inr (2, [vI 0, Value.ref q1, Value.ref q2, Value.ref q3, Value.ref (ad5 5), .null, .null, .null])) :: ((q1, .inl (gcT G 0, 6, .inl fun _ => 0)) :: ((q2, .inl (gcT G 0, 6, .inl fun _ => 0)) :: ((q3, .inl (gcT G 0, 6, .inl fun _ => 0)) :: (gWl reg_X3_init ad5 (gcT G) gMem0 ++ (gWl reg_X7_init ad7 (gcT G) gMem0 ++ ([]))))))) C [] mb_X7_init rfl mii_X7_init lkm_RX2_34 (by decide) (ci_X7_init q6) rfl (Nat.le_of_ble_eq_true rfl) (by simp only [List.cons_append, List.append_assoc, List.nil_append]) rfl (by decide) (by decide) dX2_init_49 (fun ad7 => by simp only [List.cons_append, List.append_assoc, List.nil_append, List.append_nil]) (fun ad7 he7 => ?_)
  have hf7_0 := he7
  subst hf7_0
  refine n_putF (j := 5) (fs2 := [vI 0, Value.ref q1, Value.ref q2, Value.ref q3, Value.ref (ad5 5), Value.ref (ad7 9), .null, .null]) C rfl tyX2_ok nmX2 (Nat.le_of_ble_eq_true rfl) lkf_RX2_35 rfl hini rfl rfl rfl rfl (Nat.le_of_ble_eq_true rfl) dX2_init_52 rfl ?_
  refine n_aload_n C 0 dX2_init_55 rfl rfl ?_
  refine n_new (ci := 1) (fs := [.int 0, .null, .null, .null]) (ws2 := fun q8 => (h0, .inr (2, [vI 0, Value.ref q1, Value.ref q2, Value.ref q3, Value.ref (ad5 5), Value.ref (ad7 9), .null, .null])) :: ((q1, .inl (gcT G 0, 6, .inl fun _ => 0)) :: ((q2, .inl (gcT G 0, 6, .inl fun _ => 0)) :: ((q3, .inl (gcT G 0, 6, .inl fun _ => 0)) :: (gWl reg_X3_init ad5 (gcT G) gMem0 ++ (gWl reg_X7_init ad7 (gcT G) gMem0 ++ ((q8, .inr (1, [.int 0, .null, .null, .null])) :: ([])))))))) C rfl tyX1_ok nf_1 lkk_RX2_39 ins_RX1 ini_RX1 (by decide) (by decide) dX2_init_56 (fun q8 => by simp only [List.cons_append, List.append_assoc, List.nil_append]) (fun q8 => ?_)
  refine n_dup C dX2_init_59 ?_
  refine n_cN (w0 := (h0, .inr (2, [vI 0, Value.ref q1, Value.ref q2, Value.ref q3, Value.ref (ad5 5), Value.ref (ad7 9), .null, .null])) :: ((q1, .inl (gcT G 0, 6, .inl fun _ => 0)) :: ((q2, .inl (gcT G 0, 6, .inl fun _ => 0)) :: ((q3, .inl (gcT G 0, 6, .inl fun _ => 0)) :: (gWl reg_X3_init ad5 (gcT G) gMem0 ++ (gWl reg_X7_init ad7 (gcT G) gMem0 ++ ([]))))))) (ws2 := fun ad9 => (h0, .inr (2, [vI 0, Value.ref q1, Value.ref q2, Value.ref q3, Value.ref (ad5 5), Value.ref (ad7 9), .null, .null])) :: ((q1, .inl (gcT G 0, 6, .inl fun _ => 0)) :: ((q2, .inl (gcT G 0, 6, .inl fun _ => 0)) :: ((q3, .inl (gcT G 0, 6, .inl fun _ => 0)) :: (gWl reg_X3_init ad5 (gcT G) gMem0 ++ (gWl reg_X7_init ad7 (gcT G) gMem0 ++ (gWl reg_X1_init ad9 (gcT G) gMem0 ++ ([])))))))) C [] mb_X1_init rfl mii_X1_init lkm_RX2_41 (by decide) (ci_X1_init q8) rfl (Nat.le_of_ble_eq_true rfl) (by simp only [List.cons_append, List.append_assoc, List.nil_append]) rfl (by decide) (by decide) dX2_init_60 (fun ad9 => by simp only [List.cons_append, List.append_assoc, List.nil_append, List.append_nil]) (fun ad9 he9 => ?_)
  have hf9_0 := he9
  subst hf9_0
  refine n_putF (j := 6) (fs2 := [vI 0, Value.ref q1, Value.ref q2, Value.ref q3, Value.ref (ad5 5), Value.ref (ad7 9), Value.ref (ad9 14), .null]) C rfl tyX2_ok nmX2 (Nat.le_of_ble_eq_true rfl) lkf_RX2_42 rfl hini rfl rfl rfl rfl (Nat.le_of_ble_eq_true rfl) dX2_init_63 rfl ?_
  refine n_aload_n C 0 dX2_init_66 rfl rfl ?_
  refine n_new (ci := 9) (fs := [.int 0, .null, .null, .null, .null]) (ws2 := fun q10 => (h0, .inr (2, [vI 0, Value.ref q1, Value.ref q2, Value.ref q3, Value.ref (ad5 5), Value.ref (ad7 9), Value.ref (ad9 14), .null])) :: ((q1, .inl (gcT G 0, 6, .inl fun _ => 0)) :: ((q2, .inl (gcT G 0, 6, .inl fun _ => 0)) :: ((q3, .inl (gcT G 0, 6, .inl fun _ => 0)) :: (gWl reg_X3_init ad5 (gcT G) gMem0 ++ (gWl reg_X7_init ad7 (gcT G) gMem0 ++ (gWl reg_X1_init ad9 (gcT G) gMem0 ++ ((q10, .inr (9, [.int 0, .null, .null, .null, .null])) :: ([]))))))))) C rfl tyX9_ok nf_9 lkk_RX2_46 ins_RX9 ini_RX9 (by decide) (by decide) dX2_init_67 (fun q10 => by simp only [List.cons_append, List.append_assoc, List.nil_append]) (fun q10 => ?_)
  refine n_dup C dX2_init_70 ?_
  refine n_cN (w0 := (h0, .inr (2, [vI 0, Value.ref q1, Value.ref q2, Value.ref q3, Value.ref (ad5 5), Value.ref (ad7 9), Value.ref (ad9 14), .null])) :: ((q1, .inl (gcT G 0, 6, .inl fun _ => 0)) :: ((q2, .inl (gcT G 0, 6, .inl fun _ => 0)) :: ((q3, .inl (gcT G 0, 6, .inl fun _ => 0)) :: (gWl reg_X3_init ad5 (gcT G) gMem0 ++ (gWl reg_X7_init ad7 (gcT G) gMem0 ++ (gWl reg_X1_init ad9 (gcT G) gMem0 ++ ([])))))))) (ws2 := fun ad11 => (h0, .inr (2, [vI 0, Value.ref q1, Value.ref q2, Value.ref q3, Value.ref (ad5 5), Value.ref (ad7 9), Value.ref (ad9 14), .null])) :: ((q1, .inl (gcT G 0, 6, .inl fun _ => 0)) :: ((q2, .inl (gcT G 0, 6, .inl fun _ => 0)) :: ((q3, .inl (gcT G 0, 6, .inl fun _ => 0)) :: (gWl reg_X3_init ad5 (gcT G) gMem0 ++ (gWl reg_X7_init ad7 (gcT G) gMem0 ++ (gWl reg_X1_init ad9 (gcT G) gMem0 ++ (gWl reg_X9_init ad11 (gcT G) gMem0 ++ ([]))))))))) C [] mb_X9_init rfl mii_X9_init lkm_RX2_48 (by decide) (ci_X9_init q10) rfl (Nat.le_of_ble_eq_true rfl) (by simp only [List.cons_append, List.append_assoc, List.nil_append]) rfl (by decide) (by decide) dX2_init_71 (fun ad11 => by simp only [List.cons_append, List.append_assoc, List.nil_append, List.append_nil]) (fun ad11 he11 => ?_)
  have hf11_0 := he11
  subst hf11_0
  refine n_putF (j := 7) (fs2 := [vI 0, Value.ref q1, Value.ref q2, Value.ref q3, Value.ref (ad5 5), Value.ref (ad7 9), Value.ref (ad9 14), Value.ref (ad11 18)]) C rfl tyX2_ok nmX2 (Nat.le_of_ble_eq_true rfl) lkf_RX2_49 rfl hini rfl rfl rfl rfl (Nat.le_of_ble_eq_true rfl) dX2_init_74 rfl ?_
  refine n_vret C hQ (fun k => if k = 1 then h0 else if k = 2 then q1 else if k = 3 then q2 else if k = 4 then q3 else if 5 ≤ k ∧ k < 9 then ad5 k else if 9 ≤ k ∧ k < 14 then ad7 k else if 14 ≤ k ∧ k < 18 then ad9 k else if 18 ≤ k ∧ k < 23 then ad11 k else 0) rfl ?_ (by decide) (by decide) dX2_init_77
  generalize hadf : ((fun k => if k = 1 then h0 else if k = 2 then q1 else if k = 3 then q2 else if k = 4 then q3 else if 5 ≤ k ∧ k < 9 then ad5 k else if 9 ≤ k ∧ k < 14 then ad7 k else if 14 ≤ k ∧ k < 18 then ad9 k else if 18 ≤ k ∧ k < 23 then ad11 k else 0) : Nat → Nat) = adf
  have hs_ad5 : gWl reg_X3_init ad5 (gcT G) gMem0 = gWl reg_X3_init adf (gcT G) gMem0 := by
    refine gWl_congr (S := (reg_X3_init ++ [])) (fun k hk => ?_) (by decide +kernel)
    rcases List.mem_append.mp hk with hk | hk
    · have hr : (5 ≤ k ∧ k < 9) := by
        have key : ∀ k ∈ reg_X3_init, (5 ≤ k ∧ k < 9) := by decide +kernel
        exact key k hk
      rw [← hadf]
      dsimp only
      repeat (first | rw [if_pos (by omega)] | rw [if_neg (by omega)])
    · cases hk
  have hs_ad7 : gWl reg_X7_init ad7 (gcT G) gMem0 = gWl reg_X7_init adf (gcT G) gMem0 := by
    refine gWl_congr (S := (reg_X7_init ++ [])) (fun k hk => ?_) (by decide +kernel)
    rcases List.mem_append.mp hk with hk | hk
    · have hr : (9 ≤ k ∧ k < 14) := by
        have key : ∀ k ∈ reg_X7_init, (9 ≤ k ∧ k < 14) := by decide +kernel
        exact key k hk
      rw [← hadf]
      dsimp only
      repeat (first | rw [if_pos (by omega)] | rw [if_neg (by omega)])
    · cases hk
  have hs_ad9 : gWl reg_X1_init ad9 (gcT G) gMem0 = gWl reg_X1_init adf (gcT G) gMem0 := by
    refine gWl_congr (S := (reg_X1_init ++ [])) (fun k hk => ?_) (by decide +kernel)
    rcases List.mem_append.mp hk with hk | hk
    · have hr : (14 ≤ k ∧ k < 18) := by
        have key : ∀ k ∈ reg_X1_init, (14 ≤ k ∧ k < 18) := by decide +kernel
        exact key k hk
      rw [← hadf]
      dsimp only
      repeat (first | rw [if_pos (by omega)] | rw [if_neg (by omega)])
    · cases hk
  have hs_ad11 : gWl reg_X9_init ad11 (gcT G) gMem0 = gWl reg_X9_init adf (gcT G) gMem0 := by
    refine gWl_congr (S := (reg_X9_init ++ [])) (fun k hk => ?_) (by decide +kernel)
    rcases List.mem_append.mp hk with hk | hk
    · have hr : (18 ≤ k ∧ k < 23) := by
        have key : ∀ k ∈ reg_X9_init, (18 ≤ k ∧ k < 23) := by decide +kernel
        exact key k hk
      rw [← hadf]
      dsimp only
      repeat (first | rw [if_pos (by omega)] | rw [if_neg (by omega)])
    · cases hk
  rw [hs_ad5]
  rw [hs_ad7]
  rw [hs_ad9]
  rw [hs_ad11]
  show _ = gWl (1 :: (2 :: (3 :: (4 :: (reg_X3_init ++ (reg_X7_init ++ (reg_X1_init ++ (reg_X9_init ++ ([]))))))))) adf (gcT G) gMem0
  simp only [gWl_cons, gWl_app]
  subst hadf
  rfl
def reg_X6_init32 : List Nat := 94 :: (98 :: (99 :: (95 :: (96 :: ([100, 101, 102, 103, 104, 105, 106, 107, 108, 109, 110, 111, 112, 113, 114, 115, 116, 117, 118, 119, 120, 121, 122, 123, 124, 125, 126, 127, 128, 129, 130, 131] ++ (97 :: ([])))))))
set_option maxHeartbeats 8000000 in
set_option maxRecDepth 100000 in
theorem ci_X6_init32 (h0 a1 : Nat) : Cw 1 37 1260 yX6_init cX6_init 3 [Value.ref h0, Value.ref a1, vI 32] (fun _ => [(h0, .inr (6, [.null, .int 0, .null, .null, .null, .null, .null, .long 0, .int 0]))]) (fun ad => ad 94 = h0 ∧ ad 1 = a1) (fun ad cT => gWl reg_X6_init32 ad cT gMem0) := by
  refine Cw.of pf_X6_init (Nat.le_of_ble_eq_true rfl) (fun G C hini hQ => ?_)
  show WK G 3 [(h0, .inr (6, [.null, .int 0, .null, .null, .null, .null, .null, .long 0, .int 0]))] 0 0 0 [(0, Value.ref h0), (1, Value.ref a1), (2, vI 32)] []
  refine n_aload_n C 0 dX6_init_0 rfl rfl ?_
  refine n_obji C lko_RX6_3 ob_i ob_c (by decide) (Nat.le_of_ble_eq_true rfl) dX6_init_1 ?_
  refine n_aload_n C 0 dX6_init_4 rfl rfl ?_
  refine n_bipush (v := 6) C dX6_init_5 (by decide) ?_
  refine n_newJ (N := 6) (ws2 := fun q1 => (h0, .inr (6, [.null, .int 0, .null, .null, .null, .null, .null, .long 0, .int 0])) :: ((q1, .inl (gcT G 2, 6, .inr (.inl fun _ => 0))) :: ([]))) C rfl (by decide) ac_long (by decide) (by decide) dX6_init_7 (fun q1 => by simp only [List.cons_append, List.append_assoc, List.nil_append]) (fun q1 => ?_)
  refine n_putF (j := 5) (fs2 := [.null, .int 0, .null, .null, .null, Value.ref q1, .null, .long 0, .int 0]) C rfl tyX6_ok nmX6 (Nat.le_of_ble_eq_true rfl) lkf_RX6_9 rfl hini rfl rfl rfl rfl (Nat.le_of_ble_eq_true rfl) dX6_init_9 rfl ?_
  refine n_aload_n C 0 dX6_init_12 rfl rfl ?_
  refine n_bipush (v := 6) C dX6_init_13 (by decide) ?_
  refine n_newJ (N := 6) (ws2 := fun q2 => (h0, .inr (6, [.null, .int 0, .null, .null, .null, Value.ref q1, .null, .long 0, .int 0])) :: ((q1, .inl (gcT G 2, 6, .inr (.inl fun _ => 0))) :: ((q2, .inl (gcT G 2, 6, .inr (.inl fun _ => 0))) :: ([])))) C rfl (by decide) ac_long (by decide) (by decide) dX6_init_15 (fun q2 => by simp only [List.cons_append, List.append_assoc, List.nil_append]) (fun q2 => ?_)
  refine n_putF (j := 6) (fs2 := [.null, .int 0, .null, .null, .null, Value.ref q1, Value.ref q2, .long 0, .int 0]) C rfl tyX6_ok nmX6 (Nat.le_of_ble_eq_true rfl) lkf_RX6_15 rfl hini rfl rfl rfl rfl (Nat.le_of_ble_eq_true rfl) dX6_init_17 rfl ?_
  refine n_aload_n C 0 dX6_init_20 rfl rfl ?_
  refine n_lconst (v := 1) C dX6_init_21 rfl ?_
  refine n_put (j := 7) (fs2 := [.null, .int 0, .null, .null, .null, Value.ref q1, Value.ref q2, vJ 1, .int 0]) C rfl tyX6_ok nmX6 (Nat.le_of_ble_eq_true rfl) lkf_RX6_18 rfl rfl rfl rfl (Nat.le_of_ble_eq_true rfl) dX6_init_22 rfl ?_
  refine n_aload_n C 0 dX6_init_25 rfl rfl ?_
  refine n_iconst C dX6_init_26 ?_
  refine n_put (j := 8) (fs2 := [.null, .int 0, .null, .null, .null, Value.ref q1, Value.ref q2, vJ 1, vI 0]) C rfl tyX6_ok nmX6 (Nat.le_of_ble_eq_true rfl) lkf_RX6_22 rfl rfl rfl rfl (Nat.le_of_ble_eq_true rfl) dX6_init_27 rfl ?_
  refine n_aload_n C 0 dX6_init_30 rfl rfl ?_
  refine n_aload_n C 1 dX6_init_31 rfl rfl ?_
  refine n_putF (j := 0) (fs2 := [Value.ref a1, .int 0, .null, .null, .null, Value.ref q1, Value.ref q2, vJ 1, vI 0]) C rfl tyX6_ok nmX6 (Nat.le_of_ble_eq_true rfl) lkf_RX6_26 rfl hini rfl rfl rfl rfl (Nat.le_of_ble_eq_true rfl) dX6_init_32 rfl ?_
  refine n_aload_n C 0 dX6_init_35 rfl rfl ?_
  refine n_iconst C dX6_init_36 ?_
  refine n_iload_n C 2 dX6_init_37 rfl rfl ?_
  refine n_max C ⟨by decide, by decide⟩ ⟨by decide, by decide⟩ lkm_RX6_30 (by decide) (Nat.le_of_ble_eq_true rfl) (by decide) (by decide) dX6_init_38 ?_
  rw [show (if (1 : Int) < 32 then (32 : Int) else 1) = 32 from rfl]
  refine n_putF (j := 1) (fs2 := [Value.ref a1, vI 32, .null, .null, .null, Value.ref q1, Value.ref q2, vJ 1, vI 0]) C rfl tyX6_ok nmX6 (Nat.le_of_ble_eq_true rfl) lkf_RX6_36 rfl hini rfl rfl rfl rfl (Nat.le_of_ble_eq_true rfl) dX6_init_41 rfl ?_
  refine n_aload_n C 0 dX6_init_44 rfl rfl ?_
  refine n_aload_n C 0 dX6_init_45 rfl rfl ?_
  refine n_get (j := 1) C rfl (Nat.le_of_ble_eq_true rfl) lkf_RX6_36 rfl dX6_init_46 ?_
  refine n_newI (N := 32) (ws2 := fun q3 => (h0, .inr (6, [Value.ref a1, vI 32, .null, .null, .null, Value.ref q1, Value.ref q2, vJ 1, vI 0])) :: ((q1, .inl (gcT G 2, 6, .inr (.inl fun _ => 0))) :: ((q2, .inl (gcT G 2, 6, .inr (.inl fun _ => 0))) :: ((q3, .inl (gcT G 0, 32, .inl fun _ => 0)) :: ([]))))) C rfl (by decide) ac_int (by decide) (by decide) dX6_init_49 (fun q3 => by simp only [List.cons_append, List.append_assoc, List.nil_append]) (fun q3 => ?_)
  refine n_putF (j := 2) (fs2 := [Value.ref a1, vI 32, Value.ref q3, .null, .null, Value.ref q1, Value.ref q2, vJ 1, vI 0]) C rfl tyX6_ok nmX6 (Nat.le_of_ble_eq_true rfl) lkf_RX6_39 rfl hini rfl rfl rfl rfl (Nat.le_of_ble_eq_true rfl) dX6_init_51 rfl ?_
  refine n_aload_n C 0 dX6_init_54 rfl rfl ?_
  refine n_aload_n C 0 dX6_init_55 rfl rfl ?_
  refine n_get (j := 1) C rfl (Nat.le_of_ble_eq_true rfl) lkf_RX6_36 rfl dX6_init_56 ?_
  refine n_bipush (v := 36) C dX6_init_59 (by decide) ?_
  refine n_mna4 (N := 32) (M := 36) (ws2 := fun q4 r4 => (h0, .inr (6, [Value.ref a1, vI 32, Value.ref q3, .null, .null, Value.ref q1, Value.ref q2, vJ 1, vI 0])) :: ((q1, .inl (gcT G 2, 6, .inr (.inl fun _ => 0))) :: ((q2, .inl (gcT G 2, 6, .inr (.inl fun _ => 0))) :: ((q3, .inl (gcT G 0, 32, .inl fun _ => 0)) :: ((q4, .inl (gcT G 4, 32, .inr (.inr (.inr (.inr (fun i => if i < 32 then some (r4 i) else none)))))) :: ((List.range 32).map (fun i => (r4 i, .inl (gcT G 2, 36, .inr (.inl fun _ => 0)))) ++ ([]))))))) C rfl rfl (by decide) (by decide) lkk_RX6_43 ac_long (by decide) (by decide) dX6_init_61 (fun q4 r4 => by simp only [List.cons_append, List.append_assoc, List.nil_append, List.append_nil]) (fun q4 r4 => ?_)
  refine n_putF (j := 3) (fs2 := [Value.ref a1, vI 32, Value.ref q3, Value.ref q4, .null, Value.ref q1, Value.ref q2, vJ 1, vI 0]) C rfl tyX6_ok nmX6 (Nat.le_of_ble_eq_true rfl) lkf_RX6_45 rfl hini rfl rfl rfl rfl (Nat.le_of_ble_eq_true rfl) dX6_init_65 rfl ?_
  refine n_aload_n C 0 dX6_init_68 rfl rfl ?_
  refine n_aload_n C 0 dX6_init_69 rfl rfl ?_
  refine n_get (j := 1) C rfl (Nat.le_of_ble_eq_true rfl) lkf_RX6_36 rfl dX6_init_70 ?_
  refine n_newJ (N := 32) (ws2 := fun q5 => (h0, .inr (6, [Value.ref a1, vI 32, Value.ref q3, Value.ref q4, .null, Value.ref q1, Value.ref q2, vJ 1, vI 0])) :: ((q1, .inl (gcT G 2, 6, .inr (.inl fun _ => 0))) :: ((q2, .inl (gcT G 2, 6, .inr (.inl fun _ => 0))) :: ((q3, .inl (gcT G 0, 32, .inl fun _ => 0)) :: ((q4, .inl (gcT G 4, 32, .inr (.inr (.inr (.inr (fun i => if i < 32 then some (r4 i) else none)))))) :: ((List.range 32).map (fun i => (r4 i, .inl (gcT G 2, 36, .inr (.inl fun _ => 0)))) ++ ((q5, .inl (gcT G 2, 32, .inr (.inl fun _ => 0))) :: ([])))))))) C rfl (by decide) ac_long (by decide) (by decide) dX6_init_73 (fun q5 => by simp only [List.cons_append, List.append_assoc, List.nil_append]) (fun q5 => ?_)
  refine n_putF (j := 4) (fs2 := [Value.ref a1, vI 32, Value.ref q3, Value.ref q4, Value.ref q5, Value.ref q1, Value.ref q2, vJ 1, vI 0]) C rfl tyX6_ok nmX6 (Nat.le_of_ble_eq_true rfl) lkf_RX6_48 rfl hini rfl rfl rfl rfl (Nat.le_of_ble_eq_true rfl) dX6_init_75 rfl ?_
  refine n_aload_n C 0 dX6_init_78 rfl rfl ?_
  refine n_get (j := 2) C rfl (Nat.le_of_ble_eq_true rfl) lkf_RX6_39 rfl dX6_init_79 ?_
  refine n_ldc (v := (-10000009)) C lkc_RX6_51 rfl dX6_init_82 ?_
  refine n_fill (i0 := 3) (ws2 := (h0, .inr (6, [Value.ref a1, vI 32, Value.ref q3, Value.ref q4, Value.ref q5, Value.ref q1, Value.ref q2, vJ 1, vI 0])) :: ((q1, .inl (gcT G 2, 6, .inr (.inl fun _ => 0))) :: ((q2, .inl (gcT G 2, 6, .inr (.inl fun _ => 0))) :: ((q3, .inl (gcT G 0, 32, .inl fun _ => Int32.ofInt (-10000009))) :: ((q4, .inl (gcT G 4, 32, .inr (.inr (.inr (.inr (fun i => if i < 32 then some (r4 i) else none)))))) :: ((List.range 32).map (fun i => (r4 i, .inl (gcT G 2, 36, .inr (.inl fun _ => 0)))) ++ ((q5, .inl (gcT G 2, 32, .inr (.inl fun _ => 0))) :: ([])))))))) C (ct_fill ⟨by decide, by decide⟩ (by decide) _) lkm_RX6_52 (by decide) (Nat.le_of_ble_eq_true rfl) rfl (by decide) (by decide) dX6_init_84 rfl ?_
  refine n_vret C hQ (fun k => if k = 94 then h0 else if k = 98 then q1 else if k = 99 then q2 else if k = 95 then q3 else if k = 96 then q4 else if 100 ≤ k ∧ k < 132 then r4 (k - 100) else if k = 97 then q5 else if k = 1 then a1 else 0) ⟨rfl, rfl⟩ ?_ (by decide) (by decide) dX6_init_87
  have hrow : ∀ i : Nat, i < 32 → ((fun k => if k = 94 then h0 else if k = 98 then q1 else if k = 99 then q2 else if k = 95 then q3 else if k = 96 then q4 else if 100 ≤ k ∧ k < 132 then r4 (k - 100) else if k = 97 then q5 else if k = 1 then a1 else 0) : Nat → Nat) (100 + i) = r4 i := by
    intro i hi
    dsimp only
    repeat (first | rw [if_neg (by omega)] | rw [if_pos (by omega)])
    exact congrArg r4 (by omega)
  have hfun : (fun i : Nat => if i < 32 then some (r4 i) else none) = (fun i : Nat => if i < 32 then some (((fun k => if k = 94 then h0 else if k = 98 then q1 else if k = 99 then q2 else if k = 95 then q3 else if k = 96 then q4 else if 100 ≤ k ∧ k < 132 then r4 (k - 100) else if k = 97 then q5 else if k = 1 then a1 else 0) : Nat → Nat) (100 + i)) else none) := funext fun i => by
    by_cases hi : i < 32
    · rw [if_pos hi, if_pos hi, hrow i hi]
    · rw [if_neg hi, if_neg hi]
  rw [hfun]
  rfl
def reg_X6_init1 : List Nat := 132 :: (136 :: (137 :: (133 :: (134 :: ([138] ++ (135 :: ([])))))))
set_option maxHeartbeats 8000000 in
set_option maxRecDepth 100000 in
theorem ci_X6_init1 (h0 a1 : Nat) : Cw 1 6 51 yX6_init cX6_init 3 [Value.ref h0, Value.ref a1, vI 1] (fun _ => [(h0, .inr (6, [.null, .int 0, .null, .null, .null, .null, .null, .long 0, .int 0]))]) (fun ad => ad 132 = h0 ∧ ad 1 = a1) (fun ad cT => gWl reg_X6_init1 ad cT gMem0) := by
  refine Cw.of pf_X6_init (Nat.le_of_ble_eq_true rfl) (fun G C hini hQ => ?_)
  show WK G 3 [(h0, .inr (6, [.null, .int 0, .null, .null, .null, .null, .null, .long 0, .int 0]))] 0 0 0 [(0, Value.ref h0), (1, Value.ref a1), (2, vI 1)] []
  refine n_aload_n C 0 dX6_init_0 rfl rfl ?_
  refine n_obji C lko_RX6_3 ob_i ob_c (by decide) (Nat.le_of_ble_eq_true rfl) dX6_init_1 ?_
  refine n_aload_n C 0 dX6_init_4 rfl rfl ?_
  refine n_bipush (v := 6) C dX6_init_5 (by decide) ?_
  refine n_newJ (N := 6) (ws2 := fun q1 => (h0, .inr (6, [.null, .int 0, .null, .null, .null, .null, .null, .long 0, .int 0])) :: ((q1, .inl (gcT G 2, 6, .inr (.inl fun _ => 0))) :: ([]))) C rfl (by decide) ac_long (by decide) (by decide) dX6_init_7 (fun q1 => by simp only [List.cons_append, List.append_assoc, List.nil_append]) (fun q1 => ?_)
  refine n_putF (j := 5) (fs2 := [.null, .int 0, .null, .null, .null, Value.ref q1, .null, .long 0, .int 0]) C rfl tyX6_ok nmX6 (Nat.le_of_ble_eq_true rfl) lkf_RX6_9 rfl hini rfl rfl rfl rfl (Nat.le_of_ble_eq_true rfl) dX6_init_9 rfl ?_
  refine n_aload_n C 0 dX6_init_12 rfl rfl ?_
  refine n_bipush (v := 6) C dX6_init_13 (by decide) ?_
  refine n_newJ (N := 6) (ws2 := fun q2 => (h0, .inr (6, [.null, .int 0, .null, .null, .null, Value.ref q1, .null, .long 0, .int 0])) :: ((q1, .inl (gcT G 2, 6, .inr (.inl fun _ => 0))) :: ((q2, .inl (gcT G 2, 6, .inr (.inl fun _ => 0))) :: ([])))) C rfl (by decide) ac_long (by decide) (by decide) dX6_init_15 (fun q2 => by simp only [List.cons_append, List.append_assoc, List.nil_append]) (fun q2 => ?_)
  refine n_putF (j := 6) (fs2 := [.null, .int 0, .null, .null, .null, Value.ref q1, Value.ref q2, .long 0, .int 0]) C rfl tyX6_ok nmX6 (Nat.le_of_ble_eq_true rfl) lkf_RX6_15 rfl hini rfl rfl rfl rfl (Nat.le_of_ble_eq_true rfl) dX6_init_17 rfl ?_
  refine n_aload_n C 0 dX6_init_20 rfl rfl ?_
  refine n_lconst (v := 1) C dX6_init_21 rfl ?_
  refine n_put (j := 7) (fs2 := [.null, .int 0, .null, .null, .null, Value.ref q1, Value.ref q2, vJ 1, .int 0]) C rfl tyX6_ok nmX6 (Nat.le_of_ble_eq_true rfl) lkf_RX6_18 rfl rfl rfl rfl (Nat.le_of_ble_eq_true rfl) dX6_init_22 rfl ?_
  refine n_aload_n C 0 dX6_init_25 rfl rfl ?_
  refine n_iconst C dX6_init_26 ?_
  refine n_put (j := 8) (fs2 := [.null, .int 0, .null, .null, .null, Value.ref q1, Value.ref q2, vJ 1, vI 0]) C rfl tyX6_ok nmX6 (Nat.le_of_ble_eq_true rfl) lkf_RX6_22 rfl rfl rfl rfl (Nat.le_of_ble_eq_true rfl) dX6_init_27 rfl ?_
  refine n_aload_n C 0 dX6_init_30 rfl rfl ?_
  refine n_aload_n C 1 dX6_init_31 rfl rfl ?_
  refine n_putF (j := 0) (fs2 := [Value.ref a1, .int 0, .null, .null, .null, Value.ref q1, Value.ref q2, vJ 1, vI 0]) C rfl tyX6_ok nmX6 (Nat.le_of_ble_eq_true rfl) lkf_RX6_26 rfl hini rfl rfl rfl rfl (Nat.le_of_ble_eq_true rfl) dX6_init_32 rfl ?_
  refine n_aload_n C 0 dX6_init_35 rfl rfl ?_
  refine n_iconst C dX6_init_36 ?_
  refine n_iload_n C 2 dX6_init_37 rfl rfl ?_
  refine n_max C ⟨by decide, by decide⟩ ⟨by decide, by decide⟩ lkm_RX6_30 (by decide) (Nat.le_of_ble_eq_true rfl) (by decide) (by decide) dX6_init_38 ?_
  rw [show (if (1 : Int) < 1 then (1 : Int) else 1) = 1 from rfl]
  refine n_putF (j := 1) (fs2 := [Value.ref a1, vI 1, .null, .null, .null, Value.ref q1, Value.ref q2, vJ 1, vI 0]) C rfl tyX6_ok nmX6 (Nat.le_of_ble_eq_true rfl) lkf_RX6_36 rfl hini rfl rfl rfl rfl (Nat.le_of_ble_eq_true rfl) dX6_init_41 rfl ?_
  refine n_aload_n C 0 dX6_init_44 rfl rfl ?_
  refine n_aload_n C 0 dX6_init_45 rfl rfl ?_
  refine n_get (j := 1) C rfl (Nat.le_of_ble_eq_true rfl) lkf_RX6_36 rfl dX6_init_46 ?_
  refine n_newI (N := 1) (ws2 := fun q3 => (h0, .inr (6, [Value.ref a1, vI 1, .null, .null, .null, Value.ref q1, Value.ref q2, vJ 1, vI 0])) :: ((q1, .inl (gcT G 2, 6, .inr (.inl fun _ => 0))) :: ((q2, .inl (gcT G 2, 6, .inr (.inl fun _ => 0))) :: ((q3, .inl (gcT G 0, 1, .inl fun _ => 0)) :: ([]))))) C rfl (by decide) ac_int (by decide) (by decide) dX6_init_49 (fun q3 => by simp only [List.cons_append, List.append_assoc, List.nil_append]) (fun q3 => ?_)
  refine n_putF (j := 2) (fs2 := [Value.ref a1, vI 1, Value.ref q3, .null, .null, Value.ref q1, Value.ref q2, vJ 1, vI 0]) C rfl tyX6_ok nmX6 (Nat.le_of_ble_eq_true rfl) lkf_RX6_39 rfl hini rfl rfl rfl rfl (Nat.le_of_ble_eq_true rfl) dX6_init_51 rfl ?_
  refine n_aload_n C 0 dX6_init_54 rfl rfl ?_
  refine n_aload_n C 0 dX6_init_55 rfl rfl ?_
  refine n_get (j := 1) C rfl (Nat.le_of_ble_eq_true rfl) lkf_RX6_36 rfl dX6_init_56 ?_
  refine n_bipush (v := 36) C dX6_init_59 (by decide) ?_
  refine n_mna4 (N := 1) (M := 36) (ws2 := fun q4 r4 => (h0, .inr (6, [Value.ref a1, vI 1, Value.ref q3, .null, .null, Value.ref q1, Value.ref q2, vJ 1, vI 0])) :: ((q1, .inl (gcT G 2, 6, .inr (.inl fun _ => 0))) :: ((q2, .inl (gcT G 2, 6, .inr (.inl fun _ => 0))) :: ((q3, .inl (gcT G 0, 1, .inl fun _ => 0)) :: ((q4, .inl (gcT G 4, 1, .inr (.inr (.inr (.inr (fun i => if i < 1 then some (r4 i) else none)))))) :: ((List.range 1).map (fun i => (r4 i, .inl (gcT G 2, 36, .inr (.inl fun _ => 0)))) ++ ([]))))))) C rfl rfl (by decide) (by decide) lkk_RX6_43 ac_long (by decide) (by decide) dX6_init_61 (fun q4 r4 => by simp only [List.cons_append, List.append_assoc, List.nil_append, List.append_nil]) (fun q4 r4 => ?_)
  refine n_putF (j := 3) (fs2 := [Value.ref a1, vI 1, Value.ref q3, Value.ref q4, .null, Value.ref q1, Value.ref q2, vJ 1, vI 0]) C rfl tyX6_ok nmX6 (Nat.le_of_ble_eq_true rfl) lkf_RX6_45 rfl hini rfl rfl rfl rfl (Nat.le_of_ble_eq_true rfl) dX6_init_65 rfl ?_
  refine n_aload_n C 0 dX6_init_68 rfl rfl ?_
  refine n_aload_n C 0 dX6_init_69 rfl rfl ?_
  refine n_get (j := 1) C rfl (Nat.le_of_ble_eq_true rfl) lkf_RX6_36 rfl dX6_init_70 ?_
  refine n_newJ (N := 1) (ws2 := fun q5 => (h0, .inr (6, [Value.ref a1, vI 1, Value.ref q3, Value.ref q4, .null, Value.ref q1, Value.ref q2, vJ 1, vI 0])) :: ((q1, .inl (gcT G 2, 6, .inr (.inl fun _ => 0))) :: ((q2, .inl (gcT G 2, 6, .inr (.inl fun _ => 0))) :: ((q3, .inl (gcT G 0, 1, .inl fun _ => 0)) :: ((q4, .inl (gcT G 4, 1, .inr (.inr (.inr (.inr (fun i => if i < 1 then some (r4 i) else none)))))) :: ((List.range 1).map (fun i => (r4 i, .inl (gcT G 2, 36, .inr (.inl fun _ => 0)))) ++ ((q5, .inl (gcT G 2, 1, .inr (.inl fun _ => 0))) :: ([])))))))) C rfl (by decide) ac_long (by decide) (by decide) dX6_init_73 (fun q5 => by simp only [List.cons_append, List.append_assoc, List.nil_append]) (fun q5 => ?_)
  refine n_putF (j := 4) (fs2 := [Value.ref a1, vI 1, Value.ref q3, Value.ref q4, Value.ref q5, Value.ref q1, Value.ref q2, vJ 1, vI 0]) C rfl tyX6_ok nmX6 (Nat.le_of_ble_eq_true rfl) lkf_RX6_48 rfl hini rfl rfl rfl rfl (Nat.le_of_ble_eq_true rfl) dX6_init_75 rfl ?_
  refine n_aload_n C 0 dX6_init_78 rfl rfl ?_
  refine n_get (j := 2) C rfl (Nat.le_of_ble_eq_true rfl) lkf_RX6_39 rfl dX6_init_79 ?_
  refine n_ldc (v := (-10000009)) C lkc_RX6_51 rfl dX6_init_82 ?_
  refine n_fill (i0 := 3) (ws2 := (h0, .inr (6, [Value.ref a1, vI 1, Value.ref q3, Value.ref q4, Value.ref q5, Value.ref q1, Value.ref q2, vJ 1, vI 0])) :: ((q1, .inl (gcT G 2, 6, .inr (.inl fun _ => 0))) :: ((q2, .inl (gcT G 2, 6, .inr (.inl fun _ => 0))) :: ((q3, .inl (gcT G 0, 1, .inl fun _ => Int32.ofInt (-10000009))) :: ((q4, .inl (gcT G 4, 1, .inr (.inr (.inr (.inr (fun i => if i < 1 then some (r4 i) else none)))))) :: ((List.range 1).map (fun i => (r4 i, .inl (gcT G 2, 36, .inr (.inl fun _ => 0)))) ++ ((q5, .inl (gcT G 2, 1, .inr (.inl fun _ => 0))) :: ([])))))))) C (ct_fill ⟨by decide, by decide⟩ (by decide) _) lkm_RX6_52 (by decide) (Nat.le_of_ble_eq_true rfl) rfl (by decide) (by decide) dX6_init_84 rfl ?_
  refine n_vret C hQ (fun k => if k = 132 then h0 else if k = 136 then q1 else if k = 137 then q2 else if k = 133 then q3 else if k = 134 then q4 else if 138 ≤ k ∧ k < 139 then r4 (k - 138) else if k = 135 then q5 else if k = 1 then a1 else 0) ⟨rfl, rfl⟩ ?_ (by decide) (by decide) dX6_init_87
  have hrow : ∀ i : Nat, i < 1 → ((fun k => if k = 132 then h0 else if k = 136 then q1 else if k = 137 then q2 else if k = 133 then q3 else if k = 134 then q4 else if 138 ≤ k ∧ k < 139 then r4 (k - 138) else if k = 135 then q5 else if k = 1 then a1 else 0) : Nat → Nat) (138 + i) = r4 i := by
    intro i hi
    dsimp only
    repeat (first | rw [if_neg (by omega)] | rw [if_pos (by omega)])
    exact congrArg r4 (by omega)
  have hfun : (fun i : Nat => if i < 1 then some (r4 i) else none) = (fun i : Nat => if i < 1 then some (((fun k => if k = 132 then h0 else if k = 136 then q1 else if k = 137 then q2 else if k = 133 then q3 else if k = 134 then q4 else if 138 ≤ k ∧ k < 139 then r4 (k - 138) else if k = 135 then q5 else if k = 1 then a1 else 0) : Nat → Nat) (138 + i)) else none) := funext fun i => by
    by_cases hi : i < 1
    · rw [if_pos hi, if_pos hi, hrow i hi]
    · rw [if_neg hi, if_neg hi]
  rw [hfun]
  rfl
def reg_X8_init : List Nat := 23 :: (24 :: (25 :: (26 :: ([]))))
set_option maxHeartbeats 8000000 in
set_option maxRecDepth 100000 in
theorem ci_X8_init (h0 a1 a2 : Nat) : Cw 1 3 46 yX8_init cX8_init 3 [Value.ref h0, Value.ref a1, Value.ref a2] (fun _ => [(h0, .inr (8, [.null, .null, .int 0, .null, .null, .null]))]) (fun ad => ad 23 = h0 ∧ ad 1 = a1 ∧ ad 94 = a2) (fun ad cT => gWl reg_X8_init ad cT gMem0) := by
  refine Cw.of pf_X8_init (Nat.le_of_ble_eq_true rfl) (fun G C hini hQ => ?_)
  show WK G 3 [(h0, .inr (8, [.null, .null, .int 0, .null, .null, .null]))] 0 0 0 [(0, Value.ref h0), (1, Value.ref a1), (2, Value.ref a2)] []
  refine n_aload_n C 0 dX8_init_0 rfl rfl ?_
  refine n_obji C lko_RX8_3 ob_i ob_c (by decide) (Nat.le_of_ble_eq_true rfl) dX8_init_1 ?_
  refine n_aload_n C 0 dX8_init_4 rfl rfl ?_
  refine n_iconst C dX8_init_5 ?_
  refine n_put (j := 2) (fs2 := [.null, .null, vI 0, .null, .null, .null]) C rfl tyX8_ok nmX8 (Nat.le_of_ble_eq_true rfl) lkf_RX8_9 rfl rfl rfl rfl (Nat.le_of_ble_eq_true rfl) dX8_init_6 rfl ?_
  refine n_aload_n C 0 dX8_init_9 rfl rfl ?_
  refine n_bipush (v := 20) C dX8_init_10 (by decide) ?_
  refine n_newI (N := 20) (ws2 := fun q1 => (h0, .inr (8, [.null, .null, vI 0, .null, .null, .null])) :: ((q1, .inl (gcT G 0, 20, .inl fun _ => 0)) :: ([]))) C rfl (by decide) ac_int (by decide) (by decide) dX8_init_12 (fun q1 => by simp only [List.cons_append, List.append_assoc, List.nil_append]) (fun q1 => ?_)
  refine n_putF (j := 3) (fs2 := [.null, .null, vI 0, Value.ref q1, .null, .null]) C rfl tyX8_ok nmX8 (Nat.le_of_ble_eq_true rfl) lkf_RX8_15 rfl hini rfl rfl rfl rfl (Nat.le_of_ble_eq_true rfl) dX8_init_14 rfl ?_
  refine n_aload_n C 0 dX8_init_17 rfl rfl ?_
  refine n_bipush (v := 20) C dX8_init_18 (by decide) ?_
  refine n_newJ (N := 20) (ws2 := fun q2 => (h0, .inr (8, [.null, .null, vI 0, Value.ref q1, .null, .null])) :: ((q1, .inl (gcT G 0, 20, .inl fun _ => 0)) :: ((q2, .inl (gcT G 2, 20, .inr (.inl fun _ => 0))) :: ([])))) C rfl (by decide) ac_long (by decide) (by decide) dX8_init_20 (fun q2 => by simp only [List.cons_append, List.append_assoc, List.nil_append]) (fun q2 => ?_)
  refine n_putF (j := 4) (fs2 := [.null, .null, vI 0, Value.ref q1, Value.ref q2, .null]) C rfl tyX8_ok nmX8 (Nat.le_of_ble_eq_true rfl) lkf_RX8_19 rfl hini rfl rfl rfl rfl (Nat.le_of_ble_eq_true rfl) dX8_init_22 rfl ?_
  refine n_aload_n C 0 dX8_init_25 rfl rfl ?_
  refine n_bipush (v := 6) C dX8_init_26 (by decide) ?_
  refine n_newI (N := 6) (ws2 := fun q3 => (h0, .inr (8, [.null, .null, vI 0, Value.ref q1, Value.ref q2, .null])) :: ((q1, .inl (gcT G 0, 20, .inl fun _ => 0)) :: ((q2, .inl (gcT G 2, 20, .inr (.inl fun _ => 0))) :: ((q3, .inl (gcT G 0, 6, .inl fun _ => 0)) :: ([]))))) C rfl (by decide) ac_int (by decide) (by decide) dX8_init_28 (fun q3 => by simp only [List.cons_append, List.append_assoc, List.nil_append]) (fun q3 => ?_)
  refine n_putF (j := 5) (fs2 := [.null, .null, vI 0, Value.ref q1, Value.ref q2, Value.ref q3]) C rfl tyX8_ok nmX8 (Nat.le_of_ble_eq_true rfl) lkf_RX8_23 rfl hini rfl rfl rfl rfl (Nat.le_of_ble_eq_true rfl) dX8_init_30 rfl ?_
  refine n_aload_n C 0 dX8_init_33 rfl rfl ?_
  refine n_aload_n C 1 dX8_init_34 rfl rfl ?_
  refine n_putF (j := 0) (fs2 := [Value.ref a1, .null, vI 0, Value.ref q1, Value.ref q2, Value.ref q3]) C rfl tyX8_ok nmX8 (Nat.le_of_ble_eq_true rfl) lkf_RX8_26 rfl hini rfl rfl rfl rfl (Nat.le_of_ble_eq_true rfl) dX8_init_35 rfl ?_
  refine n_aload_n C 0 dX8_init_38 rfl rfl ?_
  refine n_aload_n C 2 dX8_init_39 rfl rfl ?_
  refine n_putF (j := 1) (fs2 := [Value.ref a1, Value.ref a2, vI 0, Value.ref q1, Value.ref q2, Value.ref q3]) C rfl tyX8_ok nmX8 (Nat.le_of_ble_eq_true rfl) lkf_RX8_30 rfl hini rfl rfl rfl rfl (Nat.le_of_ble_eq_true rfl) dX8_init_40 rfl ?_
  refine n_vret C hQ (fun k => if k = 23 then h0 else if k = 24 then q1 else if k = 25 then q2 else if k = 26 then q3 else if k = 1 then a1 else if k = 94 then a2 else 0) ⟨rfl, rfl, rfl⟩ ?_ (by decide) (by decide) dX8_init_43
  rfl
def reg_X0_init : List Nat := 27 :: (28 :: (29 :: (30 :: ([]))))
set_option maxHeartbeats 8000000 in
set_option maxRecDepth 100000 in
theorem ci_X0_init (h0 a1 : Nat) : Cw 1 3 18 yX0_init cX0_init 2 [Value.ref h0, Value.ref a1] (fun _ => [(h0, .inr (0, [.null, .null, .null, .null]))]) (fun ad => ad 27 = h0 ∧ ad 1 = a1) (fun ad cT => gWl reg_X0_init ad cT gMem0) := by
  refine Cw.of pf_X0_init (Nat.le_of_ble_eq_true rfl) (fun G C hini hQ => ?_)
  show WK G 2 [(h0, .inr (0, [.null, .null, .null, .null]))] 0 0 0 [(0, Value.ref h0), (1, Value.ref a1)] []
  refine n_aload_n C 0 dX0_init_0 rfl rfl ?_
  refine n_obji C lko_RX0_3 ob_i ob_c (by decide) (Nat.le_of_ble_eq_true rfl) dX0_init_1 ?_
  refine n_aload_n C 0 dX0_init_4 rfl rfl ?_
  refine n_bipush (v := 6) C dX0_init_5 (by decide) ?_
  refine n_newI (N := 6) (ws2 := fun q1 => (h0, .inr (0, [.null, .null, .null, .null])) :: ((q1, .inl (gcT G 0, 6, .inl fun _ => 0)) :: ([]))) C rfl (by decide) ac_int (by decide) (by decide) dX0_init_7 (fun q1 => by simp only [List.cons_append, List.append_assoc, List.nil_append]) (fun q1 => ?_)
  refine n_putF (j := 1) (fs2 := [.null, Value.ref q1, .null, .null]) C rfl tyX0_ok nmX0 (Nat.le_of_ble_eq_true rfl) lkf_RX0_9 rfl hini rfl rfl rfl rfl (Nat.le_of_ble_eq_true rfl) dX0_init_9 rfl ?_
  refine n_aload_n C 0 dX0_init_12 rfl rfl ?_
  refine n_bipush (v := 6) C dX0_init_13 (by decide) ?_
  refine n_newJ (N := 6) (ws2 := fun q2 => (h0, .inr (0, [.null, Value.ref q1, .null, .null])) :: ((q1, .inl (gcT G 0, 6, .inl fun _ => 0)) :: ((q2, .inl (gcT G 2, 6, .inr (.inl fun _ => 0))) :: ([])))) C rfl (by decide) ac_long (by decide) (by decide) dX0_init_15 (fun q2 => by simp only [List.cons_append, List.append_assoc, List.nil_append]) (fun q2 => ?_)
  refine n_putF (j := 2) (fs2 := [.null, Value.ref q1, Value.ref q2, .null]) C rfl tyX0_ok nmX0 (Nat.le_of_ble_eq_true rfl) lkf_RX0_15 rfl hini rfl rfl rfl rfl (Nat.le_of_ble_eq_true rfl) dX0_init_17 rfl ?_
  refine n_aload_n C 0 dX0_init_20 rfl rfl ?_
  refine n_bipush (v := 6) C dX0_init_21 (by decide) ?_
  refine n_newI (N := 6) (ws2 := fun q3 => (h0, .inr (0, [.null, Value.ref q1, Value.ref q2, .null])) :: ((q1, .inl (gcT G 0, 6, .inl fun _ => 0)) :: ((q2, .inl (gcT G 2, 6, .inr (.inl fun _ => 0))) :: ((q3, .inl (gcT G 0, 6, .inl fun _ => 0)) :: ([]))))) C rfl (by decide) ac_int (by decide) (by decide) dX0_init_23 (fun q3 => by simp only [List.cons_append, List.append_assoc, List.nil_append]) (fun q3 => ?_)
  refine n_putF (j := 3) (fs2 := [.null, Value.ref q1, Value.ref q2, Value.ref q3]) C rfl tyX0_ok nmX0 (Nat.le_of_ble_eq_true rfl) lkf_RX0_19 rfl hini rfl rfl rfl rfl (Nat.le_of_ble_eq_true rfl) dX0_init_25 rfl ?_
  refine n_aload_n C 0 dX0_init_28 rfl rfl ?_
  refine n_aload_n C 1 dX0_init_29 rfl rfl ?_
  refine n_putF (j := 0) (fs2 := [Value.ref a1, Value.ref q1, Value.ref q2, Value.ref q3]) C rfl tyX0_ok nmX0 (Nat.le_of_ble_eq_true rfl) lkf_RX0_22 rfl hini rfl rfl rfl rfl (Nat.le_of_ble_eq_true rfl) dX0_init_30 rfl ?_
  refine n_vret C hQ (fun k => if k = 27 then h0 else if k = 28 then q1 else if k = 29 then q2 else if k = 30 then q3 else if k = 1 then a1 else 0) ⟨rfl, rfl⟩ ?_ (by decide) (by decide) dX0_init_33
  rfl
def reg_X10_init : List Nat := 31 :: (32 :: (33 :: (34 :: (35 :: (36 :: ([37, 38, 39, 40, 41] ++ (reg_X6_init1 ++ ([]))))))))
set_option maxHeartbeats 8000000 in
set_option maxRecDepth 100000 in
theorem ci_X10_init (h0 a1 : Nat) : Cw 2 17 117 yX10_init cX10_init 2 [Value.ref h0, Value.ref a1] (fun _ => [(h0, .inr (10, [.null, .null, .int 0, .null, .null, .null, .null, .null]))]) (fun ad => ad 31 = h0 ∧ ad 1 = a1) (fun ad cT => gWl reg_X10_init ad cT gMem0) := by
  refine Cw.of pf_X10_init (Nat.le_of_ble_eq_true rfl) (fun G C hini hQ => ?_)
  show WK G 2 [(h0, .inr (10, [.null, .null, .int 0, .null, .null, .null, .null, .null]))] 0 0 0 [(0, Value.ref h0), (1, Value.ref a1)] []
  refine n_aload_n C 0 dX10_init_0 rfl rfl ?_
  refine n_obji C lko_RX10_3 ob_i ob_c (by decide) (Nat.le_of_ble_eq_true rfl) dX10_init_1 ?_
  refine n_aload_n C 0 dX10_init_4 rfl rfl ?_
  refine n_iconst C dX10_init_5 ?_
  refine n_put (j := 2) (fs2 := [.null, .null, vI 0, .null, .null, .null, .null, .null]) C rfl tyX10_ok nmX10 (Nat.le_of_ble_eq_true rfl) lkf_RX10_9 rfl rfl rfl rfl (Nat.le_of_ble_eq_true rfl) dX10_init_6 rfl ?_
  refine n_aload_n C 0 dX10_init_9 rfl rfl ?_
  refine n_iconst C dX10_init_10 ?_
  refine n_newI (N := 5) (ws2 := fun q1 => (h0, .inr (10, [.null, .null, vI 0, .null, .null, .null, .null, .null])) :: ((q1, .inl (gcT G 0, 5, .inl fun _ => 0)) :: ([]))) C rfl (by decide) ac_int (by decide) (by decide) dX10_init_11 (fun q1 => by simp only [List.cons_append, List.append_assoc, List.nil_append]) (fun q1 => ?_)
  refine n_putF (j := 3) (fs2 := [.null, .null, vI 0, Value.ref q1, .null, .null, .null, .null]) C rfl tyX10_ok nmX10 (Nat.le_of_ble_eq_true rfl) lkf_RX10_15 rfl hini rfl rfl rfl rfl (Nat.le_of_ble_eq_true rfl) dX10_init_13 rfl ?_
  refine n_aload_n C 0 dX10_init_16 rfl rfl ?_
  refine n_iconst C dX10_init_17 ?_
  refine n_newI (N := 5) (ws2 := fun q2 => (h0, .inr (10, [.null, .null, vI 0, Value.ref q1, .null, .null, .null, .null])) :: ((q1, .inl (gcT G 0, 5, .inl fun _ => 0)) :: ((q2, .inl (gcT G 0, 5, .inl fun _ => 0)) :: ([])))) C rfl (by decide) ac_int (by decide) (by decide) dX10_init_18 (fun q2 => by simp only [List.cons_append, List.append_assoc, List.nil_append]) (fun q2 => ?_)
  refine n_putF (j := 4) (fs2 := [.null, .null, vI 0, Value.ref q1, Value.ref q2, .null, .null, .null]) C rfl tyX10_ok nmX10 (Nat.le_of_ble_eq_true rfl) lkf_RX10_19 rfl hini rfl rfl rfl rfl (Nat.le_of_ble_eq_true rfl) dX10_init_20 rfl ?_
  refine n_aload_n C 0 dX10_init_23 rfl rfl ?_
  refine n_bipush (v := 6) C dX10_init_24 (by decide) ?_
  refine n_newI (N := 6) (ws2 := fun q3 => (h0, .inr (10, [.null, .null, vI 0, Value.ref q1, Value.ref q2, .null, .null, .null])) :: ((q1, .inl (gcT G 0, 5, .inl fun _ => 0)) :: ((q2, .inl (gcT G 0, 5, .inl fun _ => 0)) :: ((q3, .inl (gcT G 0, 6, .inl fun _ => 0)) :: ([]))))) C rfl (by decide) ac_int (by decide) (by decide) dX10_init_26 (fun q3 => by simp only [List.cons_append, List.append_assoc, List.nil_append]) (fun q3 => ?_)
  refine n_putF (j := 5) (fs2 := [.null, .null, vI 0, Value.ref q1, Value.ref q2, Value.ref q3, .null, .null]) C rfl tyX10_ok nmX10 (Nat.le_of_ble_eq_true rfl) lkf_RX10_22 rfl hini rfl rfl rfl rfl (Nat.le_of_ble_eq_true rfl) dX10_init_28 rfl ?_
  refine n_aload_n C 0 dX10_init_31 rfl rfl ?_
  refine n_bipush (v := 6) C dX10_init_32 (by decide) ?_
  refine n_newI (N := 6) (ws2 := fun q4 => (h0, .inr (10, [.null, .null, vI 0, Value.ref q1, Value.ref q2, Value.ref q3, .null, .null])) :: ((q1, .inl (gcT G 0, 5, .inl fun _ => 0)) :: ((q2, .inl (gcT G 0, 5, .inl fun _ => 0)) :: ((q3, .inl (gcT G 0, 6, .inl fun _ => 0)) :: ((q4, .inl (gcT G 0, 6, .inl fun _ => 0)) :: ([])))))) C rfl (by decide) ac_int (by decide) (by decide) dX10_init_34 (fun q4 => by simp only [List.cons_append, List.append_assoc, List.nil_append]) (fun q4 => ?_)
  refine n_putF (j := 6) (fs2 := [.null, .null, vI 0, Value.ref q1, Value.ref q2, Value.ref q3, Value.ref q4, .null]) C rfl tyX10_ok nmX10 (Nat.le_of_ble_eq_true rfl) lkf_RX10_25 rfl hini rfl rfl rfl rfl (Nat.le_of_ble_eq_true rfl) dX10_init_36 rfl ?_
  refine n_aload_n C 0 dX10_init_39 rfl rfl ?_
  refine n_iconst C dX10_init_40 ?_
  refine n_bipush (v := 6) C dX10_init_41 (by decide) ?_
  refine n_mna3 (N := 5) (M := 6) (ws2 := fun q5 r5 => (h0, .inr (10, [.null, .null, vI 0, Value.ref q1, Value.ref q2, Value.ref q3, Value.ref q4, .null])) :: ((q1, .inl (gcT G 0, 5, .inl fun _ => 0)) :: ((q2, .inl (gcT G 0, 5, .inl fun _ => 0)) :: ((q3, .inl (gcT G 0, 6, .inl fun _ => 0)) :: ((q4, .inl (gcT G 0, 6, .inl fun _ => 0)) :: ((q5, .inl (gcT G 3, 5, .inr (.inr (.inr (.inr (fun i => if i < 5 then some (r5 i) else none)))))) :: ((List.range 5).map (fun i => (r5 i, .inl (gcT G 0, 6, .inl fun _ => 0))) ++ ([])))))))) C rfl rfl (by decide) (by decide) lkk_RX10_28 ac_int (by decide) (by decide) dX10_init_43 (fun q5 r5 => by simp only [List.cons_append, List.append_assoc, List.nil_append, List.append_nil]) (fun q5 r5 => ?_)
  refine n_putF (j := 7) (fs2 := [.null, .null, vI 0, Value.ref q1, Value.ref q2, Value.ref q3, Value.ref q4, Value.ref q5]) C rfl tyX10_ok nmX10 (Nat.le_of_ble_eq_true rfl) lkf_RX10_30 rfl hini rfl rfl rfl rfl (Nat.le_of_ble_eq_true rfl) dX10_init_47 rfl ?_
  refine n_aload_n C 0 dX10_init_50 rfl rfl ?_
  refine n_aload_n C 1 dX10_init_51 rfl rfl ?_
  refine n_putF (j := 0) (fs2 := [Value.ref a1, .null, vI 0, Value.ref q1, Value.ref q2, Value.ref q3, Value.ref q4, Value.ref q5]) C rfl tyX10_ok nmX10 (Nat.le_of_ble_eq_true rfl) lkf_RX10_33 rfl hini rfl rfl rfl rfl (Nat.le_of_ble_eq_true rfl) dX10_init_52 rfl ?_
  refine n_aload_n C 0 dX10_init_55 rfl rfl ?_
  refine n_new (ci := 6) (fs := [.null, .int 0, .null, .null, .null, .null, .null, .long 0, .int 0]) (ws2 := fun q6 => (h0, .inr (10, [Value.ref a1, .null, vI 0, Value.ref q1, Value.ref q2, Value.ref q3, Value.ref q4, Value.ref q5])) :: ((q1, .inl (gcT G 0, 5, .inl fun _ => 0)) :: ((q2, .inl (gcT G 0, 5, .inl fun _ => 0)) :: ((q3, .inl (gcT G 0, 6, .inl fun _ => 0)) :: ((q4, .inl (gcT G 0, 6, .inl fun _ => 0)) :: ((q5, .inl (gcT G 3, 5, .inr (.inr (.inr (.inr (fun i => if i < 5 then some (r5 i) else none)))))) :: ((List.range 5).map (fun i => (r5 i, .inl (gcT G 0, 6, .inl fun _ => 0))) ++ ((q6, .inr (6, [.null, .int 0, .null, .null, .null, .null, .null, .long 0, .int 0])) :: ([]))))))))) C rfl tyX6_ok nf_6 lkk_RX10_37 ins_RX6 ini_RX6 (by decide) (by decide) dX10_init_56 (fun q6 => by simp only [List.cons_append, List.append_assoc, List.nil_append]) (fun q6 => ?_)
  refine n_dup C dX10_init_59 ?_
  refine n_aload_n C 1 dX10_init_60 rfl rfl ?_
  refine n_iconst C dX10_init_61 ?_
  refine n_cI (w0 := (h0, .inr (10, [Value.ref a1, .null, vI 0, Value.ref q1, Value.ref q2, Value.ref q3, Value.ref q4, Value.ref q5])) :: ((q1, .inl (gcT G 0, 5, .inl fun _ => 0)) :: ((q2, .inl (gcT G 0, 5, .inl fun _ => 0)) :: ((q3, .inl (gcT G 0, 6, .inl fun _ => 0)) :: ((q4, .inl (gcT G 0, 6, .inl fun _ => 0)) :: ((q5, .inl (gcT G 3, 5, .inr (.inr (.inr (.inr (fun i => if i < 5 then some (r5 i) else none)))))) :: ((List.range 5).map (fun i => (r5 i, .inl (gcT G 0, 6, .inl fun _ => 0))) ++ ([])))))))) (ws2 := fun ad7 => (h0, .inr (10, [Value.ref a1, .null, vI 0, Value.ref q1, Value.ref q2, Value.ref q3, Value.ref q4, Value.ref q5])) :: ((q1, .inl (gcT G 0, 5, .inl fun _ => 0)) :: ((q2, .inl (gcT G 0, 5, .inl fun _ => 0)) :: ((q3, .inl (gcT G 0, 6, .inl fun _ => 0)) :: ((q4, .inl (gcT G 0, 6, .inl fun _ => 0)) :: ((q5, .inl (gcT G 3, 5, .inr (.inr (.inr (.inr (fun i => if i < 5 then some (r5 i) else none)))))) :: ((List.range 5).map (fun i => (r5 i, .inl (gcT G 0, 6, .inl fun _ => 0))) ++ (gWl reg_X6_init1 ad7 (gcT G) gMem0 ++ ([]))))))))) C [Value.ref a1, vI 1] mb_X6_init rfl mii_X6_init lkm_RX10_39 (by decide) (ci_X6_init1 q6 a1) rfl (Nat.le_of_ble_eq_true rfl) (by simp only [List.cons_append, List.append_assoc, List.nil_append]) rfl (by decide) (by decide) dX10_init_62 (fun ad7 => by simp only [List.cons_append, List.append_assoc, List.nil_append, List.append_nil]) (fun ad7 he7 => ?_)
  obtain ⟨hf7_0, hf7_1⟩ := he7
  subst hf7_0
  refine n_putF (j := 1) (fs2 := [Value.ref a1, Value.ref (ad7 132), vI 0, Value.ref q1, Value.ref q2, Value.ref q3, Value.ref q4, Value.ref q5]) C rfl tyX10_ok nmX10 (Nat.le_of_ble_eq_true rfl) lkf_RX10_42 rfl hini rfl rfl rfl rfl (Nat.le_of_ble_eq_true rfl) dX10_init_65 rfl ?_
  refine n_aload_n C 0 dX10_init_68 rfl rfl ?_
  refine n_get (j := 6) C rfl (Nat.le_of_ble_eq_true rfl) lkf_RX10_25 rfl dX10_init_69 ?_
  refine n_iconst C dX10_init_72 ?_
  refine n_fill (i0 := 4) (ws2 := (h0, .inr (10, [Value.ref a1, Value.ref (ad7 132), vI 0, Value.ref q1, Value.ref q2, Value.ref q3, Value.ref q4, Value.ref q5])) :: ((q1, .inl (gcT G 0, 5, .inl fun _ => 0)) :: ((q2, .inl (gcT G 0, 5, .inl fun _ => 0)) :: ((q3, .inl (gcT G 0, 6, .inl fun _ => 0)) :: ((q4, .inl (gcT G 0, 6, .inl fun _ => Int32.ofInt (-1))) :: ((q5, .inl (gcT G 3, 5, .inr (.inr (.inr (.inr (fun i => if i < 5 then some (r5 i) else none)))))) :: ((List.range 5).map (fun i => (r5 i, .inl (gcT G 0, 6, .inl fun _ => 0))) ++ (gWl reg_X6_init1 ad7 (gcT G) gMem0 ++ ([]))))))))) C (ct_fill ⟨by decide, by decide⟩ (by decide) _) lkm_RX10_46 (by decide) (Nat.le_of_ble_eq_true rfl) rfl (by decide) (by decide) dX10_init_73 rfl ?_
  refine n_vret C hQ (fun k => if k = 31 then h0 else if k = 32 then q1 else if k = 33 then q2 else if k = 34 then q3 else if k = 35 then q4 else if k = 36 then q5 else if 37 ≤ k ∧ k < 42 then r5 (k - 37) else if 132 ≤ k ∧ k < 139 then ad7 k else if k = 1 then a1 else 0) ⟨rfl, rfl⟩ ?_ (by decide) (by decide) dX10_init_76
  generalize hadf : ((fun k => if k = 31 then h0 else if k = 32 then q1 else if k = 33 then q2 else if k = 34 then q3 else if k = 35 then q4 else if k = 36 then q5 else if 37 ≤ k ∧ k < 42 then r5 (k - 37) else if 132 ≤ k ∧ k < 139 then ad7 k else if k = 1 then a1 else 0) : Nat → Nat) = adf
  have hs_ad7 : gWl reg_X6_init1 ad7 (gcT G) gMem0 = gWl reg_X6_init1 adf (gcT G) gMem0 := by
    refine gWl_congr (S := (reg_X6_init1 ++ [1])) (fun k hk => ?_) (by decide +kernel)
    rcases List.mem_append.mp hk with hk | hk
    · have hr : (132 ≤ k ∧ k < 139) := by
        have key : ∀ k ∈ reg_X6_init1, (132 ≤ k ∧ k < 139) := by decide +kernel
        exact key k hk
      rw [← hadf]
      dsimp only
      repeat (first | rw [if_pos (by omega)] | rw [if_neg (by omega)])
    · simp only [List.mem_cons, List.not_mem_nil, or_false] at hk
      rcases hk with rfl
      · rw [hf7_1, ← hadf]; rfl
  rw [hs_ad7]
  show _ = gWl (31 :: (32 :: (33 :: (34 :: (35 :: (36 :: ([37, 38, 39, 40, 41] ++ (reg_X6_init1 ++ ([]))))))))) adf (gcT G) gMem0
  simp only [gWl_cons, gWl_app]
  subst hadf
  have hrow : ∀ i : Nat, i < 5 → ((fun k => if k = 31 then h0 else if k = 32 then q1 else if k = 33 then q2 else if k = 34 then q3 else if k = 35 then q4 else if k = 36 then q5 else if 37 ≤ k ∧ k < 42 then r5 (k - 37) else if 132 ≤ k ∧ k < 139 then ad7 k else if k = 1 then a1 else 0) : Nat → Nat) (37 + i) = r5 i := by
    intro i hi
    dsimp only
    repeat (first | rw [if_neg (by omega)] | rw [if_pos (by omega)])
    exact congrArg r5 (by omega)
  have hfun : (fun i : Nat => if i < 5 then some (r5 i) else none) = (fun i : Nat => if i < 5 then some (((fun k => if k = 31 then h0 else if k = 32 then q1 else if k = 33 then q2 else if k = 34 then q3 else if k = 35 then q4 else if k = 36 then q5 else if 37 ≤ k ∧ k < 42 then r5 (k - 37) else if 132 ≤ k ∧ k < 139 then ad7 k else if k = 1 then a1 else 0) : Nat → Nat) (37 + i)) else none) := funext fun i => by
    by_cases hi : i < 5
    · rw [if_pos hi, if_pos hi, hrow i hi]
    · rw [if_neg hi, if_neg hi]
  rw [hfun]
  rfl
def reg_X4_init : List Nat := 42 :: (43 :: (44 :: (45 :: (46 :: ([])))))
set_option maxHeartbeats 8000000 in
set_option maxRecDepth 100000 in
theorem ci_X4_init (h0 a1 a2 : Nat) : Cw 1 4 803 yX4_init cX4_init 3 [Value.ref h0, Value.ref a1, Value.ref a2] (fun _ => [(h0, .inr (4, [.null, .null, .int 0, .null, .int 0, .int 0, .int 0, .null, .null, .null, .int 0]))]) (fun ad => ad 42 = h0 ∧ ad 1 = a1 ∧ ad 94 = a2) (fun ad cT => gWl reg_X4_init ad cT gMem0) := by
  refine Cw.of pf_X4_init (Nat.le_of_ble_eq_true rfl) (fun G C hini hQ => ?_)
  show WK G 3 [(h0, .inr (4, [.null, .null, .int 0, .null, .int 0, .int 0, .int 0, .null, .null, .null, .int 0]))] 0 0 0 [(0, Value.ref h0), (1, Value.ref a1), (2, Value.ref a2)] []
  refine n_aload_n C 0 dX4_init_0 rfl rfl ?_
  refine n_obji C lko_RX4_3 ob_i ob_c (by decide) (Nat.le_of_ble_eq_true rfl) dX4_init_1 ?_
  refine n_aload_n C 0 dX4_init_4 rfl rfl ?_
  refine n_iconst C dX4_init_5 ?_
  refine n_put (j := 2) (fs2 := [.null, .null, vI 0, .null, .int 0, .int 0, .int 0, .null, .null, .null, .int 0]) C rfl tyX4_ok nmX4 (Nat.le_of_ble_eq_true rfl) lkf_RX4_9 rfl rfl rfl rfl (Nat.le_of_ble_eq_true rfl) dX4_init_6 rfl ?_
  refine n_aload_n C 0 dX4_init_9 rfl rfl ?_
  refine n_sipush (v := 200) C dX4_init_10 (by decide) ?_
  refine n_newI (N := 200) (ws2 := fun q1 => (h0, .inr (4, [.null, .null, vI 0, .null, .int 0, .int 0, .int 0, .null, .null, .null, .int 0])) :: ((q1, .inl (gcT G 0, 200, .inl fun _ => 0)) :: ([]))) C rfl (by decide) ac_int (by decide) (by decide) dX4_init_13 (fun q1 => by simp only [List.cons_append, List.append_assoc, List.nil_append]) (fun q1 => ?_)
  refine n_putF (j := 3) (fs2 := [.null, .null, vI 0, Value.ref q1, .int 0, .int 0, .int 0, .null, .null, .null, .int 0]) C rfl tyX4_ok nmX4 (Nat.le_of_ble_eq_true rfl) lkf_RX4_15 rfl hini rfl rfl rfl rfl (Nat.le_of_ble_eq_true rfl) dX4_init_15 rfl ?_
  refine n_aload_n C 0 dX4_init_18 rfl rfl ?_
  refine n_iconst C dX4_init_19 ?_
  refine n_put (j := 4) (fs2 := [.null, .null, vI 0, Value.ref q1, vI 0, .int 0, .int 0, .null, .null, .null, .int 0]) C rfl tyX4_ok nmX4 (Nat.le_of_ble_eq_true rfl) lkf_RX4_19 rfl rfl rfl rfl (Nat.le_of_ble_eq_true rfl) dX4_init_20 rfl ?_
  refine n_aload_n C 0 dX4_init_23 rfl rfl ?_
  refine n_iconst C dX4_init_24 ?_
  refine n_put (j := 5) (fs2 := [.null, .null, vI 0, Value.ref q1, vI 0, vI 0, .int 0, .null, .null, .null, .int 0]) C rfl tyX4_ok nmX4 (Nat.le_of_ble_eq_true rfl) lkf_RX4_22 rfl rfl rfl rfl (Nat.le_of_ble_eq_true rfl) dX4_init_25 rfl ?_
  refine n_aload_n C 0 dX4_init_28 rfl rfl ?_
  refine n_iconst C dX4_init_29 ?_
  refine n_put (j := 6) (fs2 := [.null, .null, vI 0, Value.ref q1, vI 0, vI 0, vI 0, .null, .null, .null, .int 0]) C rfl tyX4_ok nmX4 (Nat.le_of_ble_eq_true rfl) lkf_RX4_25 rfl rfl rfl rfl (Nat.le_of_ble_eq_true rfl) dX4_init_30 rfl ?_
  refine n_aload_n C 0 dX4_init_33 rfl rfl ?_
  refine n_sipush (v := 201) C dX4_init_34 (by decide) ?_
  refine n_newZ (N := 201) (ws2 := fun q2 => (h0, .inr (4, [.null, .null, vI 0, Value.ref q1, vI 0, vI 0, vI 0, .null, .null, .null, .int 0])) :: ((q1, .inl (gcT G 0, 200, .inl fun _ => 0)) :: ((q2, .inl (gcT G 1, 201, .inl fun _ => 0)) :: ([])))) C rfl (by decide) ac_boolean (by decide) (by decide) dX4_init_37 (fun q2 => by simp only [List.cons_append, List.append_assoc, List.nil_append]) (fun q2 => ?_)
  refine n_putF (j := 7) (fs2 := [.null, .null, vI 0, Value.ref q1, vI 0, vI 0, vI 0, Value.ref q2, .null, .null, .int 0]) C rfl tyX4_ok nmX4 (Nat.le_of_ble_eq_true rfl) lkf_RX4_28 rfl hini rfl rfl rfl rfl (Nat.le_of_ble_eq_true rfl) dX4_init_39 rfl ?_
  refine n_aload_n C 0 dX4_init_42 rfl rfl ?_
  refine n_sipush (v := 201) C dX4_init_43 (by decide) ?_
  refine n_newZ (N := 201) (ws2 := fun q3 => (h0, .inr (4, [.null, .null, vI 0, Value.ref q1, vI 0, vI 0, vI 0, Value.ref q2, .null, .null, .int 0])) :: ((q1, .inl (gcT G 0, 200, .inl fun _ => 0)) :: ((q2, .inl (gcT G 1, 201, .inl fun _ => 0)) :: ((q3, .inl (gcT G 1, 201, .inl fun _ => 0)) :: ([]))))) C rfl (by decide) ac_boolean (by decide) (by decide) dX4_init_46 (fun q3 => by simp only [List.cons_append, List.append_assoc, List.nil_append]) (fun q3 => ?_)
  refine n_putF (j := 8) (fs2 := [.null, .null, vI 0, Value.ref q1, vI 0, vI 0, vI 0, Value.ref q2, Value.ref q3, .null, .int 0]) C rfl tyX4_ok nmX4 (Nat.le_of_ble_eq_true rfl) lkf_RX4_32 rfl hini rfl rfl rfl rfl (Nat.le_of_ble_eq_true rfl) dX4_init_48 rfl ?_
  refine n_aload_n C 0 dX4_init_51 rfl rfl ?_
  refine n_sipush (v := 201) C dX4_init_52 (by decide) ?_
  refine n_newZ (N := 201) (ws2 := fun q4 => (h0, .inr (4, [.null, .null, vI 0, Value.ref q1, vI 0, vI 0, vI 0, Value.ref q2, Value.ref q3, .null, .int 0])) :: ((q1, .inl (gcT G 0, 200, .inl fun _ => 0)) :: ((q2, .inl (gcT G 1, 201, .inl fun _ => 0)) :: ((q3, .inl (gcT G 1, 201, .inl fun _ => 0)) :: ((q4, .inl (gcT G 1, 201, .inl fun _ => 0)) :: ([])))))) C rfl (by decide) ac_boolean (by decide) (by decide) dX4_init_55 (fun q4 => by simp only [List.cons_append, List.append_assoc, List.nil_append]) (fun q4 => ?_)
  refine n_putF (j := 9) (fs2 := [.null, .null, vI 0, Value.ref q1, vI 0, vI 0, vI 0, Value.ref q2, Value.ref q3, Value.ref q4, .int 0]) C rfl tyX4_ok nmX4 (Nat.le_of_ble_eq_true rfl) lkf_RX4_35 rfl hini rfl rfl rfl rfl (Nat.le_of_ble_eq_true rfl) dX4_init_57 rfl ?_
  refine n_aload_n C 0 dX4_init_60 rfl rfl ?_
  refine n_iconst C dX4_init_61 ?_
  refine n_put (j := 10) (fs2 := [.null, .null, vI 0, Value.ref q1, vI 0, vI 0, vI 0, Value.ref q2, Value.ref q3, Value.ref q4, vI 0]) C rfl tyX4_ok nmX4 (Nat.le_of_ble_eq_true rfl) lkf_RX4_38 rfl rfl rfl rfl (Nat.le_of_ble_eq_true rfl) dX4_init_62 rfl ?_
  refine n_aload_n C 0 dX4_init_65 rfl rfl ?_
  refine n_aload_n C 1 dX4_init_66 rfl rfl ?_
  refine n_putF (j := 0) (fs2 := [Value.ref a1, .null, vI 0, Value.ref q1, vI 0, vI 0, vI 0, Value.ref q2, Value.ref q3, Value.ref q4, vI 0]) C rfl tyX4_ok nmX4 (Nat.le_of_ble_eq_true rfl) lkf_RX4_41 rfl hini rfl rfl rfl rfl (Nat.le_of_ble_eq_true rfl) dX4_init_67 rfl ?_
  refine n_aload_n C 0 dX4_init_70 rfl rfl ?_
  refine n_aload_n C 2 dX4_init_71 rfl rfl ?_
  refine n_putF (j := 1) (fs2 := [Value.ref a1, Value.ref a2, vI 0, Value.ref q1, vI 0, vI 0, vI 0, Value.ref q2, Value.ref q3, Value.ref q4, vI 0]) C rfl tyX4_ok nmX4 (Nat.le_of_ble_eq_true rfl) lkf_RX4_45 rfl hini rfl rfl rfl rfl (Nat.le_of_ble_eq_true rfl) dX4_init_72 rfl ?_
  refine n_vret C hQ (fun k => if k = 42 then h0 else if k = 43 then q1 else if k = 44 then q2 else if k = 45 then q3 else if k = 46 then q4 else if k = 1 then a1 else if k = 94 then a2 else 0) ⟨rfl, rfl, rfl⟩ ?_ (by decide) (by decide) dX4_init_75
  rfl
def reg_X5_init : List Nat := 47 :: (48 :: (49 :: (50 :: (51 :: (52 :: ([]))))))
set_option maxHeartbeats 8000000 in
set_option maxRecDepth 100000 in
theorem ci_X5_init (h0 a1 a2 a3 : Nat) : Cw 1 5 23 yX5_init cX5_init 4 [Value.ref h0, Value.ref a1, Value.ref a2, Value.ref a3] (fun _ => [(h0, .inr (5, [.null, .null, .null, .null, .null, .null, .null, .null]))]) (fun ad => ad 47 = h0 ∧ ad 1 = a1 ∧ ad 42 = a3 ∧ ad 94 = a2) (fun ad cT => gWl reg_X5_init ad cT gMem0) := by
  refine Cw.of pf_X5_init (Nat.le_of_ble_eq_true rfl) (fun G C hini hQ => ?_)
  show WK G 4 [(h0, .inr (5, [.null, .null, .null, .null, .null, .null, .null, .null]))] 0 0 0 [(0, Value.ref h0), (1, Value.ref a1), (2, Value.ref a2), (3, Value.ref a3)] []
  refine n_aload_n C 0 dX5_init_0 rfl rfl ?_
  refine n_obji C lko_RX5_3 ob_i ob_c (by decide) (Nat.le_of_ble_eq_true rfl) dX5_init_1 ?_
  refine n_aload_n C 0 dX5_init_4 rfl rfl ?_
  refine n_bipush (v := 6) C dX5_init_5 (by decide) ?_
  refine n_newI (N := 6) (ws2 := fun q1 => (h0, .inr (5, [.null, .null, .null, .null, .null, .null, .null, .null])) :: ((q1, .inl (gcT G 0, 6, .inl fun _ => 0)) :: ([]))) C rfl (by decide) ac_int (by decide) (by decide) dX5_init_7 (fun q1 => by simp only [List.cons_append, List.append_assoc, List.nil_append]) (fun q1 => ?_)
  refine n_putF (j := 3) (fs2 := [.null, .null, .null, Value.ref q1, .null, .null, .null, .null]) C rfl tyX5_ok nmX5 (Nat.le_of_ble_eq_true rfl) lkf_RX5_9 rfl hini rfl rfl rfl rfl (Nat.le_of_ble_eq_true rfl) dX5_init_9 rfl ?_
  refine n_aload_n C 0 dX5_init_12 rfl rfl ?_
  refine n_iconst C dX5_init_13 ?_
  refine n_newI (N := 3) (ws2 := fun q2 => (h0, .inr (5, [.null, .null, .null, Value.ref q1, .null, .null, .null, .null])) :: ((q1, .inl (gcT G 0, 6, .inl fun _ => 0)) :: ((q2, .inl (gcT G 0, 3, .inl fun _ => 0)) :: ([])))) C rfl (by decide) ac_int (by decide) (by decide) dX5_init_14 (fun q2 => by simp only [List.cons_append, List.append_assoc, List.nil_append]) (fun q2 => ?_)
  refine n_putF (j := 4) (fs2 := [.null, .null, .null, Value.ref q1, Value.ref q2, .null, .null, .null]) C rfl tyX5_ok nmX5 (Nat.le_of_ble_eq_true rfl) lkf_RX5_15 rfl hini rfl rfl rfl rfl (Nat.le_of_ble_eq_true rfl) dX5_init_16 rfl ?_
  refine n_aload_n C 0 dX5_init_19 rfl rfl ?_
  refine n_iconst C dX5_init_20 ?_
  refine n_newI (N := 3) (ws2 := fun q3 => (h0, .inr (5, [.null, .null, .null, Value.ref q1, Value.ref q2, .null, .null, .null])) :: ((q1, .inl (gcT G 0, 6, .inl fun _ => 0)) :: ((q2, .inl (gcT G 0, 3, .inl fun _ => 0)) :: ((q3, .inl (gcT G 0, 3, .inl fun _ => 0)) :: ([]))))) C rfl (by decide) ac_int (by decide) (by decide) dX5_init_21 (fun q3 => by simp only [List.cons_append, List.append_assoc, List.nil_append]) (fun q3 => ?_)
  refine n_putF (j := 5) (fs2 := [.null, .null, .null, Value.ref q1, Value.ref q2, Value.ref q3, .null, .null]) C rfl tyX5_ok nmX5 (Nat.le_of_ble_eq_true rfl) lkf_RX5_18 rfl hini rfl rfl rfl rfl (Nat.le_of_ble_eq_true rfl) dX5_init_23 rfl ?_
  refine n_aload_n C 0 dX5_init_26 rfl rfl ?_
  refine n_iconst C dX5_init_27 ?_
  refine n_newI (N := 3) (ws2 := fun q4 => (h0, .inr (5, [.null, .null, .null, Value.ref q1, Value.ref q2, Value.ref q3, .null, .null])) :: ((q1, .inl (gcT G 0, 6, .inl fun _ => 0)) :: ((q2, .inl (gcT G 0, 3, .inl fun _ => 0)) :: ((q3, .inl (gcT G 0, 3, .inl fun _ => 0)) :: ((q4, .inl (gcT G 0, 3, .inl fun _ => 0)) :: ([])))))) C rfl (by decide) ac_int (by decide) (by decide) dX5_init_28 (fun q4 => by simp only [List.cons_append, List.append_assoc, List.nil_append]) (fun q4 => ?_)
  refine n_putF (j := 6) (fs2 := [.null, .null, .null, Value.ref q1, Value.ref q2, Value.ref q3, Value.ref q4, .null]) C rfl tyX5_ok nmX5 (Nat.le_of_ble_eq_true rfl) lkf_RX5_21 rfl hini rfl rfl rfl rfl (Nat.le_of_ble_eq_true rfl) dX5_init_30 rfl ?_
  refine n_aload_n C 0 dX5_init_33 rfl rfl ?_
  refine n_bipush (v := 8) C dX5_init_34 (by decide) ?_
  refine n_newI (N := 8) (ws2 := fun q5 => (h0, .inr (5, [.null, .null, .null, Value.ref q1, Value.ref q2, Value.ref q3, Value.ref q4, .null])) :: ((q1, .inl (gcT G 0, 6, .inl fun _ => 0)) :: ((q2, .inl (gcT G 0, 3, .inl fun _ => 0)) :: ((q3, .inl (gcT G 0, 3, .inl fun _ => 0)) :: ((q4, .inl (gcT G 0, 3, .inl fun _ => 0)) :: ((q5, .inl (gcT G 0, 8, .inl fun _ => 0)) :: ([]))))))) C rfl (by decide) ac_int (by decide) (by decide) dX5_init_36 (fun q5 => by simp only [List.cons_append, List.append_assoc, List.nil_append]) (fun q5 => ?_)
  refine n_putF (j := 7) (fs2 := [.null, .null, .null, Value.ref q1, Value.ref q2, Value.ref q3, Value.ref q4, Value.ref q5]) C rfl tyX5_ok nmX5 (Nat.le_of_ble_eq_true rfl) lkf_RX5_24 rfl hini rfl rfl rfl rfl (Nat.le_of_ble_eq_true rfl) dX5_init_38 rfl ?_
  refine n_aload_n C 0 dX5_init_41 rfl rfl ?_
  refine n_aload_n C 1 dX5_init_42 rfl rfl ?_
  refine n_putF (j := 0) (fs2 := [Value.ref a1, .null, .null, Value.ref q1, Value.ref q2, Value.ref q3, Value.ref q4, Value.ref q5]) C rfl tyX5_ok nmX5 (Nat.le_of_ble_eq_true rfl) lkf_RX5_27 rfl hini rfl rfl rfl rfl (Nat.le_of_ble_eq_true rfl) dX5_init_43 rfl ?_
  refine n_aload_n C 0 dX5_init_46 rfl rfl ?_
  refine n_aload_n C 2 dX5_init_47 rfl rfl ?_
  refine n_putF (j := 1) (fs2 := [Value.ref a1, Value.ref a2, .null, Value.ref q1, Value.ref q2, Value.ref q3, Value.ref q4, Value.ref q5]) C rfl tyX5_ok nmX5 (Nat.le_of_ble_eq_true rfl) lkf_RX5_31 rfl hini rfl rfl rfl rfl (Nat.le_of_ble_eq_true rfl) dX5_init_48 rfl ?_
  refine n_aload_n C 0 dX5_init_51 rfl rfl ?_
  refine n_aload_n C 3 dX5_init_52 rfl rfl ?_
  refine n_putF (j := 2) (fs2 := [Value.ref a1, Value.ref a2, Value.ref a3, Value.ref q1, Value.ref q2, Value.ref q3, Value.ref q4, Value.ref q5]) C rfl tyX5_ok nmX5 (Nat.le_of_ble_eq_true rfl) lkf_RX5_35 rfl hini rfl rfl rfl rfl (Nat.le_of_ble_eq_true rfl) dX5_init_53 rfl ?_
  refine n_aload_n C 0 dX5_init_56 rfl rfl ?_
  refine n_get (j := 3) C rfl (Nat.le_of_ble_eq_true rfl) lkf_RX5_9 rfl dX5_init_57 ?_
  refine n_ldc (v := (-10000009)) C lkc_RX5_39 rfl dX5_init_60 ?_
  refine n_fill (i0 := 1) (ws2 := (h0, .inr (5, [Value.ref a1, Value.ref a2, Value.ref a3, Value.ref q1, Value.ref q2, Value.ref q3, Value.ref q4, Value.ref q5])) :: ((q1, .inl (gcT G 0, 6, .inl fun _ => Int32.ofInt (-10000009))) :: ((q2, .inl (gcT G 0, 3, .inl fun _ => 0)) :: ((q3, .inl (gcT G 0, 3, .inl fun _ => 0)) :: ((q4, .inl (gcT G 0, 3, .inl fun _ => 0)) :: ((q5, .inl (gcT G 0, 8, .inl fun _ => 0)) :: ([]))))))) C (ct_fill ⟨by decide, by decide⟩ (by decide) _) lkm_RX5_40 (by decide) (Nat.le_of_ble_eq_true rfl) rfl (by decide) (by decide) dX5_init_62 rfl ?_
  refine n_vret C hQ (fun k => if k = 47 then h0 else if k = 48 then q1 else if k = 49 then q2 else if k = 50 then q3 else if k = 51 then q4 else if k = 52 then q5 else if k = 1 then a1 else if k = 42 then a3 else if k = 94 then a2 else 0) ⟨rfl, rfl, rfl, rfl⟩ ?_ (by decide) (by decide) dX5_init_65
  rfl
