theorem ini_RL : Cond.initialized RL ∈ gT := gT_of (tb_1 (List.mem_of_getElem? (i := 0) rfl)) rfl
theorem ini_RX11 : Cond.initialized RX11 ∈ gT := gT_of (tb_1 (List.mem_of_getElem? (i := 1) rfl)) rfl
theorem ini_RX2 : Cond.initialized RX2 ∈ gT := gT_of (tb_1 (List.mem_of_getElem? (i := 2) rfl)) rfl
theorem ini_RX3 : Cond.initialized RX3 ∈ gT := gT_of (tb_1 (List.mem_of_getElem? (i := 3) rfl)) rfl
theorem ini_RX7 : Cond.initialized RX7 ∈ gT := gT_of (tb_1 (List.mem_of_getElem? (i := 4) rfl)) rfl
theorem ini_RX1 : Cond.initialized RX1 ∈ gT := gT_of (tb_1 (List.mem_of_getElem? (i := 5) rfl)) rfl
theorem ini_RX9 : Cond.initialized RX9 ∈ gT := gT_of (tb_1 (List.mem_of_getElem? (i := 6) rfl)) rfl
theorem ini_RX6 : Cond.initialized RX6 ∈ gT := gT_of (tb_1 (List.mem_of_getElem? (i := 7) rfl)) rfl
theorem ini_RJ9 : Cond.initialized RJ9 ∈ gT := gT_of (tb_1 (List.mem_of_getElem? (i := 8) rfl)) rfl
theorem ini_RJ7 : Cond.initialized RJ7 ∈ gT := gT_of (tb_1 (List.mem_of_getElem? (i := 9) rfl)) rfl
theorem ini_RX8 : Cond.initialized RX8 ∈ gT := gT_of (tb_1 (List.mem_of_getElem? (i := 10) rfl)) rfl
theorem ini_RX0 : Cond.initialized RX0 ∈ gT := gT_of (tb_1 (List.mem_of_getElem? (i := 11) rfl)) rfl
theorem ini_RX10 : Cond.initialized RX10 ∈ gT := gT_of (tb_1 (List.mem_of_getElem? (i := 12) rfl)) rfl
theorem ini_RX4 : Cond.initialized RX4 ∈ gT := gT_of (tb_1 (List.mem_of_getElem? (i := 13) rfl)) rfl
theorem ini_RX5 : Cond.initialized RX5 ∈ gT := gT_of (tb_1 (List.mem_of_getElem? (i := 14) rfl)) rfl
theorem ini_RX12 : Cond.initialized RX12 ∈ gT := gT_of (tb_1 (List.mem_of_getElem? (i := 15) rfl)) rfl
theorem ini_RJ10 : Cond.initialized RJ10 ∈ gT := gT_of (tb_1 (List.mem_of_getElem? (i := 16) rfl)) rfl
theorem ini_RJ6 : Cond.initialized RJ6 ∈ gT := gT_of (tb_1 (List.mem_of_getElem? (i := 17) rfl)) rfl
theorem lkk_RL_7 : Cond.classLink RL 7 RX11 ∈ gT := gT_of (tb_1 (List.mem_of_getElem? (i := 18) rfl)) rfl
theorem ins_RX11 : Cond.instantiable RX11 7 ∈ gT := gT_of (tb_1 (List.mem_of_getElem? (i := 19) rfl)) rfl
theorem lko_RX11_1 : Cond.methodLink RX11 1 Lib.objectInit ∈ gT := gT_of (tb_1 (List.mem_of_getElem? (i := 23) rfl)) rfl
theorem ob_i : Cond.instanceMethod Lib.objectInit ∈ gT := gT_of (tb_1 (List.mem_of_getElem? (i := 24) rfl)) rfl
theorem ob_c : Cond.code Lib.objectInit ⟨#[0xb1]⟩ 1 none ∈ gT := gT_of (tb_1 (List.mem_of_getElem? (i := 25) rfl)) rfl
theorem lkk_RX11_7 : Cond.classLink RX11 7 RX2 ∈ gT := gT_of (tb_1 (List.mem_of_getElem? (i := 26) rfl)) rfl
theorem ins_RX2 : Cond.instantiable RX2 8 ∈ gT := gT_of (tb_1 (List.mem_of_getElem? (i := 27) rfl)) rfl
theorem lko_RX2_3 : Cond.methodLink RX2 3 Lib.objectInit ∈ gT := gT_of (tb_1 (List.mem_of_getElem? (i := 31) rfl)) rfl
theorem lkk_RX2_25 : Cond.classLink RX2 25 RX3 ∈ gT := gT_of (tb_1 (List.mem_of_getElem? (i := 32) rfl)) rfl
theorem ins_RX3 : Cond.instantiable RX3 4 ∈ gT := gT_of (tb_1 (List.mem_of_getElem? (i := 33) rfl)) rfl
theorem lko_RX3_3 : Cond.methodLink RX3 3 Lib.objectInit ∈ gT := gT_of (tb_1 (List.mem_of_getElem? (i := 37) rfl)) rfl
theorem ac_int : Cond.arrayClass .int ∈ gT := gT_of (tb_1 (List.mem_of_getElem? (i := 65) rfl)) rfl
theorem lkk_RX2_32 : Cond.classLink RX2 32 RX7 ∈ gT := gT_of (tb_1 (List.mem_of_getElem? (i := 66) rfl)) rfl
theorem ins_RX7 : Cond.instantiable RX7 5 ∈ gT := gT_of (tb_1 (List.mem_of_getElem? (i := 67) rfl)) rfl
theorem lko_RX7_3 : Cond.methodLink RX7 3 Lib.objectInit ∈ gT := gT_of (tb_1 (List.mem_of_getElem? (i := 71) rfl)) rfl
theorem lkk_RX2_39 : Cond.classLink RX2 39 RX1 ∈ gT := gT_of (tb_1 (List.mem_of_getElem? (i := 104) rfl)) rfl
theorem ins_RX1 : Cond.instantiable RX1 4 ∈ gT := gT_of (tb_1 (List.mem_of_getElem? (i := 105) rfl)) rfl
theorem lko_RX1_3 : Cond.methodLink RX1 3 Lib.objectInit ∈ gT := gT_of (tb_1 (List.mem_of_getElem? (i := 109) rfl)) rfl
theorem lkk_RX2_46 : Cond.classLink RX2 46 RX9 ∈ gT := gT_of (tb_1 (List.mem_of_getElem? (i := 135) rfl)) rfl
theorem ins_RX9 : Cond.instantiable RX9 5 ∈ gT := gT_of (tb_1 (List.mem_of_getElem? (i := 136) rfl)) rfl
theorem lko_RX9_3 : Cond.methodLink RX9 3 Lib.objectInit ∈ gT := gT_of (tb_1 (List.mem_of_getElem? (i := 140) rfl)) rfl
theorem lkk_RX11_16 : Cond.classLink RX11 16 RX6 ∈ gT := gT_of (tb_1 (List.mem_of_getElem? (i := 234) rfl)) rfl
theorem ins_RX6 : Cond.instantiable RX6 9 ∈ gT := gT_of (tb_1 (List.mem_of_getElem? (i := 235) rfl)) rfl
theorem lko_RX6_3 : Cond.methodLink RX6 3 Lib.objectInit ∈ gT := gT_of (tb_1 (List.mem_of_getElem? (i := 239) rfl)) rfl
theorem lkk_RX6_43 : Cond.classLink RX6 43 ("[" ++ (FieldType.array .long).toString) ∈ gT := gT_of (tb_2 (List.mem_of_getElem? (i := 3) rfl)) rfl
theorem ac_long : Cond.arrayClass .long ∈ gT := gT_of (tb_2 (List.mem_of_getElem? (i := 44) rfl)) rfl
theorem lkk_RX11_25 : Cond.classLink RX11 25 RX8 ∈ gT := gT_of (tb_2 (List.mem_of_getElem? (i := 45) rfl)) rfl
theorem ins_RX8 : Cond.instantiable RX8 6 ∈ gT := gT_of (tb_2 (List.mem_of_getElem? (i := 46) rfl)) rfl
theorem lko_RX8_3 : Cond.methodLink RX8 3 Lib.objectInit ∈ gT := gT_of (tb_2 (List.mem_of_getElem? (i := 50) rfl)) rfl
theorem lkk_RX11_34 : Cond.classLink RX11 34 RX0 ∈ gT := gT_of (tb_2 (List.mem_of_getElem? (i := 71) rfl)) rfl
theorem ins_RX0 : Cond.instantiable RX0 4 ∈ gT := gT_of (tb_2 (List.mem_of_getElem? (i := 72) rfl)) rfl
theorem lko_RX0_3 : Cond.methodLink RX0 3 Lib.objectInit ∈ gT := gT_of (tb_2 (List.mem_of_getElem? (i := 76) rfl)) rfl
theorem lkk_RX11_43 : Cond.classLink RX11 43 RX10 ∈ gT := gT_of (tb_2 (List.mem_of_getElem? (i := 92) rfl)) rfl
theorem ins_RX10 : Cond.instantiable RX10 8 ∈ gT := gT_of (tb_2 (List.mem_of_getElem? (i := 93) rfl)) rfl
theorem lko_RX10_3 : Cond.methodLink RX10 3 Lib.objectInit ∈ gT := gT_of (tb_2 (List.mem_of_getElem? (i := 97) rfl)) rfl
theorem lkk_RX10_28 : Cond.classLink RX10 28 ("[" ++ (FieldType.array .int).toString) ∈ gT := gT_of (tb_2 (List.mem_of_getElem? (i := 98) rfl)) rfl
theorem lkk_RX10_37 : Cond.classLink RX10 37 RX6 ∈ gT := gT_of (tb_2 (List.mem_of_getElem? (i := 100) rfl)) rfl
theorem lkk_RX11_50 : Cond.classLink RX11 50 RX4 ∈ gT := gT_of (tb_2 (List.mem_of_getElem? (i := 130) rfl)) rfl
theorem ins_RX4 : Cond.instantiable RX4 11 ∈ gT := gT_of (tb_2 (List.mem_of_getElem? (i := 131) rfl)) rfl
theorem lko_RX4_3 : Cond.methodLink RX4 3 Lib.objectInit ∈ gT := gT_of (tb_2 (List.mem_of_getElem? (i := 135) rfl)) rfl
theorem ac_boolean : Cond.arrayClass .boolean ∈ gT := gT_of (tb_2 (List.mem_of_getElem? (i := 171) rfl)) rfl
theorem lkk_RX11_57 : Cond.classLink RX11 57 RX5 ∈ gT := gT_of (tb_2 (List.mem_of_getElem? (i := 172) rfl)) rfl
theorem ins_RX5 : Cond.instantiable RX5 8 ∈ gT := gT_of (tb_2 (List.mem_of_getElem? (i := 173) rfl)) rfl
theorem lko_RX5_3 : Cond.methodLink RX5 3 Lib.objectInit ∈ gT := gT_of (tb_2 (List.mem_of_getElem? (i := 177) rfl)) rfl
theorem lkk_RL_10 : Cond.classLink RL 10 RX12 ∈ gT := gT_of (tb_5 (List.mem_of_getElem? (i := 159) rfl)) rfl
theorem ins_RX12 : Cond.instantiable RX12 54 ∈ gT := gT_of (tb_5 (List.mem_of_getElem? (i := 160) rfl)) rfl
theorem lko_RX12_1 : Cond.methodLink RX12 1 Lib.objectInit ∈ gT := gT_of (tb_5 (List.mem_of_getElem? (i := 164) rfl)) rfl
theorem mii_X11_init : Cond.instanceMethod yX11_init ∈ gT := gT_of (tb_1 (List.mem_of_getElem? (i := 21) rfl)) rfl
theorem mii_X12_init : Cond.instanceMethod yX12_init ∈ gT := gT_of (tb_5 (List.mem_of_getElem? (i := 162) rfl)) rfl
theorem mii_X0_init : Cond.instanceMethod yX0_init ∈ gT := gT_of (tb_2 (List.mem_of_getElem? (i := 74) rfl)) rfl
theorem mii_X1_init : Cond.instanceMethod yX1_init ∈ gT := gT_of (tb_1 (List.mem_of_getElem? (i := 107) rfl)) rfl
theorem mii_X2_init : Cond.instanceMethod yX2_init ∈ gT := gT_of (tb_1 (List.mem_of_getElem? (i := 29) rfl)) rfl
theorem mii_X3_init : Cond.instanceMethod yX3_init ∈ gT := gT_of (tb_1 (List.mem_of_getElem? (i := 35) rfl)) rfl
theorem mii_X4_init : Cond.instanceMethod yX4_init ∈ gT := gT_of (tb_2 (List.mem_of_getElem? (i := 133) rfl)) rfl
theorem mii_X5_init : Cond.instanceMethod yX5_init ∈ gT := gT_of (tb_2 (List.mem_of_getElem? (i := 175) rfl)) rfl
theorem mii_X6_init : Cond.instanceMethod yX6_init ∈ gT := gT_of (tb_1 (List.mem_of_getElem? (i := 237) rfl)) rfl
theorem mii_X7_init : Cond.instanceMethod yX7_init ∈ gT := gT_of (tb_1 (List.mem_of_getElem? (i := 69) rfl)) rfl
theorem mii_X8_init : Cond.instanceMethod yX8_init ∈ gT := gT_of (tb_2 (List.mem_of_getElem? (i := 48) rfl)) rfl
theorem mii_X9_init : Cond.instanceMethod yX9_init ∈ gT := gT_of (tb_1 (List.mem_of_getElem? (i := 138) rfl)) rfl
theorem mii_X10_init : Cond.instanceMethod yX10_init ∈ gT := gT_of (tb_2 (List.mem_of_getElem? (i := 95) rfl)) rfl
