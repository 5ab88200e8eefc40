theorem wo_X8_1 : Cond.methodLink RX8 1 Lib.objectInit ∈ ALLW := inT1 (List.mem_of_getElem? (i := 30) rfl) rfl
theorem wo_inst : Cond.instanceMethod Lib.objectInit ∈ ALLW := inT1 (List.mem_of_getElem? (i := 23) rfl) rfl
theorem wo_code : Cond.code Lib.objectInit ⟨#[0xb1]⟩ 1 none ∈ ALLW := inT1 (List.mem_of_getElem? (i := 24) rfl) rfl
theorem wm_X8_7 : Cond.methodLink RX8 7 Lib.Math.max.name ∈ ALLW := inT1 (List.mem_of_getElem? (i := 31) rfl) rfl
theorem wa_0 : Cond.arrayClass .byte ∈ ALLW := inT1 (List.mem_of_getElem? (i := 44) rfl) rfl
theorem wo_X10_3 : Cond.methodLink RX10 3 Lib.objectInit ∈ ALLW := inT1 (List.mem_of_getElem? (i := 50) rfl) rfl
theorem cl_X10_9 : CL RX10 9 8 3 := ⟨RX8, TX8, tyX8, rfl, inU_X8, tyX8_ok, inT1 (List.mem_of_getElem? (i := 51) rfl) rfl, inT1 (List.mem_of_getElem? (i := 26) rfl) rfl, inT1 (List.mem_of_getElem? (i := 2) rfl) rfl, rfl, by decide⟩
theorem ml_X10_11 : MLI RX10 11 yX8_init cX8_init 2 1 := ⟨Or.inl (inT1 (List.mem_of_getElem? (i := 52) rfl) rfl), inT1 (List.mem_of_getElem? (i := 28) rfl) rfl, rfl, inT1 (List.mem_of_getElem? (i := 2) rfl) rfl, inT1 (List.mem_of_getElem? (i := 29) rfl) rfl, ⟨by decide +kernel, by decide +kernel, by decide +kernel⟩⟩
theorem wo_X4_3 : Cond.methodLink RX4 3 Lib.objectInit ∈ ALLW := inT1 (List.mem_of_getElem? (i := 75) rfl) rfl
theorem wa_1 : Cond.arrayClass .int ∈ ALLW := inT1 (List.mem_of_getElem? (i := 87) rfl) rfl
theorem wm_X4_15 : Cond.methodLink RX4 15 Lib.Math.max.name ∈ ALLW := inT1 (List.mem_of_getElem? (i := 76) rfl) rfl
theorem wo_X0_3 : Cond.methodLink RX0 3 Lib.objectInit ∈ ALLW := inT1 (List.mem_of_getElem? (i := 93) rfl) rfl
theorem wo_X3_3 : Cond.methodLink RX3 3 Lib.objectInit ∈ ALLW := inT1 (List.mem_of_getElem? (i := 126) rfl) rfl
theorem cl_X3_9 : CL RX3 9 8 3 := ⟨RX8, TX8, tyX8, rfl, inU_X8, tyX8_ok, inT1 (List.mem_of_getElem? (i := 127) rfl) rfl, inT1 (List.mem_of_getElem? (i := 26) rfl) rfl, inT1 (List.mem_of_getElem? (i := 2) rfl) rfl, rfl, by decide⟩
theorem ml_X3_11 : MLI RX3 11 yX8_init cX8_init 2 1 := ⟨Or.inl (inT1 (List.mem_of_getElem? (i := 128) rfl) rfl), inT1 (List.mem_of_getElem? (i := 28) rfl) rfl, rfl, inT1 (List.mem_of_getElem? (i := 2) rfl) rfl, inT1 (List.mem_of_getElem? (i := 29) rfl) rfl, ⟨by decide +kernel, by decide +kernel, by decide +kernel⟩⟩
theorem wo_X6_3 : Cond.methodLink RX6 3 Lib.objectInit ∈ ALLW := inT1 (List.mem_of_getElem? (i := 155) rfl) rfl
theorem wo_X1_3 : Cond.methodLink RX1 3 Lib.objectInit ∈ ALLW := inT1 (List.mem_of_getElem? (i := 174) rfl) rfl
theorem wo_X5_3 : Cond.methodLink RX5 3 Lib.objectInit ∈ ALLW := inT1 (List.mem_of_getElem? (i := 120) rfl) rfl
theorem cl_X5_9 : CL RX5 9 3 6 := ⟨RX3, TX3, tyX3, rfl, inU_X3, tyX3_ok, inT1 (List.mem_of_getElem? (i := 121) rfl) rfl, inT1 (List.mem_of_getElem? (i := 122) rfl) rfl, inT1 (List.mem_of_getElem? (i := 8) rfl) rfl, rfl, by decide⟩
theorem ml_X5_11 : MLI RX5 11 yX3_init cX3_init 1 0 := ⟨Or.inr ⟨_, inN1 (List.mem_of_getElem? (i := 123) rfl) rfl⟩, inT1 (List.mem_of_getElem? (i := 124) rfl) rfl, rfl, inT1 (List.mem_of_getElem? (i := 8) rfl) rfl, inT1 (List.mem_of_getElem? (i := 125) rfl) rfl, ⟨by decide +kernel, by decide +kernel, by decide +kernel⟩⟩
theorem cl_X5_18 : CL RX5 18 6 4 := ⟨RX6, TX6, tyX6, rfl, inU_X6, tyX6_ok, inT1 (List.mem_of_getElem? (i := 150) rfl) rfl, inT1 (List.mem_of_getElem? (i := 151) rfl) rfl, inT1 (List.mem_of_getElem? (i := 9) rfl) rfl, rfl, by decide⟩
theorem ml_X5_20 : MLI RX5 20 yX6_init cX6_init 1 0 := ⟨Or.inr ⟨_, inN1 (List.mem_of_getElem? (i := 152) rfl) rfl⟩, inT1 (List.mem_of_getElem? (i := 153) rfl) rfl, rfl, inT1 (List.mem_of_getElem? (i := 9) rfl) rfl, inT1 (List.mem_of_getElem? (i := 154) rfl) rfl, ⟨by decide +kernel, by decide +kernel, by decide +kernel⟩⟩
theorem cl_X5_25 : CL RX5 25 1 2 := ⟨RX1, TX1, tyX1, rfl, inU_X1, tyX1_ok, inT1 (List.mem_of_getElem? (i := 169) rfl) rfl, inT1 (List.mem_of_getElem? (i := 170) rfl) rfl, inT1 (List.mem_of_getElem? (i := 10) rfl) rfl, rfl, by decide⟩
theorem ml_X5_27 : MLI RX5 27 yX1_init cX1_init 1 0 := ⟨Or.inr ⟨_, inN1 (List.mem_of_getElem? (i := 171) rfl) rfl⟩, inT1 (List.mem_of_getElem? (i := 172) rfl) rfl, rfl, inT1 (List.mem_of_getElem? (i := 10) rfl) rfl, inT1 (List.mem_of_getElem? (i := 173) rfl) rfl, ⟨by decide +kernel, by decide +kernel, by decide +kernel⟩⟩
theorem cl_X5_32 : CL RX5 32 0 5 := ⟨RX0, TX0, tyX0, rfl, inU_X0, tyX0_ok, inT1 (List.mem_of_getElem? (i := 182) rfl) rfl, inT1 (List.mem_of_getElem? (i := 89) rfl) rfl, inT1 (List.mem_of_getElem? (i := 6) rfl) rfl, rfl, by decide⟩
theorem ml_X5_34 : MLI RX5 34 yX0_init cX0_init 3 2 := ⟨Or.inl (inT1 (List.mem_of_getElem? (i := 183) rfl) rfl), inT1 (List.mem_of_getElem? (i := 91) rfl) rfl, rfl, inT1 (List.mem_of_getElem? (i := 6) rfl) rfl, inT1 (List.mem_of_getElem? (i := 92) rfl) rfl, ⟨by decide +kernel, by decide +kernel, by decide +kernel⟩⟩
theorem cl_X5_41 : CL RX5 41 8 3 := ⟨RX8, TX8, tyX8, rfl, inU_X8, tyX8_ok, inT1 (List.mem_of_getElem? (i := 184) rfl) rfl, inT1 (List.mem_of_getElem? (i := 26) rfl) rfl, inT1 (List.mem_of_getElem? (i := 2) rfl) rfl, rfl, by decide⟩
theorem ml_X5_43 : MLI RX5 43 yX8_init cX8_init 2 1 := ⟨Or.inl (inT1 (List.mem_of_getElem? (i := 185) rfl) rfl), inT1 (List.mem_of_getElem? (i := 28) rfl) rfl, rfl, inT1 (List.mem_of_getElem? (i := 2) rfl) rfl, inT1 (List.mem_of_getElem? (i := 29) rfl) rfl, ⟨by decide +kernel, by decide +kernel, by decide +kernel⟩⟩
theorem wo_X2_3 : Cond.methodLink RX2 3 Lib.objectInit ∈ ALLW := inT2 (List.mem_of_getElem? (i := 28) rfl) rfl
theorem cl_X2_9 : CL RX2 9 8 3 := ⟨RX8, TX8, tyX8, rfl, inU_X8, tyX8_ok, inT2 (List.mem_of_getElem? (i := 29) rfl) rfl, inT1 (List.mem_of_getElem? (i := 26) rfl) rfl, inT1 (List.mem_of_getElem? (i := 2) rfl) rfl, rfl, by decide⟩
theorem ml_X2_11 : MLI RX2 11 yX8_init cX8_init 2 1 := ⟨Or.inl (inT2 (List.mem_of_getElem? (i := 30) rfl) rfl), inT1 (List.mem_of_getElem? (i := 28) rfl) rfl, rfl, inT1 (List.mem_of_getElem? (i := 2) rfl) rfl, inT1 (List.mem_of_getElem? (i := 29) rfl) rfl, ⟨by decide +kernel, by decide +kernel, by decide +kernel⟩⟩
theorem wo_X9_1 : Cond.methodLink RX9 1 Lib.objectInit ∈ ALLW := inT2 (List.mem_of_getElem? (i := 49) rfl) rfl
theorem cl_X9_7 : CL RX9 7 8 3 := ⟨RX8, TX8, tyX8, rfl, inU_X8, tyX8_ok, inT2 (List.mem_of_getElem? (i := 50) rfl) rfl, inT1 (List.mem_of_getElem? (i := 26) rfl) rfl, inT1 (List.mem_of_getElem? (i := 2) rfl) rfl, rfl, by decide⟩
theorem ml_X9_9 : MLI RX9 9 yX8_init cX8_init 2 1 := ⟨Or.inl (inT2 (List.mem_of_getElem? (i := 51) rfl) rfl), inT1 (List.mem_of_getElem? (i := 28) rfl) rfl, rfl, inT1 (List.mem_of_getElem? (i := 2) rfl) rfl, inT1 (List.mem_of_getElem? (i := 29) rfl) rfl, ⟨by decide +kernel, by decide +kernel, by decide +kernel⟩⟩
theorem wo_X7_3 : Cond.methodLink RX7 3 Lib.objectInit ∈ ALLW := inT2 (List.mem_of_getElem? (i := 22) rfl) rfl
theorem cl_X7_9 : CL RX7 9 2 3 := ⟨RX2, TX2, tyX2, rfl, inU_X2, tyX2_ok, inT2 (List.mem_of_getElem? (i := 23) rfl) rfl, inT2 (List.mem_of_getElem? (i := 24) rfl) rfl, inT1 (List.mem_of_getElem? (i := 13) rfl) rfl, rfl, by decide⟩
theorem ml_X7_11 : MLI RX7 11 yX2_init cX2_init 1 0 := ⟨Or.inr ⟨_, inN2 (List.mem_of_getElem? (i := 25) rfl) rfl⟩, inT2 (List.mem_of_getElem? (i := 26) rfl) rfl, rfl, inT1 (List.mem_of_getElem? (i := 13) rfl) rfl, inT2 (List.mem_of_getElem? (i := 27) rfl) rfl, ⟨by decide +kernel, by decide +kernel, by decide +kernel⟩⟩
theorem cl_X7_30 : CL RX7 30 9 5 := ⟨RX9, TX9, tyX9, rfl, inU_X9, tyX9_ok, inT2 (List.mem_of_getElem? (i := 44) rfl) rfl, inT2 (List.mem_of_getElem? (i := 45) rfl) rfl, inT1 (List.mem_of_getElem? (i := 14) rfl) rfl, rfl, by decide⟩
theorem ml_X7_32 : MLI RX7 32 yX9_init cX9_init 1 0 := ⟨Or.inr ⟨_, inN2 (List.mem_of_getElem? (i := 46) rfl) rfl⟩, inT2 (List.mem_of_getElem? (i := 47) rfl) rfl, rfl, inT1 (List.mem_of_getElem? (i := 14) rfl) rfl, inT2 (List.mem_of_getElem? (i := 48) rfl) rfl, ⟨by decide +kernel, by decide +kernel, by decide +kernel⟩⟩
theorem cl_X7_37 : CL RX7 37 8 3 := ⟨RX8, TX8, tyX8, rfl, inU_X8, tyX8_ok, inT2 (List.mem_of_getElem? (i := 68) rfl) rfl, inT1 (List.mem_of_getElem? (i := 26) rfl) rfl, inT1 (List.mem_of_getElem? (i := 2) rfl) rfl, rfl, by decide⟩
theorem ml_X7_39 : MLI RX7 39 yX8_init cX8_init 2 1 := ⟨Or.inl (inT2 (List.mem_of_getElem? (i := 69) rfl) rfl), inT1 (List.mem_of_getElem? (i := 28) rfl) rfl, rfl, inT1 (List.mem_of_getElem? (i := 2) rfl) rfl, inT1 (List.mem_of_getElem? (i := 29) rfl) rfl, ⟨by decide +kernel, by decide +kernel, by decide +kernel⟩⟩
theorem wo_X11_1 : Cond.methodLink RX11 1 Lib.objectInit ∈ ALLW := inT1 (List.mem_of_getElem? (i := 22) rfl) rfl
theorem cl_X11_7 : CL RX11 7 8 3 := ⟨RX8, TX8, tyX8, rfl, inU_X8, tyX8_ok, inT1 (List.mem_of_getElem? (i := 25) rfl) rfl, inT1 (List.mem_of_getElem? (i := 26) rfl) rfl, inT1 (List.mem_of_getElem? (i := 2) rfl) rfl, rfl, by decide⟩
theorem ml_X11_11 : MLI RX11 11 yX8_init cX8_init 2 1 := ⟨Or.inl (inT1 (List.mem_of_getElem? (i := 27) rfl) rfl), inT1 (List.mem_of_getElem? (i := 28) rfl) rfl, rfl, inT1 (List.mem_of_getElem? (i := 2) rfl) rfl, inT1 (List.mem_of_getElem? (i := 29) rfl) rfl, ⟨by decide +kernel, by decide +kernel, by decide +kernel⟩⟩
theorem cl_X11_30 : CL RX11 30 10 3 := ⟨RX10, TX10, tyX10, rfl, inU_X10, tyX10_ok, inT1 (List.mem_of_getElem? (i := 45) rfl) rfl, inT1 (List.mem_of_getElem? (i := 46) rfl) rfl, inT1 (List.mem_of_getElem? (i := 4) rfl) rfl, rfl, by decide⟩
theorem ml_X11_32 : MLI RX11 32 yX10_init cX10_init 1 0 := ⟨Or.inr ⟨_, inN1 (List.mem_of_getElem? (i := 47) rfl) rfl⟩, inT1 (List.mem_of_getElem? (i := 48) rfl) rfl, rfl, inT1 (List.mem_of_getElem? (i := 4) rfl) rfl, inT1 (List.mem_of_getElem? (i := 49) rfl) rfl, ⟨by decide +kernel, by decide +kernel, by decide +kernel⟩⟩
theorem cl_X11_43 : CL RX11 43 4 3 := ⟨RX4, TX4, tyX4, rfl, inU_X4, tyX4_ok, inT1 (List.mem_of_getElem? (i := 70) rfl) rfl, inT1 (List.mem_of_getElem? (i := 71) rfl) rfl, inT1 (List.mem_of_getElem? (i := 5) rfl) rfl, rfl, by decide⟩
theorem ml_X11_45 : MLI RX11 45 yX4_init cX4_init 2 1 := ⟨Or.inl (inT1 (List.mem_of_getElem? (i := 72) rfl) rfl), inT1 (List.mem_of_getElem? (i := 73) rfl) rfl, rfl, inT1 (List.mem_of_getElem? (i := 5) rfl) rfl, inT1 (List.mem_of_getElem? (i := 74) rfl) rfl, ⟨by decide +kernel, by decide +kernel, by decide +kernel⟩⟩
theorem cl_X11_50 : CL RX11 50 0 5 := ⟨RX0, TX0, tyX0, rfl, inU_X0, tyX0_ok, inT1 (List.mem_of_getElem? (i := 88) rfl) rfl, inT1 (List.mem_of_getElem? (i := 89) rfl) rfl, inT1 (List.mem_of_getElem? (i := 6) rfl) rfl, rfl, by decide⟩
theorem ml_X11_52 : MLI RX11 52 yX0_init cX0_init 3 2 := ⟨Or.inl (inT1 (List.mem_of_getElem? (i := 90) rfl) rfl), inT1 (List.mem_of_getElem? (i := 91) rfl) rfl, rfl, inT1 (List.mem_of_getElem? (i := 6) rfl) rfl, inT1 (List.mem_of_getElem? (i := 92) rfl) rfl, ⟨by decide +kernel, by decide +kernel, by decide +kernel⟩⟩
theorem cl_X11_59 : CL RX11 59 5 7 := ⟨RX5, TX5, tyX5, rfl, inU_X5, tyX5_ok, inT1 (List.mem_of_getElem? (i := 115) rfl) rfl, inT1 (List.mem_of_getElem? (i := 116) rfl) rfl, inT1 (List.mem_of_getElem? (i := 7) rfl) rfl, rfl, by decide⟩
theorem ml_X11_61 : MLI RX11 61 yX5_init cX5_init 1 0 := ⟨Or.inr ⟨_, inN1 (List.mem_of_getElem? (i := 117) rfl) rfl⟩, inT1 (List.mem_of_getElem? (i := 118) rfl) rfl, rfl, inT1 (List.mem_of_getElem? (i := 7) rfl) rfl, inT1 (List.mem_of_getElem? (i := 119) rfl) rfl, ⟨by decide +kernel, by decide +kernel, by decide +kernel⟩⟩
theorem ml_X11_66 : MLV RX11 66 yX10_becomeUsual cX10_becomeUsual 2 none 0 := ⟨Or.inl (inT1 (List.mem_of_getElem? (i := 208) rfl) rfl), inT1 (List.mem_of_getElem? (i := 209) rfl) rfl, inT1 (List.mem_of_getElem? (i := 210) rfl) rfl, inT1 (List.mem_of_getElem? (i := 4) rfl) rfl, inT1 (List.mem_of_getElem? (i := 211) rfl) rfl, ⟨by decide +kernel, by decide +kernel, by decide +kernel⟩⟩
theorem ml_X11_69 : MLV RX11 69 yX0_fit cX0_fit 3 none 2 := ⟨Or.inl (inT2 (List.mem_of_getElem? (i := 3) rfl) rfl), inT2 (List.mem_of_getElem? (i := 4) rfl) rfl, inT2 (List.mem_of_getElem? (i := 5) rfl) rfl, inT1 (List.mem_of_getElem? (i := 6) rfl) rfl, inT2 (List.mem_of_getElem? (i := 6) rfl) rfl, ⟨by decide +kernel, by decide +kernel, by decide +kernel⟩⟩
theorem cl_X11_72 : CL RX11 72 7 19 := ⟨RX7, TX7, tyX7, rfl, inU_X7, tyX7_ok, inT2 (List.mem_of_getElem? (i := 17) rfl) rfl, inT2 (List.mem_of_getElem? (i := 18) rfl) rfl, inT1 (List.mem_of_getElem? (i := 12) rfl) rfl, rfl, by decide⟩
theorem ml_X11_74 : MLI RX11 74 yX7_init cX7_init 5 4 := ⟨Or.inl (inT2 (List.mem_of_getElem? (i := 19) rfl) rfl), inT2 (List.mem_of_getElem? (i := 20) rfl) rfl, rfl, inT1 (List.mem_of_getElem? (i := 12) rfl) rfl, inT2 (List.mem_of_getElem? (i := 21) rfl) rfl, ⟨by decide +kernel, by decide +kernel, by decide +kernel⟩⟩
theorem ml_X12_110 : MLV RX12 110 yX12_code cX12_code 8 (some .int) 7 := ⟨Or.inl (inT4 (List.mem_of_getElem? (i := 190) rfl) rfl), inT4 (List.mem_of_getElem? (i := 192) rfl) rfl, inP (q := (yX12_code, 61)) (by decide +kernel), inT1 (List.mem_of_getElem? (i := 15) rfl) rfl, inT4 (List.mem_of_getElem? (i := 193) rfl) rfl, ⟨by decide +kernel, by decide +kernel, by decide +kernel⟩⟩
theorem wo_X12_1 : Cond.methodLink RX12 1 Lib.objectInit ∈ ALLW := inT4 (List.mem_of_getElem? (i := 188) rfl) rfl
theorem wa_2 : Cond.arrayClass .long ∈ ALLW := inT5 (List.mem_of_getElem? (i := 153) rfl) rfl
theorem dX8_init_0 : decode cX8_init 0 = .ok (.aload_n 0, 1) := by decide +kernel
theorem dX8_init_1 : decode cX8_init 1 = .ok (.invokespecial 1, 3) := by decide +kernel
theorem dX8_init_4 : decode cX8_init 4 = .ok (.aload_n 0, 1) := by decide +kernel
theorem dX8_init_5 : decode cX8_init 5 = .ok (.iload_n 1, 1) := by decide +kernel
theorem dX8_init_6 : decode cX8_init 6 = .ok (.iconst 0, 1) := by decide +kernel
theorem dX8_init_7 : decode cX8_init 7 = .ok (.invokestatic 7, 3) := by decide +kernel
theorem dX8_init_10 : decode cX8_init 10 = .ok (.newarray .byte, 2) := by decide +kernel
theorem dX8_init_12 : decode cX8_init 12 = .ok (.putfield 13, 3) := by decide +kernel
theorem dX8_init_15 : decode cX8_init 15 = .ok (.return_, 1) := by decide +kernel
theorem dX10_init_0 : decode cX10_init 0 = .ok (.aload_n 0, 1) := by decide +kernel
theorem dX10_init_1 : decode cX10_init 1 = .ok (.invokespecial 3, 3) := by decide +kernel
theorem dX10_init_4 : decode cX10_init 4 = .ok (.aload_n 0, 1) := by decide +kernel
theorem dX10_init_5 : decode cX10_init 5 = .ok (.new 9, 3) := by decide +kernel
theorem dX10_init_8 : decode cX10_init 8 = .ok (.dup, 1) := by decide +kernel
theorem dX10_init_9 : decode cX10_init 9 = .ok (.sipush 1536, 3) := by decide +kernel
theorem dX10_init_12 : decode cX10_init 12 = .ok (.invokespecial 11, 3) := by decide +kernel
theorem dX10_init_15 : decode cX10_init 15 = .ok (.putfield 14, 3) := by decide +kernel
theorem dX10_init_18 : decode cX10_init 18 = .ok (.return_, 1) := by decide +kernel
theorem dX4_init_0 : decode cX4_init 0 = .ok (.aload_n 0, 1) := by decide +kernel
theorem dX4_init_1 : decode cX4_init 1 = .ok (.invokespecial 3, 3) := by decide +kernel
theorem dX4_init_4 : decode cX4_init 4 = .ok (.aload_n 0, 1) := by decide +kernel
theorem dX4_init_5 : decode cX4_init 5 = .ok (.bipush 8, 2) := by decide +kernel
theorem dX4_init_7 : decode cX4_init 7 = .ok (.newarray .int, 2) := by decide +kernel
theorem dX4_init_9 : decode cX4_init 9 = .ok (.putfield 9, 3) := by decide +kernel
theorem dX4_init_12 : decode cX4_init 12 = .ok (.aload_n 0, 1) := by decide +kernel
theorem dX4_init_13 : decode cX4_init 13 = .ok (.iload_n 1, 1) := by decide +kernel
theorem dX4_init_14 : decode cX4_init 14 = .ok (.iconst 0, 1) := by decide +kernel
theorem dX4_init_15 : decode cX4_init 15 = .ok (.invokestatic 15, 3) := by decide +kernel
theorem dX4_init_18 : decode cX4_init 18 = .ok (.iconst 4, 1) := by decide +kernel
theorem dX4_init_19 : decode cX4_init 19 = .ok (.imul, 1) := by decide +kernel
theorem dX4_init_20 : decode cX4_init 20 = .ok (.newarray .int, 2) := by decide +kernel
theorem dX4_init_22 : decode cX4_init 22 = .ok (.putfield 21, 3) := by decide +kernel
theorem dX4_init_25 : decode cX4_init 25 = .ok (.return_, 1) := by decide +kernel
theorem dX0_init_0 : decode cX0_init 0 = .ok (.aload_n 0, 1) := by decide +kernel
theorem dX0_init_1 : decode cX0_init 1 = .ok (.invokespecial 3, 3) := by decide +kernel
theorem dX0_init_4 : decode cX0_init 4 = .ok (.aload_n 0, 1) := by decide +kernel
theorem dX0_init_5 : decode cX0_init 5 = .ok (.iload_n 1, 1) := by decide +kernel
theorem dX0_init_6 : decode cX0_init 6 = .ok (.iconst 0, 1) := by decide +kernel
theorem dX0_init_7 : decode cX0_init 7 = .ok (.invokestatic 9, 3) := by decide +kernel
theorem dX0_init_10 : decode cX0_init 10 = .ok (.newarray .int, 2) := by decide +kernel
theorem dX0_init_12 : decode cX0_init 12 = .ok (.putfield 15, 3) := by decide +kernel
theorem dX0_init_15 : decode cX0_init 15 = .ok (.aload_n 0, 1) := by decide +kernel
theorem dX0_init_16 : decode cX0_init 16 = .ok (.iload_n 2, 1) := by decide +kernel
theorem dX0_init_17 : decode cX0_init 17 = .ok (.iconst 0, 1) := by decide +kernel
theorem dX0_init_18 : decode cX0_init 18 = .ok (.invokestatic 9, 3) := by decide +kernel
theorem dX0_init_21 : decode cX0_init 21 = .ok (.sipush 256, 3) := by decide +kernel
theorem dX0_init_24 : decode cX0_init 24 = .ok (.imul, 1) := by decide +kernel
theorem dX0_init_25 : decode cX0_init 25 = .ok (.newarray .int, 2) := by decide +kernel
theorem dX0_init_27 : decode cX0_init 27 = .ok (.putfield 21, 3) := by decide +kernel
theorem dX0_init_30 : decode cX0_init 30 = .ok (.return_, 1) := by decide +kernel
theorem dX3_init_0 : decode cX3_init 0 = .ok (.aload_n 0, 1) := by decide +kernel
theorem dX3_init_1 : decode cX3_init 1 = .ok (.invokespecial 3, 3) := by decide +kernel
theorem dX3_init_4 : decode cX3_init 4 = .ok (.aload_n 0, 1) := by decide +kernel
theorem dX3_init_5 : decode cX3_init 5 = .ok (.new 9, 3) := by decide +kernel
theorem dX3_init_8 : decode cX3_init 8 = .ok (.dup, 1) := by decide +kernel
theorem dX3_init_9 : decode cX3_init 9 = .ok (.sipush 6048, 3) := by decide +kernel
theorem dX3_init_12 : decode cX3_init 12 = .ok (.invokespecial 11, 3) := by decide +kernel
theorem dX3_init_15 : decode cX3_init 15 = .ok (.putfield 14, 3) := by decide +kernel
theorem dX3_init_18 : decode cX3_init 18 = .ok (.aload_n 0, 1) := by decide +kernel
theorem dX3_init_19 : decode cX3_init 19 = .ok (.sipush 1024, 3) := by decide +kernel
theorem dX3_init_22 : decode cX3_init 22 = .ok (.newarray .int, 2) := by decide +kernel
theorem dX3_init_24 : decode cX3_init 24 = .ok (.putfield 20, 3) := by decide +kernel
theorem dX3_init_27 : decode cX3_init 27 = .ok (.aload_n 0, 1) := by decide +kernel
theorem dX3_init_28 : decode cX3_init 28 = .ok (.sipush 6048, 3) := by decide +kernel
theorem dX3_init_31 : decode cX3_init 31 = .ok (.newarray .int, 2) := by decide +kernel
theorem dX3_init_33 : decode cX3_init 33 = .ok (.putfield 24, 3) := by decide +kernel
theorem dX3_init_36 : decode cX3_init 36 = .ok (.return_, 1) := by decide +kernel
theorem dX6_init_0 : decode cX6_init 0 = .ok (.aload_n 0, 1) := by decide +kernel
theorem dX6_init_1 : decode cX6_init 1 = .ok (.invokespecial 3, 3) := by decide +kernel
theorem dX6_init_4 : decode cX6_init 4 = .ok (.aload_n 0, 1) := by decide +kernel
theorem dX6_init_5 : decode cX6_init 5 = .ok (.sipush 1024, 3) := by decide +kernel
theorem dX6_init_8 : decode cX6_init 8 = .ok (.newarray .int, 2) := by decide +kernel
theorem dX6_init_10 : decode cX6_init 10 = .ok (.putfield 9, 3) := by decide +kernel
theorem dX6_init_13 : decode cX6_init 13 = .ok (.aload_n 0, 1) := by decide +kernel
theorem dX6_init_14 : decode cX6_init 14 = .ok (.sipush 1024, 3) := by decide +kernel
theorem dX6_init_17 : decode cX6_init 17 = .ok (.newarray .int, 2) := by decide +kernel
theorem dX6_init_19 : decode cX6_init 19 = .ok (.putfield 15, 3) := by decide +kernel
theorem dX6_init_22 : decode cX6_init 22 = .ok (.aload_n 0, 1) := by decide +kernel
theorem dX6_init_23 : decode cX6_init 23 = .ok (.sipush 1024, 3) := by decide +kernel
theorem dX6_init_26 : decode cX6_init 26 = .ok (.newarray .int, 2) := by decide +kernel
theorem dX6_init_28 : decode cX6_init 28 = .ok (.putfield 18, 3) := by decide +kernel
theorem dX6_init_31 : decode cX6_init 31 = .ok (.return_, 1) := by decide +kernel
theorem dX1_init_0 : decode cX1_init 0 = .ok (.aload_n 0, 1) := by decide +kernel
theorem dX1_init_1 : decode cX1_init 1 = .ok (.invokespecial 3, 3) := by decide +kernel
theorem dX1_init_4 : decode cX1_init 4 = .ok (.aload_n 0, 1) := by decide +kernel
theorem dX1_init_5 : decode cX1_init 5 = .ok (.sipush 256, 3) := by decide +kernel
theorem dX1_init_8 : decode cX1_init 8 = .ok (.newarray .int, 2) := by decide +kernel
theorem dX1_init_10 : decode cX1_init 10 = .ok (.putfield 9, 3) := by decide +kernel
theorem dX1_init_13 : decode cX1_init 13 = .ok (.aload_n 0, 1) := by decide +kernel
theorem dX1_init_14 : decode cX1_init 14 = .ok (.sipush 256, 3) := by decide +kernel
theorem dX1_init_17 : decode cX1_init 17 = .ok (.newarray .int, 2) := by decide +kernel
theorem dX1_init_19 : decode cX1_init 19 = .ok (.putfield 15, 3) := by decide +kernel
theorem dX1_init_22 : decode cX1_init 22 = .ok (.return_, 1) := by decide +kernel
theorem dX5_init_0 : decode cX5_init 0 = .ok (.aload_n 0, 1) := by decide +kernel
theorem dX5_init_1 : decode cX5_init 1 = .ok (.invokespecial 3, 3) := by decide +kernel
theorem dX5_init_4 : decode cX5_init 4 = .ok (.aload_n 0, 1) := by decide +kernel
theorem dX5_init_5 : decode cX5_init 5 = .ok (.new 9, 3) := by decide +kernel
theorem dX5_init_8 : decode cX5_init 8 = .ok (.dup, 1) := by decide +kernel
theorem dX5_init_9 : decode cX5_init 9 = .ok (.invokespecial 11, 3) := by decide +kernel
theorem dX5_init_12 : decode cX5_init 12 = .ok (.putfield 12, 3) := by decide +kernel
theorem dX5_init_15 : decode cX5_init 15 = .ok (.aload_n 0, 1) := by decide +kernel
theorem dX5_init_16 : decode cX5_init 16 = .ok (.new 18, 3) := by decide +kernel
theorem dX5_init_19 : decode cX5_init 19 = .ok (.dup, 1) := by decide +kernel
theorem dX5_init_20 : decode cX5_init 20 = .ok (.invokespecial 20, 3) := by decide +kernel
theorem dX5_init_23 : decode cX5_init 23 = .ok (.putfield 21, 3) := by decide +kernel
theorem dX5_init_26 : decode cX5_init 26 = .ok (.aload_n 0, 1) := by decide +kernel
theorem dX5_init_27 : decode cX5_init 27 = .ok (.new 25, 3) := by decide +kernel
theorem dX5_init_30 : decode cX5_init 30 = .ok (.dup, 1) := by decide +kernel
theorem dX5_init_31 : decode cX5_init 31 = .ok (.invokespecial 27, 3) := by decide +kernel
theorem dX5_init_34 : decode cX5_init 34 = .ok (.putfield 28, 3) := by decide +kernel
theorem dX5_init_37 : decode cX5_init 37 = .ok (.aload_n 0, 1) := by decide +kernel
theorem dX5_init_38 : decode cX5_init 38 = .ok (.new 32, 3) := by decide +kernel
theorem dX5_init_41 : decode cX5_init 41 = .ok (.dup, 1) := by decide +kernel
theorem dX5_init_42 : decode cX5_init 42 = .ok (.bipush 32, 2) := by decide +kernel
theorem dX5_init_44 : decode cX5_init 44 = .ok (.bipush 16, 2) := by decide +kernel
theorem dX5_init_46 : decode cX5_init 46 = .ok (.invokespecial 34, 3) := by decide +kernel
theorem dX5_init_49 : decode cX5_init 49 = .ok (.putfield 37, 3) := by decide +kernel
theorem dX5_init_52 : decode cX5_init 52 = .ok (.aload_n 0, 1) := by decide +kernel
theorem dX5_init_53 : decode cX5_init 53 = .ok (.new 41, 3) := by decide +kernel
theorem dX5_init_56 : decode cX5_init 56 = .ok (.dup, 1) := by decide +kernel
theorem dX5_init_57 : decode cX5_init 57 = .ok (.sipush 2048, 3) := by decide +kernel
theorem dX5_init_60 : decode cX5_init 60 = .ok (.invokespecial 43, 3) := by decide +kernel
theorem dX5_init_63 : decode cX5_init 63 = .ok (.putfield 46, 3) := by decide +kernel
theorem dX5_init_66 : decode cX5_init 66 = .ok (.aload_n 0, 1) := by decide +kernel
theorem dX5_init_67 : decode cX5_init 67 = .ok (.new 41, 3) := by decide +kernel
theorem dX5_init_70 : decode cX5_init 70 = .ok (.dup, 1) := by decide +kernel
theorem dX5_init_71 : decode cX5_init 71 = .ok (.sipush 3072, 3) := by decide +kernel
theorem dX5_init_74 : decode cX5_init 74 = .ok (.invokespecial 43, 3) := by decide +kernel
theorem dX5_init_77 : decode cX5_init 77 = .ok (.putfield 50, 3) := by decide +kernel
theorem dX5_init_80 : decode cX5_init 80 = .ok (.aload_n 0, 1) := by decide +kernel
theorem dX5_init_81 : decode cX5_init 81 = .ok (.new 41, 3) := by decide +kernel
theorem dX5_init_84 : decode cX5_init 84 = .ok (.dup, 1) := by decide +kernel
theorem dX5_init_85 : decode cX5_init 85 = .ok (.sipush 2048, 3) := by decide +kernel
theorem dX5_init_88 : decode cX5_init 88 = .ok (.invokespecial 43, 3) := by decide +kernel
theorem dX5_init_91 : decode cX5_init 91 = .ok (.putfield 53, 3) := by decide +kernel
theorem dX5_init_94 : decode cX5_init 94 = .ok (.return_, 1) := by decide +kernel
theorem dX2_init_0 : decode cX2_init 0 = .ok (.aload_n 0, 1) := by decide +kernel
theorem dX2_init_1 : decode cX2_init 1 = .ok (.invokespecial 3, 3) := by decide +kernel
theorem dX2_init_4 : decode cX2_init 4 = .ok (.aload_n 0, 1) := by decide +kernel
theorem dX2_init_5 : decode cX2_init 5 = .ok (.new 9, 3) := by decide +kernel
theorem dX2_init_8 : decode cX2_init 8 = .ok (.dup, 1) := by decide +kernel
theorem dX2_init_9 : decode cX2_init 9 = .ok (.iconst 0, 1) := by decide +kernel
theorem dX2_init_10 : decode cX2_init 10 = .ok (.invokespecial 11, 3) := by decide +kernel
theorem dX2_init_13 : decode cX2_init 13 = .ok (.putfield 14, 3) := by decide +kernel
theorem dX2_init_16 : decode cX2_init 16 = .ok (.return_, 1) := by decide +kernel
theorem dX9_init_0 : decode cX9_init 0 = .ok (.aload_n 0, 1) := by decide +kernel
theorem dX9_init_1 : decode cX9_init 1 = .ok (.invokespecial 1, 3) := by decide +kernel
theorem dX9_init_4 : decode cX9_init 4 = .ok (.aload_n 0, 1) := by decide +kernel
theorem dX9_init_5 : decode cX9_init 5 = .ok (.new 7, 3) := by decide +kernel
theorem dX9_init_8 : decode cX9_init 8 = .ok (.dup, 1) := by decide +kernel
theorem dX9_init_9 : decode cX9_init 9 = .ok (.iconst 0, 1) := by decide +kernel
theorem dX9_init_10 : decode cX9_init 10 = .ok (.invokespecial 9, 3) := by decide +kernel
theorem dX9_init_13 : decode cX9_init 13 = .ok (.putfield 12, 3) := by decide +kernel
theorem dX9_init_16 : decode cX9_init 16 = .ok (.aload_n 0, 1) := by decide +kernel
theorem dX9_init_17 : decode cX9_init 17 = .ok (.aload_n 0, 1) := by decide +kernel
theorem dX9_init_18 : decode cX9_init 18 = .ok (.getfield 12, 3) := by decide +kernel
theorem dX9_init_21 : decode cX9_init 21 = .ok (.putfield 18, 3) := by decide +kernel
theorem dX9_init_24 : decode cX9_init 24 = .ok (.return_, 1) := by decide +kernel
theorem dX7_init_0 : decode cX7_init 0 = .ok (.aload_n 0, 1) := by decide +kernel
theorem dX7_init_1 : decode cX7_init 1 = .ok (.invokespecial 3, 3) := by decide +kernel
theorem dX7_init_4 : decode cX7_init 4 = .ok (.aload_n 0, 1) := by decide +kernel
theorem dX7_init_5 : decode cX7_init 5 = .ok (.new 9, 3) := by decide +kernel
theorem dX7_init_8 : decode cX7_init 8 = .ok (.dup, 1) := by decide +kernel
theorem dX7_init_9 : decode cX7_init 9 = .ok (.invokespecial 11, 3) := by decide +kernel
theorem dX7_init_12 : decode cX7_init 12 = .ok (.putfield 12, 3) := by decide +kernel
theorem dX7_init_15 : decode cX7_init 15 = .ok (.aload_n 0, 1) := by decide +kernel
theorem dX7_init_16 : decode cX7_init 16 = .ok (.new 9, 3) := by decide +kernel
theorem dX7_init_19 : decode cX7_init 19 = .ok (.dup, 1) := by decide +kernel
theorem dX7_init_20 : decode cX7_init 20 = .ok (.invokespecial 11, 3) := by decide +kernel
theorem dX7_init_23 : decode cX7_init 23 = .ok (.putfield 18, 3) := by decide +kernel
theorem dX7_init_26 : decode cX7_init 26 = .ok (.aload_n 0, 1) := by decide +kernel
theorem dX7_init_27 : decode cX7_init 27 = .ok (.new 9, 3) := by decide +kernel
theorem dX7_init_30 : decode cX7_init 30 = .ok (.dup, 1) := by decide +kernel
theorem dX7_init_31 : decode cX7_init 31 = .ok (.invokespecial 11, 3) := by decide +kernel
theorem dX7_init_34 : decode cX7_init 34 = .ok (.putfield 21, 3) := by decide +kernel
theorem dX7_init_37 : decode cX7_init 37 = .ok (.aload_n 0, 1) := by decide +kernel
theorem dX7_init_38 : decode cX7_init 38 = .ok (.new 9, 3) := by decide +kernel
theorem dX7_init_41 : decode cX7_init 41 = .ok (.dup, 1) := by decide +kernel
theorem dX7_init_42 : decode cX7_init 42 = .ok (.invokespecial 11, 3) := by decide +kernel
theorem dX7_init_45 : decode cX7_init 45 = .ok (.putfield 24, 3) := by decide +kernel
theorem dX7_init_48 : decode cX7_init 48 = .ok (.aload_n 0, 1) := by decide +kernel
theorem dX7_init_49 : decode cX7_init 49 = .ok (.new 9, 3) := by decide +kernel
theorem dX7_init_52 : decode cX7_init 52 = .ok (.dup, 1) := by decide +kernel
theorem dX7_init_53 : decode cX7_init 53 = .ok (.invokespecial 11, 3) := by decide +kernel
theorem dX7_init_56 : decode cX7_init 56 = .ok (.putfield 27, 3) := by decide +kernel
theorem dX7_init_59 : decode cX7_init 59 = .ok (.aload_n 0, 1) := by decide +kernel
theorem dX7_init_60 : decode cX7_init 60 = .ok (.new 30, 3) := by decide +kernel
theorem dX7_init_63 : decode cX7_init 63 = .ok (.dup, 1) := by decide +kernel
theorem dX7_init_64 : decode cX7_init 64 = .ok (.invokespecial 32, 3) := by decide +kernel
theorem dX7_init_67 : decode cX7_init 67 = .ok (.putfield 33, 3) := by decide +kernel
theorem dX7_init_70 : decode cX7_init 70 = .ok (.aload_n 0, 1) := by decide +kernel
theorem dX7_init_71 : decode cX7_init 71 = .ok (.new 37, 3) := by decide +kernel
theorem dX7_init_74 : decode cX7_init 74 = .ok (.dup, 1) := by decide +kernel
theorem dX7_init_75 : decode cX7_init 75 = .ok (.iconst 0, 1) := by decide +kernel
theorem dX7_init_76 : decode cX7_init 76 = .ok (.invokespecial 39, 3) := by decide +kernel
theorem dX7_init_79 : decode cX7_init 79 = .ok (.putfield 42, 3) := by decide +kernel
theorem dX7_init_82 : decode cX7_init 82 = .ok (.aload_n 0, 1) := by decide +kernel
theorem dX7_init_83 : decode cX7_init 83 = .ok (.aload_n 0, 1) := by decide +kernel
theorem dX7_init_84 : decode cX7_init 84 = .ok (.getfield 42, 3) := by decide +kernel
theorem dX7_init_87 : decode cX7_init 87 = .ok (.putfield 46, 3) := by decide +kernel
theorem dX7_init_90 : decode cX7_init 90 = .ok (.aload_n 0, 1) := by decide +kernel
theorem dX7_init_91 : decode cX7_init 91 = .ok (.iconst 0, 1) := by decide +kernel
theorem dX7_init_92 : decode cX7_init 92 = .ok (.putfield 49, 3) := by decide +kernel
theorem dX7_init_95 : decode cX7_init 95 = .ok (.aload_n 0, 1) := by decide +kernel
theorem dX7_init_96 : decode cX7_init 96 = .ok (.iconst (-1), 1) := by decide +kernel
theorem dX7_init_97 : decode cX7_init 97 = .ok (.putfield 53, 3) := by decide +kernel
theorem dX7_init_100 : decode cX7_init 100 = .ok (.aload_n 0, 1) := by decide +kernel
theorem dX7_init_101 : decode cX7_init 101 = .ok (.aload_n 1, 1) := by decide +kernel
theorem dX7_init_102 : decode cX7_init 102 = .ok (.putfield 56, 3) := by decide +kernel
theorem dX7_init_105 : decode cX7_init 105 = .ok (.aload_n 0, 1) := by decide +kernel
theorem dX7_init_106 : decode cX7_init 106 = .ok (.aload_n 2, 1) := by decide +kernel
theorem dX7_init_107 : decode cX7_init 107 = .ok (.putfield 60, 3) := by decide +kernel
theorem dX7_init_110 : decode cX7_init 110 = .ok (.aload_n 0, 1) := by decide +kernel
theorem dX7_init_111 : decode cX7_init 111 = .ok (.aload_n 3, 1) := by decide +kernel
theorem dX7_init_112 : decode cX7_init 112 = .ok (.putfield 64, 3) := by decide +kernel
theorem dX7_init_115 : decode cX7_init 115 = .ok (.aload_n 0, 1) := by decide +kernel
theorem dX7_init_116 : decode cX7_init 116 = .ok (.iload 4, 2) := by decide +kernel
theorem dX7_init_118 : decode cX7_init 118 = .ok (.putfield 68, 3) := by decide +kernel
theorem dX7_init_121 : decode cX7_init 121 = .ok (.return_, 1) := by decide +kernel
theorem dX11_init_0 : decode cX11_init 0 = .ok (.aload_n 0, 1) := by decide +kernel
theorem dX11_init_1 : decode cX11_init 1 = .ok (.invokespecial 1, 3) := by decide +kernel
theorem dX11_init_4 : decode cX11_init 4 = .ok (.aload_n 0, 1) := by decide +kernel
theorem dX11_init_5 : decode cX11_init 5 = .ok (.new 7, 3) := by decide +kernel
theorem dX11_init_8 : decode cX11_init 8 = .ok (.dup, 1) := by decide +kernel
theorem dX11_init_9 : decode cX11_init 9 = .ok (.sipush 8000, 3) := by decide +kernel
theorem dX11_init_12 : decode cX11_init 12 = .ok (.invokespecial 11, 3) := by decide +kernel
theorem dX11_init_15 : decode cX11_init 15 = .ok (.putfield 14, 3) := by decide +kernel
theorem dX11_init_18 : decode cX11_init 18 = .ok (.aload_n 0, 1) := by decide +kernel
theorem dX11_init_19 : decode cX11_init 19 = .ok (.new 7, 3) := by decide +kernel
theorem dX11_init_22 : decode cX11_init 22 = .ok (.dup, 1) := by decide +kernel
theorem dX11_init_23 : decode cX11_init 23 = .ok (.sipush 8000, 3) := by decide +kernel
theorem dX11_init_26 : decode cX11_init 26 = .ok (.invokespecial 11, 3) := by decide +kernel
theorem dX11_init_29 : decode cX11_init 29 = .ok (.putfield 18, 3) := by decide +kernel
theorem dX11_init_32 : decode cX11_init 32 = .ok (.aload_n 0, 1) := by decide +kernel
theorem dX11_init_33 : decode cX11_init 33 = .ok (.new 7, 3) := by decide +kernel
theorem dX11_init_36 : decode cX11_init 36 = .ok (.dup, 1) := by decide +kernel
theorem dX11_init_37 : decode cX11_init 37 = .ok (.sipush 8000, 3) := by decide +kernel
theorem dX11_init_40 : decode cX11_init 40 = .ok (.invokespecial 11, 3) := by decide +kernel
theorem dX11_init_43 : decode cX11_init 43 = .ok (.putfield 21, 3) := by decide +kernel
theorem dX11_init_46 : decode cX11_init 46 = .ok (.aload_n 0, 1) := by decide +kernel
theorem dX11_init_47 : decode cX11_init 47 = .ok (.new 7, 3) := by decide +kernel
theorem dX11_init_50 : decode cX11_init 50 = .ok (.dup, 1) := by decide +kernel
theorem dX11_init_51 : decode cX11_init 51 = .ok (.sipush 4000, 3) := by decide +kernel
theorem dX11_init_54 : decode cX11_init 54 = .ok (.invokespecial 11, 3) := by decide +kernel
theorem dX11_init_57 : decode cX11_init 57 = .ok (.putfield 24, 3) := by decide +kernel
theorem dX11_init_60 : decode cX11_init 60 = .ok (.aload_n 0, 1) := by decide +kernel
theorem dX11_init_61 : decode cX11_init 61 = .ok (.new 7, 3) := by decide +kernel
theorem dX11_init_64 : decode cX11_init 64 = .ok (.dup, 1) := by decide +kernel
theorem dX11_init_65 : decode cX11_init 65 = .ok (.sipush 2048, 3) := by decide +kernel
theorem dX11_init_68 : decode cX11_init 68 = .ok (.invokespecial 11, 3) := by decide +kernel
theorem dX11_init_71 : decode cX11_init 71 = .ok (.putfield 27, 3) := by decide +kernel
theorem dX11_init_74 : decode cX11_init 74 = .ok (.aload_n 0, 1) := by decide +kernel
theorem dX11_init_75 : decode cX11_init 75 = .ok (.new 30, 3) := by decide +kernel
theorem dX11_init_78 : decode cX11_init 78 = .ok (.dup, 1) := by decide +kernel
theorem dX11_init_79 : decode cX11_init 79 = .ok (.invokespecial 32, 3) := by decide +kernel
theorem dX11_init_82 : decode cX11_init 82 = .ok (.putfield 33, 3) := by decide +kernel
theorem dX11_init_85 : decode cX11_init 85 = .ok (.aload_n 0, 1) := by decide +kernel
theorem dX11_init_86 : decode cX11_init 86 = .ok (.new 30, 3) := by decide +kernel
theorem dX11_init_89 : decode cX11_init 89 = .ok (.dup, 1) := by decide +kernel
theorem dX11_init_90 : decode cX11_init 90 = .ok (.invokespecial 32, 3) := by decide +kernel
theorem dX11_init_93 : decode cX11_init 93 = .ok (.putfield 37, 3) := by decide +kernel
theorem dX11_init_96 : decode cX11_init 96 = .ok (.aload_n 0, 1) := by decide +kernel
theorem dX11_init_97 : decode cX11_init 97 = .ok (.new 30, 3) := by decide +kernel
theorem dX11_init_100 : decode cX11_init 100 = .ok (.dup, 1) := by decide +kernel
theorem dX11_init_101 : decode cX11_init 101 = .ok (.invokespecial 32, 3) := by decide +kernel
theorem dX11_init_104 : decode cX11_init 104 = .ok (.putfield 40, 3) := by decide +kernel
theorem dX11_init_107 : decode cX11_init 107 = .ok (.aload_n 0, 1) := by decide +kernel
theorem dX11_init_108 : decode cX11_init 108 = .ok (.new 43, 3) := by decide +kernel
theorem dX11_init_111 : decode cX11_init 111 = .ok (.dup, 1) := by decide +kernel
theorem dX11_init_112 : decode cX11_init 112 = .ok (.sipush 2000, 3) := by decide +kernel
theorem dX11_init_115 : decode cX11_init 115 = .ok (.invokespecial 45, 3) := by decide +kernel
theorem dX11_init_118 : decode cX11_init 118 = .ok (.putfield 46, 3) := by decide +kernel
theorem dX11_init_121 : decode cX11_init 121 = .ok (.aload_n 0, 1) := by decide +kernel
theorem dX11_init_122 : decode cX11_init 122 = .ok (.new 50, 3) := by decide +kernel
theorem dX11_init_125 : decode cX11_init 125 = .ok (.dup, 1) := by decide +kernel
theorem dX11_init_126 : decode cX11_init 126 = .ok (.bipush 32, 2) := by decide +kernel
theorem dX11_init_128 : decode cX11_init 128 = .ok (.bipush 16, 2) := by decide +kernel
theorem dX11_init_130 : decode cX11_init 130 = .ok (.invokespecial 52, 3) := by decide +kernel
theorem dX11_init_133 : decode cX11_init 133 = .ok (.putfield 55, 3) := by decide +kernel
theorem dX11_init_136 : decode cX11_init 136 = .ok (.aload_n 0, 1) := by decide +kernel
theorem dX11_init_137 : decode cX11_init 137 = .ok (.new 59, 3) := by decide +kernel
theorem dX11_init_140 : decode cX11_init 140 = .ok (.dup, 1) := by decide +kernel
theorem dX11_init_141 : decode cX11_init 141 = .ok (.invokespecial 61, 3) := by decide +kernel
theorem dX11_init_144 : decode cX11_init 144 = .ok (.putfield 62, 3) := by decide +kernel
theorem dX11_init_147 : decode cX11_init 147 = .ok (.aload_n 0, 1) := by decide +kernel
theorem dX11_init_148 : decode cX11_init 148 = .ok (.getfield 33, 3) := by decide +kernel
theorem dX11_init_151 : decode cX11_init 151 = .ok (.invokevirtual 66, 3) := by decide +kernel
theorem dX11_init_154 : decode cX11_init 154 = .ok (.aload_n 0, 1) := by decide +kernel
theorem dX11_init_155 : decode cX11_init 155 = .ok (.getfield 37, 3) := by decide +kernel
theorem dX11_init_158 : decode cX11_init 158 = .ok (.invokevirtual 66, 3) := by decide +kernel
theorem dX11_init_161 : decode cX11_init 161 = .ok (.aload_n 0, 1) := by decide +kernel
theorem dX11_init_162 : decode cX11_init 162 = .ok (.getfield 40, 3) := by decide +kernel
theorem dX11_init_165 : decode cX11_init 165 = .ok (.invokevirtual 66, 3) := by decide +kernel
theorem dX11_init_168 : decode cX11_init 168 = .ok (.aload_n 0, 1) := by decide +kernel
theorem dX11_init_169 : decode cX11_init 169 = .ok (.getfield 55, 3) := by decide +kernel
theorem dX11_init_172 : decode cX11_init 172 = .ok (.iconst 4, 1) := by decide +kernel
theorem dX11_init_173 : decode cX11_init 173 = .ok (.iconst 3, 1) := by decide +kernel
theorem dX11_init_174 : decode cX11_init 174 = .ok (.invokevirtual 69, 3) := by decide +kernel
theorem dX11_init_177 : decode cX11_init 177 = .ok (.aload_n 0, 1) := by decide +kernel
theorem dX11_init_178 : decode cX11_init 178 = .ok (.new 72, 3) := by decide +kernel
theorem dX11_init_181 : decode cX11_init 181 = .ok (.dup, 1) := by decide +kernel
theorem dX11_init_182 : decode cX11_init 182 = .ok (.aload_n 0, 1) := by decide +kernel
theorem dX11_init_183 : decode cX11_init 183 = .ok (.getfield 40, 3) := by decide +kernel
theorem dX11_init_186 : decode cX11_init 186 = .ok (.aload_n 0, 1) := by decide +kernel
theorem dX11_init_187 : decode cX11_init 187 = .ok (.getfield 55, 3) := by decide +kernel
theorem dX11_init_190 : decode cX11_init 190 = .ok (.aload_n 0, 1) := by decide +kernel
theorem dX11_init_191 : decode cX11_init 191 = .ok (.getfield 46, 3) := by decide +kernel
theorem dX11_init_194 : decode cX11_init 194 = .ok (.bipush 6, 2) := by decide +kernel
theorem dX11_init_196 : decode cX11_init 196 = .ok (.invokespecial 74, 3) := by decide +kernel
theorem dX11_init_199 : decode cX11_init 199 = .ok (.putfield 77, 3) := by decide +kernel
theorem dX11_init_202 : decode cX11_init 202 = .ok (.aload_n 0, 1) := by decide +kernel
theorem dX11_init_203 : decode cX11_init 203 = .ok (.new 72, 3) := by decide +kernel
theorem dX11_init_206 : decode cX11_init 206 = .ok (.dup, 1) := by decide +kernel
theorem dX11_init_207 : decode cX11_init 207 = .ok (.aload_n 0, 1) := by decide +kernel
theorem dX11_init_208 : decode cX11_init 208 = .ok (.getfield 33, 3) := by decide +kernel
theorem dX11_init_211 : decode cX11_init 211 = .ok (.new 50, 3) := by decide +kernel
theorem dX11_init_214 : decode cX11_init 214 = .ok (.dup, 1) := by decide +kernel
theorem dX11_init_215 : decode cX11_init 215 = .ok (.iconst 4, 1) := by decide +kernel
theorem dX11_init_216 : decode cX11_init 216 = .ok (.iconst 3, 1) := by decide +kernel
theorem dX11_init_217 : decode cX11_init 217 = .ok (.invokespecial 52, 3) := by decide +kernel
theorem dX11_init_220 : decode cX11_init 220 = .ok (.new 43, 3) := by decide +kernel
theorem dX11_init_223 : decode cX11_init 223 = .ok (.dup, 1) := by decide +kernel
theorem dX11_init_224 : decode cX11_init 224 = .ok (.iconst 0, 1) := by decide +kernel
theorem dX11_init_225 : decode cX11_init 225 = .ok (.invokespecial 45, 3) := by decide +kernel
theorem dX11_init_228 : decode cX11_init 228 = .ok (.iconst 4, 1) := by decide +kernel
theorem dX11_init_229 : decode cX11_init 229 = .ok (.invokespecial 74, 3) := by decide +kernel
theorem dX11_init_232 : decode cX11_init 232 = .ok (.putfield 81, 3) := by decide +kernel
theorem dX11_init_235 : decode cX11_init 235 = .ok (.return_, 1) := by decide +kernel
theorem dX12_init_0 : decode cX12_init 0 = .ok (.aload_n 0, 1) := by decide +kernel
theorem dX12_init_1 : decode cX12_init 1 = .ok (.invokespecial 1, 3) := by decide +kernel
theorem dX12_init_4 : decode cX12_init 4 = .ok (.aload_n 0, 1) := by decide +kernel
theorem dX12_init_5 : decode cX12_init 5 = .ok (.sipush 8000, 3) := by decide +kernel
theorem dX12_init_8 : decode cX12_init 8 = .ok (.newarray .byte, 2) := by decide +kernel
theorem dX12_init_10 : decode cX12_init 10 = .ok (.putfield 7, 3) := by decide +kernel
theorem dX12_init_13 : decode cX12_init 13 = .ok (.aload_n 0, 1) := by decide +kernel
theorem dX12_init_14 : decode cX12_init 14 = .ok (.sipush 8000, 3) := by decide +kernel
theorem dX12_init_17 : decode cX12_init 17 = .ok (.newarray .byte, 2) := by decide +kernel
theorem dX12_init_19 : decode cX12_init 19 = .ok (.putfield 13, 3) := by decide +kernel
theorem dX12_init_22 : decode cX12_init 22 = .ok (.aload_n 0, 1) := by decide +kernel
theorem dX12_init_23 : decode cX12_init 23 = .ok (.sipush 4000, 3) := by decide +kernel
theorem dX12_init_26 : decode cX12_init 26 = .ok (.newarray .byte, 2) := by decide +kernel
theorem dX12_init_28 : decode cX12_init 28 = .ok (.putfield 16, 3) := by decide +kernel
theorem dX12_init_31 : decode cX12_init 31 = .ok (.aload_n 0, 1) := by decide +kernel
theorem dX12_init_32 : decode cX12_init 32 = .ok (.iconst (-1), 1) := by decide +kernel
theorem dX12_init_33 : decode cX12_init 33 = .ok (.putfield 19, 3) := by decide +kernel
theorem dX12_init_36 : decode cX12_init 36 = .ok (.aload_n 0, 1) := by decide +kernel
theorem dX12_init_37 : decode cX12_init 37 = .ok (.sipush 6144, 3) := by decide +kernel
theorem dX12_init_40 : decode cX12_init 40 = .ok (.newarray .int, 2) := by decide +kernel
theorem dX12_init_42 : decode cX12_init 42 = .ok (.putfield 23, 3) := by decide +kernel
theorem dX12_init_45 : decode cX12_init 45 = .ok (.aload_n 0, 1) := by decide +kernel
theorem dX12_init_46 : decode cX12_init 46 = .ok (.iconst 4, 1) := by decide +kernel
theorem dX12_init_47 : decode cX12_init 47 = .ok (.newarray .int, 2) := by decide +kernel
theorem dX12_init_49 : decode cX12_init 49 = .ok (.putfield 27, 3) := by decide +kernel
theorem dX12_init_52 : decode cX12_init 52 = .ok (.aload_n 0, 1) := by decide +kernel
theorem dX12_init_53 : decode cX12_init 53 = .ok (.iconst 4, 1) := by decide +kernel
theorem dX12_init_54 : decode cX12_init 54 = .ok (.newarray .int, 2) := by decide +kernel
theorem dX12_init_56 : decode cX12_init 56 = .ok (.putfield 30, 3) := by decide +kernel
theorem dX12_init_59 : decode cX12_init 59 = .ok (.aload_n 0, 1) := by decide +kernel
theorem dX12_init_60 : decode cX12_init 60 = .ok (.sipush 1536, 3) := by decide +kernel
theorem dX12_init_63 : decode cX12_init 63 = .ok (.newarray .byte, 2) := by decide +kernel
theorem dX12_init_65 : decode cX12_init 65 = .ok (.putfield 33, 3) := by decide +kernel
theorem dX12_init_68 : decode cX12_init 68 = .ok (.aload_n 0, 1) := by decide +kernel
theorem dX12_init_69 : decode cX12_init 69 = .ok (.aload_n 0, 1) := by decide +kernel
theorem dX12_init_70 : decode cX12_init 70 = .ok (.getfield 7, 3) := by decide +kernel
theorem dX12_init_73 : decode cX12_init 73 = .ok (.putfield 36, 3) := by decide +kernel
theorem dX12_init_76 : decode cX12_init 76 = .ok (.aload_n 0, 1) := by decide +kernel
theorem dX12_init_77 : decode cX12_init 77 = .ok (.aload_n 0, 1) := by decide +kernel
theorem dX12_init_78 : decode cX12_init 78 = .ok (.getfield 16, 3) := by decide +kernel
theorem dX12_init_81 : decode cX12_init 81 = .ok (.putfield 39, 3) := by decide +kernel
theorem dX12_init_84 : decode cX12_init 84 = .ok (.aload_n 0, 1) := by decide +kernel
theorem dX12_init_85 : decode cX12_init 85 = .ok (.sipush 8000, 3) := by decide +kernel
theorem dX12_init_88 : decode cX12_init 88 = .ok (.newarray .byte, 2) := by decide +kernel
theorem dX12_init_90 : decode cX12_init 90 = .ok (.putfield 42, 3) := by decide +kernel
theorem dX12_init_93 : decode cX12_init 93 = .ok (.aload_n 0, 1) := by decide +kernel
theorem dX12_init_94 : decode cX12_init 94 = .ok (.sipush 8000, 3) := by decide +kernel
theorem dX12_init_97 : decode cX12_init 97 = .ok (.newarray .byte, 2) := by decide +kernel
theorem dX12_init_99 : decode cX12_init 99 = .ok (.putfield 45, 3) := by decide +kernel
theorem dX12_init_102 : decode cX12_init 102 = .ok (.aload_n 0, 1) := by decide +kernel
theorem dX12_init_103 : decode cX12_init 103 = .ok (.aload_n 0, 1) := by decide +kernel
theorem dX12_init_104 : decode cX12_init 104 = .ok (.getfield 42, 3) := by decide +kernel
theorem dX12_init_107 : decode cX12_init 107 = .ok (.putfield 48, 3) := by decide +kernel
theorem dX12_init_110 : decode cX12_init 110 = .ok (.aload_n 0, 1) := by decide +kernel
theorem dX12_init_111 : decode cX12_init 111 = .ok (.sipush 16000, 3) := by decide +kernel
theorem dX12_init_114 : decode cX12_init 114 = .ok (.newarray .byte, 2) := by decide +kernel
theorem dX12_init_116 : decode cX12_init 116 = .ok (.putfield 51, 3) := by decide +kernel
theorem dX12_init_119 : decode cX12_init 119 = .ok (.aload_n 0, 1) := by decide +kernel
theorem dX12_init_120 : decode cX12_init 120 = .ok (.bipush 32, 2) := by decide +kernel
theorem dX12_init_122 : decode cX12_init 122 = .ok (.newarray .long, 2) := by decide +kernel
theorem dX12_init_124 : decode cX12_init 124 = .ok (.putfield 54, 3) := by decide +kernel
theorem dX12_init_127 : decode cX12_init 127 = .ok (.aload_n 0, 1) := by decide +kernel
theorem dX12_init_128 : decode cX12_init 128 = .ok (.sipush 4096, 3) := by decide +kernel
theorem dX12_init_131 : decode cX12_init 131 = .ok (.newarray .long, 2) := by decide +kernel
theorem dX12_init_133 : decode cX12_init 133 = .ok (.putfield 58, 3) := by decide +kernel
theorem dX12_init_136 : decode cX12_init 136 = .ok (.aload_n 0, 1) := by decide +kernel
theorem dX12_init_137 : decode cX12_init 137 = .ok (.bipush 8, 2) := by decide +kernel
theorem dX12_init_139 : decode cX12_init 139 = .ok (.newarray .int, 2) := by decide +kernel
theorem dX12_init_141 : decode cX12_init 141 = .ok (.putfield 61, 3) := by decide +kernel
theorem dX12_init_144 : decode cX12_init 144 = .ok (.aload_n 0, 1) := by decide +kernel
theorem dX12_init_145 : decode cX12_init 145 = .ok (.sipush 2000, 3) := by decide +kernel
theorem dX12_init_148 : decode cX12_init 148 = .ok (.newarray .int, 2) := by decide +kernel
theorem dX12_init_150 : decode cX12_init 150 = .ok (.putfield 64, 3) := by decide +kernel
theorem dX12_init_153 : decode cX12_init 153 = .ok (.aload_n 0, 1) := by decide +kernel
theorem dX12_init_154 : decode cX12_init 154 = .ok (.sipush 2000, 3) := by decide +kernel
theorem dX12_init_157 : decode cX12_init 157 = .ok (.newarray .int, 2) := by decide +kernel
theorem dX12_init_159 : decode cX12_init 159 = .ok (.putfield 67, 3) := by decide +kernel
theorem dX12_init_162 : decode cX12_init 162 = .ok (.aload_n 0, 1) := by decide +kernel
theorem dX12_init_163 : decode cX12_init 163 = .ok (.sipush 2000, 3) := by decide +kernel
theorem dX12_init_166 : decode cX12_init 166 = .ok (.newarray .int, 2) := by decide +kernel
theorem dX12_init_168 : decode cX12_init 168 = .ok (.putfield 70, 3) := by decide +kernel
theorem dX12_init_171 : decode cX12_init 171 = .ok (.aload_n 0, 1) := by decide +kernel
theorem dX12_init_172 : decode cX12_init 172 = .ok (.sipush 2000, 3) := by decide +kernel
theorem dX12_init_175 : decode cX12_init 175 = .ok (.newarray .int, 2) := by decide +kernel
theorem dX12_init_177 : decode cX12_init 177 = .ok (.putfield 73, 3) := by decide +kernel
theorem dX12_init_180 : decode cX12_init 180 = .ok (.aload_n 0, 1) := by decide +kernel
theorem dX12_init_181 : decode cX12_init 181 = .ok (.ldc 76, 2) := by decide +kernel
theorem dX12_init_183 : decode cX12_init 183 = .ok (.newarray .byte, 2) := by decide +kernel
theorem dX12_init_185 : decode cX12_init 185 = .ok (.putfield 77, 3) := by decide +kernel
theorem dX12_init_188 : decode cX12_init 188 = .ok (.aload_n 0, 1) := by decide +kernel
theorem dX12_init_189 : decode cX12_init 189 = .ok (.ldc 76, 2) := by decide +kernel
theorem dX12_init_191 : decode cX12_init 191 = .ok (.newarray .byte, 2) := by decide +kernel
theorem dX12_init_193 : decode cX12_init 193 = .ok (.putfield 80, 3) := by decide +kernel
theorem dX12_init_196 : decode cX12_init 196 = .ok (.aload_n 0, 1) := by decide +kernel
theorem dX12_init_197 : decode cX12_init 197 = .ok (.sipush 1536, 3) := by decide +kernel
theorem dX12_init_200 : decode cX12_init 200 = .ok (.newarray .byte, 2) := by decide +kernel
theorem dX12_init_202 : decode cX12_init 202 = .ok (.putfield 83, 3) := by decide +kernel
theorem dX12_init_205 : decode cX12_init 205 = .ok (.aload_n 0, 1) := by decide +kernel
theorem dX12_init_206 : decode cX12_init 206 = .ok (.sipush 30000, 3) := by decide +kernel
theorem dX12_init_209 : decode cX12_init 209 = .ok (.newarray .byte, 2) := by decide +kernel
theorem dX12_init_211 : decode cX12_init 211 = .ok (.putfield 86, 3) := by decide +kernel
theorem dX12_init_214 : decode cX12_init 214 = .ok (.aload_n 0, 1) := by decide +kernel
theorem dX12_init_215 : decode cX12_init 215 = .ok (.sipush 2100, 3) := by decide +kernel
theorem dX12_init_218 : decode cX12_init 218 = .ok (.newarray .int, 2) := by decide +kernel
theorem dX12_init_220 : decode cX12_init 220 = .ok (.putfield 89, 3) := by decide +kernel
theorem dX12_init_223 : decode cX12_init 223 = .ok (.aload_n 0, 1) := by decide +kernel
theorem dX12_init_224 : decode cX12_init 224 = .ok (.sipush 2100, 3) := by decide +kernel
theorem dX12_init_227 : decode cX12_init 227 = .ok (.newarray .int, 2) := by decide +kernel
theorem dX12_init_229 : decode cX12_init 229 = .ok (.putfield 92, 3) := by decide +kernel
theorem dX12_init_232 : decode cX12_init 232 = .ok (.aload_n 0, 1) := by decide +kernel
theorem dX12_init_233 : decode cX12_init 233 = .ok (.sipush 2100, 3) := by decide +kernel
theorem dX12_init_236 : decode cX12_init 236 = .ok (.newarray .int, 2) := by decide +kernel
theorem dX12_init_238 : decode cX12_init 238 = .ok (.putfield 95, 3) := by decide +kernel
theorem dX12_init_241 : decode cX12_init 241 = .ok (.aload_n 0, 1) := by decide +kernel
theorem dX12_init_242 : decode cX12_init 242 = .ok (.sipush 2100, 3) := by decide +kernel
theorem dX12_init_245 : decode cX12_init 245 = .ok (.newarray .int, 2) := by decide +kernel
theorem dX12_init_247 : decode cX12_init 247 = .ok (.putfield 98, 3) := by decide +kernel
theorem dX12_init_250 : decode cX12_init 250 = .ok (.aload_n 0, 1) := by decide +kernel
theorem dX12_init_251 : decode cX12_init 251 = .ok (.bipush 32, 2) := by decide +kernel
theorem dX12_init_253 : decode cX12_init 253 = .ok (.newarray .int, 2) := by decide +kernel
theorem dX12_init_255 : decode cX12_init 255 = .ok (.putfield 101, 3) := by decide +kernel
theorem dX12_init_258 : decode cX12_init 258 = .ok (.aload_n 0, 1) := by decide +kernel
theorem dX12_init_259 : decode cX12_init 259 = .ok (.sipush 4096, 3) := by decide +kernel
theorem dX12_init_262 : decode cX12_init 262 = .ok (.newarray .int, 2) := by decide +kernel
theorem dX12_init_264 : decode cX12_init 264 = .ok (.putfield 104, 3) := by decide +kernel
theorem dX12_init_267 : decode cX12_init 267 = .ok (.aload_n 0, 1) := by decide +kernel
theorem dX12_init_268 : decode cX12_init 268 = .ok (.sipush 16000, 3) := by decide +kernel
theorem dX12_init_271 : decode cX12_init 271 = .ok (.newarray .byte, 2) := by decide +kernel
theorem dX12_init_273 : decode cX12_init 273 = .ok (.putfield 107, 3) := by decide +kernel
theorem dX12_init_276 : decode cX12_init 276 = .ok (.aload_n 0, 1) := by decide +kernel
theorem dX12_init_277 : decode cX12_init 277 = .ok (.getfield 27, 3) := by decide +kernel
theorem dX12_init_280 : decode cX12_init 280 = .ok (.iconst 0, 1) := by decide +kernel
theorem dX12_init_281 : decode cX12_init 281 = .ok (.iconst 4, 1) := by decide +kernel
theorem dX12_init_282 : decode cX12_init 282 = .ok (.iastore, 1) := by decide +kernel
theorem dX12_init_283 : decode cX12_init 283 = .ok (.aload_n 0, 1) := by decide +kernel
theorem dX12_init_284 : decode cX12_init 284 = .ok (.getfield 30, 3) := by decide +kernel
theorem dX12_init_287 : decode cX12_init 287 = .ok (.iconst 0, 1) := by decide +kernel
theorem dX12_init_288 : decode cX12_init 288 = .ok (.iconst 3, 1) := by decide +kernel
theorem dX12_init_289 : decode cX12_init 289 = .ok (.iastore, 1) := by decide +kernel
theorem dX12_init_290 : decode cX12_init 290 = .ok (.iconst 0, 1) := by decide +kernel
theorem dX12_init_291 : decode cX12_init 291 = .ok (.istore_n 1, 1) := by decide +kernel
theorem dX12_init_292 : decode cX12_init 292 = .ok (.aload_n 0, 1) := by decide +kernel
theorem dX12_init_293 : decode cX12_init 293 = .ok (.iload_n 1, 1) := by decide +kernel
theorem dX12_init_294 : decode cX12_init 294 = .ok (.iconst 2, 1) := by decide +kernel
theorem dX12_init_295 : decode cX12_init 295 = .ok (.iconst 0, 1) := by decide +kernel
theorem dX12_init_296 : decode cX12_init 296 = .ok (.iconst 0, 1) := by decide +kernel
theorem dX12_init_297 : decode cX12_init 297 = .ok (.iconst 0, 1) := by decide +kernel
theorem dX12_init_298 : decode cX12_init 298 = .ok (.iconst 0, 1) := by decide +kernel
theorem dX12_init_299 : decode cX12_init 299 = .ok (.iconst 0, 1) := by decide +kernel
theorem dX12_init_300 : decode cX12_init 300 = .ok (.invokevirtual 110, 3) := by decide +kernel
theorem dX12_init_303 : decode cX12_init 303 = .ok (.istore_n 1, 1) := by decide +kernel
theorem dX12_init_304 : decode cX12_init 304 = .ok (.iconst 0, 1) := by decide +kernel
theorem dX12_init_305 : decode cX12_init 305 = .ok (.istore_n 2, 1) := by decide +kernel
theorem dX12_init_306 : decode cX12_init 306 = .ok (.iload_n 2, 1) := by decide +kernel
theorem dX12_init_307 : decode cX12_init 307 = .ok (.bipush 17, 2) := by decide +kernel
theorem dX12_init_309 : decode cX12_init 309 = .ok (.if_icmp .gt 21, 3) := by decide +kernel
theorem dX12_init_312 : decode cX12_init 312 = .ok (.aload_n 0, 1) := by decide +kernel
theorem dX12_init_313 : decode cX12_init 313 = .ok (.iload_n 1, 1) := by decide +kernel
theorem dX12_init_314 : decode cX12_init 314 = .ok (.iconst 1, 1) := by decide +kernel
theorem dX12_init_315 : decode cX12_init 315 = .ok (.iload_n 2, 1) := by decide +kernel
theorem dX12_init_316 : decode cX12_init 316 = .ok (.iconst 0, 1) := by decide +kernel
theorem dX12_init_317 : decode cX12_init 317 = .ok (.iconst 0, 1) := by decide +kernel
theorem dX12_init_318 : decode cX12_init 318 = .ok (.iconst 0, 1) := by decide +kernel
theorem dX12_init_319 : decode cX12_init 319 = .ok (.iconst 0, 1) := by decide +kernel
theorem dX12_init_320 : decode cX12_init 320 = .ok (.invokevirtual 110, 3) := by decide +kernel
theorem dX12_init_323 : decode cX12_init 323 = .ok (.istore_n 1, 1) := by decide +kernel
theorem dX12_init_324 : decode cX12_init 324 = .ok (.iinc 2 1, 3) := by decide +kernel
theorem dX12_init_327 : decode cX12_init 327 = .ok (.goto (-21), 3) := by decide +kernel
theorem dX12_init_330 : decode cX12_init 330 = .ok (.iconst 0, 1) := by decide +kernel
theorem dX12_init_331 : decode cX12_init 331 = .ok (.istore_n 2, 1) := by decide +kernel
theorem dX12_init_332 : decode cX12_init 332 = .ok (.iload_n 2, 1) := by decide +kernel
theorem dX12_init_333 : decode cX12_init 333 = .ok (.bipush 8, 2) := by decide +kernel
theorem dX12_init_335 : decode cX12_init 335 = .ok (.if_icmp .gt 47, 3) := by decide +kernel
theorem dX12_init_338 : decode cX12_init 338 = .ok (.aload_n 0, 1) := by decide +kernel
theorem dX12_init_339 : decode cX12_init 339 = .ok (.iload_n 1, 1) := by decide +kernel
theorem dX12_init_340 : decode cX12_init 340 = .ok (.iconst 3, 1) := by decide +kernel
theorem dX12_init_341 : decode cX12_init 341 = .ok (.iconst 0, 1) := by decide +kernel
theorem dX12_init_342 : decode cX12_init 342 = .ok (.iload_n 2, 1) := by decide +kernel
theorem dX12_init_343 : decode cX12_init 343 = .ok (.iconst 0, 1) := by decide +kernel
theorem dX12_init_344 : decode cX12_init 344 = .ok (.iconst 0, 1) := by decide +kernel
theorem dX12_init_345 : decode cX12_init 345 = .ok (.iconst 0, 1) := by decide +kernel
theorem dX12_init_346 : decode cX12_init 346 = .ok (.invokevirtual 110, 3) := by decide +kernel
theorem dX12_init_349 : decode cX12_init 349 = .ok (.istore_n 1, 1) := by decide +kernel
theorem dX12_init_350 : decode cX12_init 350 = .ok (.iconst 4, 1) := by decide +kernel
theorem dX12_init_351 : decode cX12_init 351 = .ok (.istore_n 3, 1) := by decide +kernel
theorem dX12_init_352 : decode cX12_init 352 = .ok (.iload_n 3, 1) := by decide +kernel
theorem dX12_init_353 : decode cX12_init 353 = .ok (.bipush 18, 2) := by decide +kernel
theorem dX12_init_355 : decode cX12_init 355 = .ok (.if_icmp .gt 21, 3) := by decide +kernel
theorem dX12_init_358 : decode cX12_init 358 = .ok (.aload_n 0, 1) := by decide +kernel
theorem dX12_init_359 : decode cX12_init 359 = .ok (.iload_n 1, 1) := by decide +kernel
theorem dX12_init_360 : decode cX12_init 360 = .ok (.iconst 3, 1) := by decide +kernel
theorem dX12_init_361 : decode cX12_init 361 = .ok (.iload_n 3, 1) := by decide +kernel
theorem dX12_init_362 : decode cX12_init 362 = .ok (.iload_n 2, 1) := by decide +kernel
theorem dX12_init_363 : decode cX12_init 363 = .ok (.iconst 0, 1) := by decide +kernel
theorem dX12_init_364 : decode cX12_init 364 = .ok (.iconst 0, 1) := by decide +kernel
theorem dX12_init_365 : decode cX12_init 365 = .ok (.iconst 0, 1) := by decide +kernel
theorem dX12_init_366 : decode cX12_init 366 = .ok (.invokevirtual 110, 3) := by decide +kernel
theorem dX12_init_369 : decode cX12_init 369 = .ok (.istore_n 1, 1) := by decide +kernel
theorem dX12_init_370 : decode cX12_init 370 = .ok (.iinc 3 1, 3) := by decide +kernel
theorem dX12_init_373 : decode cX12_init 373 = .ok (.goto (-21), 3) := by decide +kernel
theorem dX12_init_376 : decode cX12_init 376 = .ok (.iinc 2 1, 3) := by decide +kernel
theorem dX12_init_379 : decode cX12_init 379 = .ok (.goto (-47), 3) := by decide +kernel
theorem dX12_init_382 : decode cX12_init 382 = .ok (.iconst 0, 1) := by decide +kernel
theorem dX12_init_383 : decode cX12_init 383 = .ok (.istore_n 2, 1) := by decide +kernel
theorem dX12_init_384 : decode cX12_init 384 = .ok (.iload_n 2, 1) := by decide +kernel
theorem dX12_init_385 : decode cX12_init 385 = .ok (.iconst 5, 1) := by decide +kernel
theorem dX12_init_386 : decode cX12_init 386 = .ok (.if_icmp .gt 51, 3) := by decide +kernel
theorem dX12_init_389 : decode cX12_init 389 = .ok (.iconst 1, 1) := by decide +kernel
theorem dX12_init_390 : decode cX12_init 390 = .ok (.istore_n 3, 1) := by decide +kernel
theorem dX12_init_391 : decode cX12_init 391 = .ok (.iload_n 3, 1) := by decide +kernel
theorem dX12_init_392 : decode cX12_init 392 = .ok (.iconst 4, 1) := by decide +kernel
theorem dX12_init_393 : decode cX12_init 393 = .ok (.if_icmp .gt 38, 3) := by decide +kernel
theorem dX12_init_396 : decode cX12_init 396 = .ok (.iconst 4, 1) := by decide +kernel
theorem dX12_init_397 : decode cX12_init 397 = .ok (.istore 4, 2) := by decide +kernel
theorem dX12_init_399 : decode cX12_init 399 = .ok (.iload 4, 2) := by decide +kernel
theorem dX12_init_401 : decode cX12_init 401 = .ok (.bipush 6, 2) := by decide +kernel
theorem dX12_init_403 : decode cX12_init 403 = .ok (.if_icmp .gt 22, 3) := by decide +kernel
theorem dX12_init_406 : decode cX12_init 406 = .ok (.aload_n 0, 1) := by decide +kernel
theorem dX12_init_407 : decode cX12_init 407 = .ok (.iload_n 1, 1) := by decide +kernel
theorem dX12_init_408 : decode cX12_init 408 = .ok (.iconst 1, 1) := by decide +kernel
theorem dX12_init_409 : decode cX12_init 409 = .ok (.iload_n 3, 1) := by decide +kernel
theorem dX12_init_410 : decode cX12_init 410 = .ok (.iconst 0, 1) := by decide +kernel
theorem dX12_init_411 : decode cX12_init 411 = .ok (.iconst 3, 1) := by decide +kernel
theorem dX12_init_412 : decode cX12_init 412 = .ok (.iload 4, 2) := by decide +kernel
theorem dX12_init_414 : decode cX12_init 414 = .ok (.iload_n 2, 1) := by decide +kernel
theorem dX12_init_415 : decode cX12_init 415 = .ok (.invokevirtual 110, 3) := by decide +kernel
theorem dX12_init_418 : decode cX12_init 418 = .ok (.istore_n 1, 1) := by decide +kernel
theorem dX12_init_419 : decode cX12_init 419 = .ok (.iinc 4 1, 3) := by decide +kernel
theorem dX12_init_422 : decode cX12_init 422 = .ok (.goto (-23), 3) := by decide +kernel
theorem dX12_init_425 : decode cX12_init 425 = .ok (.iinc 3 1, 3) := by decide +kernel
theorem dX12_init_428 : decode cX12_init 428 = .ok (.goto (-37), 3) := by decide +kernel
theorem dX12_init_431 : decode cX12_init 431 = .ok (.iinc 2 1, 3) := by decide +kernel
theorem dX12_init_434 : decode cX12_init 434 = .ok (.goto (-50), 3) := by decide +kernel
theorem dX12_init_437 : decode cX12_init 437 = .ok (.bipush 6, 2) := by decide +kernel
theorem dX12_init_439 : decode cX12_init 439 = .ok (.istore_n 2, 1) := by decide +kernel
theorem dX12_init_440 : decode cX12_init 440 = .ok (.iload_n 2, 1) := by decide +kernel
theorem dX12_init_441 : decode cX12_init 441 = .ok (.bipush 8, 2) := by decide +kernel
theorem dX12_init_443 : decode cX12_init 443 = .ok (.if_icmp .gt 34, 3) := by decide +kernel
theorem dX12_init_446 : decode cX12_init 446 = .ok (.iconst 1, 1) := by decide +kernel
theorem dX12_init_447 : decode cX12_init 447 = .ok (.istore_n 3, 1) := by decide +kernel
theorem dX12_init_448 : decode cX12_init 448 = .ok (.iload_n 3, 1) := by decide +kernel
theorem dX12_init_449 : decode cX12_init 449 = .ok (.iconst 4, 1) := by decide +kernel
theorem dX12_init_450 : decode cX12_init 450 = .ok (.if_icmp .gt 21, 3) := by decide +kernel
theorem dX12_init_453 : decode cX12_init 453 = .ok (.aload_n 0, 1) := by decide +kernel
theorem dX12_init_454 : decode cX12_init 454 = .ok (.iload_n 1, 1) := by decide +kernel
theorem dX12_init_455 : decode cX12_init 455 = .ok (.iconst 1, 1) := by decide +kernel
theorem dX12_init_456 : decode cX12_init 456 = .ok (.iload_n 3, 1) := by decide +kernel
theorem dX12_init_457 : decode cX12_init 457 = .ok (.iconst 0, 1) := by decide +kernel
theorem dX12_init_458 : decode cX12_init 458 = .ok (.iconst 3, 1) := by decide +kernel
theorem dX12_init_459 : decode cX12_init 459 = .ok (.iconst 4, 1) := by decide +kernel
theorem dX12_init_460 : decode cX12_init 460 = .ok (.iload_n 2, 1) := by decide +kernel
theorem dX12_init_461 : decode cX12_init 461 = .ok (.invokevirtual 110, 3) := by decide +kernel
theorem dX12_init_464 : decode cX12_init 464 = .ok (.istore_n 1, 1) := by decide +kernel
theorem dX12_init_465 : decode cX12_init 465 = .ok (.iinc 3 1, 3) := by decide +kernel
theorem dX12_init_468 : decode cX12_init 468 = .ok (.goto (-20), 3) := by decide +kernel
theorem dX12_init_471 : decode cX12_init 471 = .ok (.iinc 2 1, 3) := by decide +kernel
theorem dX12_init_474 : decode cX12_init 474 = .ok (.goto (-34), 3) := by decide +kernel
theorem dX12_init_477 : decode cX12_init 477 = .ok (.iconst 0, 1) := by decide +kernel
theorem dX12_init_478 : decode cX12_init 478 = .ok (.istore_n 2, 1) := by decide +kernel
theorem dX12_init_479 : decode cX12_init 479 = .ok (.iload_n 2, 1) := by decide +kernel
theorem dX12_init_480 : decode cX12_init 480 = .ok (.bipush 8, 2) := by decide +kernel
theorem dX12_init_482 : decode cX12_init 482 = .ok (.if_icmp .gt 21, 3) := by decide +kernel
theorem dX12_init_485 : decode cX12_init 485 = .ok (.aload_n 0, 1) := by decide +kernel
theorem dX12_init_486 : decode cX12_init 486 = .ok (.iload_n 1, 1) := by decide +kernel
theorem dX12_init_487 : decode cX12_init 487 = .ok (.iconst 3, 1) := by decide +kernel
theorem dX12_init_488 : decode cX12_init 488 = .ok (.iconst 4, 1) := by decide +kernel
theorem dX12_init_489 : decode cX12_init 489 = .ok (.iload_n 2, 1) := by decide +kernel
theorem dX12_init_490 : decode cX12_init 490 = .ok (.iconst 1, 1) := by decide +kernel
theorem dX12_init_491 : decode cX12_init 491 = .ok (.iconst 1, 1) := by decide +kernel
theorem dX12_init_492 : decode cX12_init 492 = .ok (.iconst 0, 1) := by decide +kernel
theorem dX12_init_493 : decode cX12_init 493 = .ok (.invokevirtual 110, 3) := by decide +kernel
theorem dX12_init_496 : decode cX12_init 496 = .ok (.istore_n 1, 1) := by decide +kernel
theorem dX12_init_497 : decode cX12_init 497 = .ok (.iinc 2 1, 3) := by decide +kernel
theorem dX12_init_500 : decode cX12_init 500 = .ok (.goto (-21), 3) := by decide +kernel
theorem dX12_init_503 : decode cX12_init 503 = .ok (.aload_n 0, 1) := by decide +kernel
theorem dX12_init_504 : decode cX12_init 504 = .ok (.iconst 0, 1) := by decide +kernel
theorem dX12_init_505 : decode cX12_init 505 = .ok (.iconst 1, 1) := by decide +kernel
theorem dX12_init_506 : decode cX12_init 506 = .ok (.invokevirtual 114, 3) := by decide +kernel
theorem dX12_init_509 : decode cX12_init 509 = .ok (.aload_n 0, 1) := by decide +kernel
theorem dX12_init_510 : decode cX12_init 510 = .ok (.iconst 0, 1) := by decide +kernel
theorem dX12_init_511 : decode cX12_init 511 = .ok (.iconst 2, 1) := by decide +kernel
theorem dX12_init_512 : decode cX12_init 512 = .ok (.invokevirtual 114, 3) := by decide +kernel
theorem dX12_init_515 : decode cX12_init 515 = .ok (.aload_n 0, 1) := by decide +kernel
theorem dX12_init_516 : decode cX12_init 516 = .ok (.iconst 0, 1) := by decide +kernel
theorem dX12_init_517 : decode cX12_init 517 = .ok (.aload_n 0, 1) := by decide +kernel
theorem dX12_init_518 : decode cX12_init 518 = .ok (.getfield 33, 3) := by decide +kernel
theorem dX12_init_521 : decode cX12_init 521 = .ok (.invokevirtual 118, 3) := by decide +kernel
theorem dX12_init_524 : decode cX12_init 524 = .ok (.return_, 1) := by decide +kernel
set_option maxRecDepth 20000 in
def V_X8_init_0 (w : Wd) (sh : List Sh) (x0 : Nat) (x1 : Int32) (h : Hp) (ms : Nat)  (RET : List Sh → Hp → Prop) : Prop :=
  shAt sh x0 = some (.inr 8) ∧ (∃ n2 : Nat, (¬ (if x1 < (0 : Int32) then (0 : Int32) else x1) < 0 ∧ (if x1 < (0 : Int32) then (0 : Int32) else x1).toNatClampNeg = n2 ∧ n2 * 8 ≤ 536870912 ∧ (∀ k, h.1 (sh.length + 1) k = 0 ∧ h.2.2 (sh.length + 1) k = 0) ∧ 0 + n2 ≤ ms) ∧ (∀ (sh4 : List Sh) (r6 : Nat), sh4 = sh ++ [.inl (0, n2)] → r6 = sh.length + 1 → (shAt sh4 x0 = some (.inr 8) ∧ (∀ h9 : Hp, h9 = wR h x0 0 r6 → (0 + n2 = ms ∧ RET sh4 h9)))))
set_option maxRecDepth 20000 in
set_option maxHeartbeats 8000000 in
theorem W_X8_init_0 {w : Wd} {E : GE} {sh : List Sh} {x0 : Nat} {x1 : Int32} {h : Hp} {ms n0 : Nat}  {RET : List Sh → Hp → Prop} (X : Cx w E cX8_init 2 RX8) (Tt : Rt w E none n0 1 ms (fun q sh9 h9 => q = none ∧ RET sh9 h9)) (hR : gR E = { frames := 1, cells := 1, slots := ms, locals := 21 }) (hin : (gme E).name = "<init>") (hV : V_X8_init_0 w sh x0 x1 h ms RET) : G w E 2 0 [(0, rv w.2.2.2 x0), (1, Value.int x1)] [] sh h 0 0 := by
  unfold V_X8_init_0 at hV
  refine g_aload_n (pc := 0) X 0 rfl rfl dX8_init_0 ?_
  obtain ⟨q1, hV⟩ := hV
  refine g_objInit (pc := 1) X wo_X8_1 wo_inst wo_code q1 (by rw [hR]; exact ⟨Nat.le_of_ble_eq_true rfl, by simp [rv_cat, cat_int, cat_long]⟩) dX8_init_1 ?_
  refine g_aload_n (pc := 4) X 0 rfl rfl dX8_init_4 ?_
  refine g_iload_n (pc := 5) X 1 rfl rfl dX8_init_5 ?_
  refine g_iconst (pc := 6) (v := (0 : Int32)) X dX8_init_6 (by decide) ?_
  refine g_mmax (pc := 7) X wm_X8_7 ws_max wi_Math wc_max (by rw [hR]; refine ⟨Nat.le_of_ble_eq_true rfl, by simp [rv_cat, cat_int, cat_long], ?_, ?_⟩ <;> first | exact Nat.zero_le _ | exact Nat.le_of_ble_eq_true rfl | (show _ ≤ ms; omega)) dX8_init_7 ?_
  obtain ⟨n2, q3, hV⟩ := hV
  refine g_newarr (pc := 10) (at_ := .byte) X (Or.inl ⟨rfl, rfl⟩) wa_0 q3.1 q3.2.1 q3.2.2.1 q3.2.2.2.1 (by rw [hR]; exact ⟨Nat.le_of_ble_eq_true rfl, q3.2.2.2.2⟩) dX8_init_10 ?_
  obtain ⟨sh4, e5⟩ : ∃ z, z = sh ++ [Sum.inl (0, n2)] := ⟨_, rfl⟩
  obtain ⟨r6, e7⟩ : ∃ z, z = sh.length + 1 := ⟨_, rfl⟩
  rw [← e5, ← e7]
  have hV := hV sh4 r6 e5 e7
  obtain ⟨q8, hV⟩ := hV
  refine g_putFR (pc := 12) X ff_X8_13 hin q8 rfl dX8_init_12 (fun h9 e10 => ?_)
  have hV := hV h9 e10
  rw [hV.1]
  exact g_vret (pc := 15) X Tt ⟨rfl, hV.2⟩ dX8_init_15
def C_X8_init (w : Wd) (sh : List Sh) (x0 : Nat) (x1 : Int32) (h : Hp) (ms : Nat) (RET : List Sh → Hp → Prop) : Prop := Ct w yX8_init (.code yX8_init cX8_init 2 none) 1 21 1 ms [rv w.2.2.2 x0, Value.int x1] sh h (fun q sh9 h9 => q = none ∧ RET sh9 h9)
theorem K_X8_init {w : Wd} {sh : List Sh} {x0 : Nat} {x1 : Int32} {h : Hp} {ms : Nat} {RET : List Sh → Hp → Prop} (hV : V_X8_init_0 w sh x0 x1 h ms RET) : C_X8_init w sh x0 x1 h ms RET :=
  Ct_of (by decide +kernel) (by simp [lg_sl, rv_cat, cat_int, cat_long]) (fun E X Tt hR hin => by
    rw [show lv_args 0 [rv w.2.2.2 x0, Value.int x1] = [(0, rv w.2.2.2 x0), (1, Value.int x1)] from by simp [lv_args, rv_cat, cat_int, cat_long]]
    refine g_lv [0, 1] rfl ?_
    exact W_X8_init_0 X Tt hR hin hV)
set_option maxRecDepth 20000 in
def V_X10_init_0 (w : Wd) (sh : List Sh) (x0 : Nat) (h : Hp) (ms : Nat)  (RET : List Sh → Hp → Prop) : Prop :=
  shAt sh x0 = some (.inr 10) ∧ (((∀ k, h.1 (sh.length + 1) k = 0 ∧ h.2.1 (sh.length + 1) k = 0) ∧ 0 + 3 ≤ ms) ∧ (∀ (sh3 : List Sh) (r5 : Nat), sh3 = sh ++ [.inr 8] → r5 = sh.length + 1 → (shAt sh3 r5 = some (.inr 8) ∧ (∃ (m9 : Nat) (P8 : List Sh → Hp → Prop), C_X8_init w sh3 r5 (1536 : Int32) h m9 P8 ∧ 0 + 3 + m9 ≤ ms ∧ (∀ (sh11 : List Sh) (h12 : Hp), P8 sh11 h12 → (shAt sh11 x0 = some (.inr 10) ∧ (∀ h16 : Hp, h16 = wR h12 x0 0 r5 → (0 + 3 + m9 = ms ∧ RET sh11 h16))))))))
set_option maxRecDepth 20000 in
set_option maxHeartbeats 8000000 in
theorem W_X10_init_0 {w : Wd} {E : GE} {sh : List Sh} {x0 : Nat} {h : Hp} {ms n0 : Nat}  {RET : List Sh → Hp → Prop} (X : Cx w E cX10_init 1 RX10) (Tt : Rt w E none n0 2 ms (fun q sh9 h9 => q = none ∧ RET sh9 h9)) (hR : gR E = { frames := 2, cells := 2, slots := ms, locals := 42 }) (hin : (gme E).name = "<init>") (hV : V_X10_init_0 w sh x0 h ms RET) : G w E 1 0 [(0, rv w.2.2.2 x0)] [] sh h 0 0 := by
  unfold V_X10_init_0 at hV
  refine g_aload_n (pc := 0) X 0 rfl rfl dX10_init_0 ?_
  obtain ⟨q1, hV⟩ := hV
  refine g_objInit (pc := 1) X wo_X10_3 wo_inst wo_code q1 (by rw [hR]; exact ⟨Nat.le_of_ble_eq_true rfl, by simp [rv_cat, cat_int, cat_long]⟩) dX10_init_1 ?_
  refine g_aload_n (pc := 4) X 0 rfl rfl dX10_init_4 ?_
  obtain ⟨q2, hV⟩ := hV
  refine g_new (pc := 5) X cl_X10_9 q2.1 (by rw [hR]; exact ⟨Nat.le_of_ble_eq_true rfl, q2.2⟩) dX10_init_5 ?_
  obtain ⟨sh3, e4⟩ : ∃ z, z = sh ++ [Sum.inr 8] := ⟨_, rfl⟩
  obtain ⟨r5, e6⟩ : ∃ z, z = sh.length + 1 := ⟨_, rfl⟩
  rw [← e4, ← e6]
  have hV := hV sh3 r5 e4 e6
  refine g_dup (pc := 8) X dX10_init_8 (rv_cat _ _) ?_
  refine g_sipush (pc := 9) (v := (1536 : Int32)) X dX10_init_9 (by decide) ?_
  obtain ⟨q7, hV⟩ := hV
  obtain ⟨m9, P8, t10, q14, hV⟩ := hV
  refine g_invI (pc := 12) X (As := [Value.int (1536 : Int32)]) ml_X10_11 q7 t10 (by rw [hR]; exact ⟨Nat.le_of_ble_eq_true rfl, Nat.le_of_ble_eq_true rfl, Nat.le_of_ble_eq_true rfl, q14⟩) rfl rfl (by simp [rv_cat, cat_int, cat_long]) dX10_init_12 ?_
  intro qq9 sh11 h12 p13
  obtain ⟨rfl, p13⟩ := p13
  have hV := hV sh11 h12 p13
  refine g_eq (pc2 := 15) (st2 := [rv w.2.2.2 r5, rv w.2.2.2 x0]) rfl rfl ?_
  obtain ⟨q15, hV⟩ := hV
  refine g_putFR (pc := 15) X ff_X10_14 hin q15 rfl dX10_init_15 (fun h16 e17 => ?_)
  have hV := hV h16 e17
  rw [hV.1]
  exact g_vret (pc := 18) X Tt ⟨rfl, hV.2⟩ dX10_init_18
def C_X10_init (w : Wd) (sh : List Sh) (x0 : Nat) (h : Hp) (ms : Nat) (RET : List Sh → Hp → Prop) : Prop := Ct w yX10_init (.code yX10_init cX10_init 1 none) 2 42 2 ms [rv w.2.2.2 x0] sh h (fun q sh9 h9 => q = none ∧ RET sh9 h9)
theorem K_X10_init {w : Wd} {sh : List Sh} {x0 : Nat} {h : Hp} {ms : Nat} {RET : List Sh → Hp → Prop} (hV : V_X10_init_0 w sh x0 h ms RET) : C_X10_init w sh x0 h ms RET :=
  Ct_of (by decide +kernel) (by simp [lg_sl, rv_cat, cat_int, cat_long]) (fun E X Tt hR hin => by
    rw [show lv_args 0 [rv w.2.2.2 x0] = [(0, rv w.2.2.2 x0)] from by simp [lv_args, rv_cat, cat_int, cat_long]]
    refine g_lv [0] rfl ?_
    exact W_X10_init_0 X Tt hR hin hV)
set_option maxRecDepth 20000 in
def V_X4_init_0 (w : Wd) (sh : List Sh) (x0 : Nat) (x1 : Int32) (h : Hp) (ms : Nat)  (RET : List Sh → Hp → Prop) : Prop :=
  shAt sh x0 = some (.inr 4) ∧ (∃ n2 : Nat, (¬ (8 : Int32) < 0 ∧ (8 : Int32).toNatClampNeg = n2 ∧ n2 * 8 ≤ 536870912 ∧ (∀ k, h.1 (sh.length + 1) k = 0 ∧ h.2.2 (sh.length + 1) k = 0) ∧ 0 + n2 ≤ ms) ∧ (∀ (sh4 : List Sh) (r6 : Nat), sh4 = sh ++ [.inl (1, n2)] → r6 = sh.length + 1 → (shAt sh4 x0 = some (.inr 4) ∧ (∀ h9 : Hp, h9 = wR h x0 0 r6 → (∃ n11 : Nat, (¬ ((if x1 < (0 : Int32) then (0 : Int32) else x1) * (4 : Int32)) < 0 ∧ ((if x1 < (0 : Int32) then (0 : Int32) else x1) * (4 : Int32)).toNatClampNeg = n11 ∧ n11 * 8 ≤ 536870912 ∧ (∀ k, h9.1 (sh4.length + 1) k = 0 ∧ h9.2.2 (sh4.length + 1) k = 0) ∧ 0 + n2 + n11 ≤ ms) ∧ (∀ (sh13 : List Sh) (r15 : Nat), sh13 = sh4 ++ [.inl (1, n11)] → r15 = sh4.length + 1 → (shAt sh13 x0 = some (.inr 4) ∧ (∀ h18 : Hp, h18 = wR h9 x0 1 r15 → (0 + n2 + n11 = ms ∧ RET sh13 h18)))))))))
set_option maxRecDepth 20000 in
set_option maxHeartbeats 8000000 in
theorem W_X4_init_0 {w : Wd} {E : GE} {sh : List Sh} {x0 : Nat} {x1 : Int32} {h : Hp} {ms n0 : Nat}  {RET : List Sh → Hp → Prop} (X : Cx w E cX4_init 2 RX4) (Tt : Rt w E none n0 2 ms (fun q sh9 h9 => q = none ∧ RET sh9 h9)) (hR : gR E = { frames := 1, cells := 2, slots := ms, locals := 21 }) (hin : (gme E).name = "<init>") (hV : V_X4_init_0 w sh x0 x1 h ms RET) : G w E 2 0 [(0, rv w.2.2.2 x0), (1, Value.int x1)] [] sh h 0 0 := by
  unfold V_X4_init_0 at hV
  refine g_aload_n (pc := 0) X 0 rfl rfl dX4_init_0 ?_
  obtain ⟨q1, hV⟩ := hV
  refine g_objInit (pc := 1) X wo_X4_3 wo_inst wo_code q1 (by rw [hR]; exact ⟨Nat.le_of_ble_eq_true rfl, by simp [rv_cat, cat_int, cat_long]⟩) dX4_init_1 ?_
  refine g_aload_n (pc := 4) X 0 rfl rfl dX4_init_4 ?_
  refine g_bipush (pc := 5) (v := (8 : Int32)) X dX4_init_5 (by decide) ?_
  obtain ⟨n2, q3, hV⟩ := hV
  refine g_newarr (pc := 7) (at_ := .int) X (Or.inr (Or.inl ⟨rfl, rfl⟩)) wa_1 q3.1 q3.2.1 q3.2.2.1 q3.2.2.2.1 (by rw [hR]; exact ⟨Nat.le_of_ble_eq_true rfl, q3.2.2.2.2⟩) dX4_init_7 ?_
  obtain ⟨sh4, e5⟩ : ∃ z, z = sh ++ [Sum.inl (1, n2)] := ⟨_, rfl⟩
  obtain ⟨r6, e7⟩ : ∃ z, z = sh.length + 1 := ⟨_, rfl⟩
  rw [← e5, ← e7]
  have hV := hV sh4 r6 e5 e7
  obtain ⟨q8, hV⟩ := hV
  refine g_putFR (pc := 9) X ff_X4_9 hin q8 rfl dX4_init_9 (fun h9 e10 => ?_)
  have hV := hV h9 e10
  refine g_aload_n (pc := 12) X 0 rfl rfl dX4_init_12 ?_
  refine g_iload_n (pc := 13) X 1 rfl rfl dX4_init_13 ?_
  refine g_iconst (pc := 14) (v := (0 : Int32)) X dX4_init_14 (by decide) ?_
  refine g_mmax (pc := 15) X wm_X4_15 ws_max wi_Math wc_max (by rw [hR]; refine ⟨Nat.le_of_ble_eq_true rfl, by simp [rv_cat, cat_int, cat_long], ?_, ?_⟩ <;> first | exact Nat.zero_le _ | exact Nat.le_of_ble_eq_true rfl | (show _ ≤ ms; omega)) dX4_init_15 ?_
  refine g_iconst (pc := 18) (v := (4 : Int32)) X dX4_init_18 (by decide) ?_
  refine g_imul (pc := 19) X dX4_init_19 ?_
  obtain ⟨n11, q12, hV⟩ := hV
  refine g_newarr (pc := 20) (at_ := .int) X (Or.inr (Or.inl ⟨rfl, rfl⟩)) wa_1 q12.1 q12.2.1 q12.2.2.1 q12.2.2.2.1 (by rw [hR]; exact ⟨Nat.le_of_ble_eq_true rfl, q12.2.2.2.2⟩) dX4_init_20 ?_
  obtain ⟨sh13, e14⟩ : ∃ z, z = sh4 ++ [Sum.inl (1, n11)] := ⟨_, rfl⟩
  obtain ⟨r15, e16⟩ : ∃ z, z = sh4.length + 1 := ⟨_, rfl⟩
  rw [← e14, ← e16]
  have hV := hV sh13 r15 e14 e16
  obtain ⟨q17, hV⟩ := hV
  refine g_putFR (pc := 22) X ff_X4_21 hin q17 rfl dX4_init_22 (fun h18 e19 => ?_)
  have hV := hV h18 e19
  rw [hV.1]
  exact g_vret (pc := 25) X Tt ⟨rfl, hV.2⟩ dX4_init_25
def C_X4_init (w : Wd) (sh : List Sh) (x0 : Nat) (x1 : Int32) (h : Hp) (ms : Nat) (RET : List Sh → Hp → Prop) : Prop := Ct w yX4_init (.code yX4_init cX4_init 2 none) 1 21 2 ms [rv w.2.2.2 x0, Value.int x1] sh h (fun q sh9 h9 => q = none ∧ RET sh9 h9)
theorem K_X4_init {w : Wd} {sh : List Sh} {x0 : Nat} {x1 : Int32} {h : Hp} {ms : Nat} {RET : List Sh → Hp → Prop} (hV : V_X4_init_0 w sh x0 x1 h ms RET) : C_X4_init w sh x0 x1 h ms RET :=
  Ct_of (by decide +kernel) (by simp [lg_sl, rv_cat, cat_int, cat_long]) (fun E X Tt hR hin => by
    rw [show lv_args 0 [rv w.2.2.2 x0, Value.int x1] = [(0, rv w.2.2.2 x0), (1, Value.int x1)] from by simp [lv_args, rv_cat, cat_int, cat_long]]
    refine g_lv [0, 1] rfl ?_
    exact W_X4_init_0 X Tt hR hin hV)
set_option maxRecDepth 20000 in
def V_X0_init_0 (w : Wd) (sh : List Sh) (x0 : Nat) (x1 : Int32) (x2 : Int32) (h : Hp) (ms : Nat)  (RET : List Sh → Hp → Prop) : Prop :=
  shAt sh x0 = some (.inr 0) ∧ (∃ n2 : Nat, (¬ (if x1 < (0 : Int32) then (0 : Int32) else x1) < 0 ∧ (if x1 < (0 : Int32) then (0 : Int32) else x1).toNatClampNeg = n2 ∧ n2 * 8 ≤ 536870912 ∧ (∀ k, h.1 (sh.length + 1) k = 0 ∧ h.2.2 (sh.length + 1) k = 0) ∧ 0 + n2 ≤ ms) ∧ (∀ (sh4 : List Sh) (r6 : Nat), sh4 = sh ++ [.inl (1, n2)] → r6 = sh.length + 1 → (shAt sh4 x0 = some (.inr 0) ∧ (∀ h9 : Hp, h9 = wR h x0 0 r6 → (∃ n11 : Nat, (¬ ((if x2 < (0 : Int32) then (0 : Int32) else x2) * (256 : Int32)) < 0 ∧ ((if x2 < (0 : Int32) then (0 : Int32) else x2) * (256 : Int32)).toNatClampNeg = n11 ∧ n11 * 8 ≤ 536870912 ∧ (∀ k, h9.1 (sh4.length + 1) k = 0 ∧ h9.2.2 (sh4.length + 1) k = 0) ∧ 0 + n2 + n11 ≤ ms) ∧ (∀ (sh13 : List Sh) (r15 : Nat), sh13 = sh4 ++ [.inl (1, n11)] → r15 = sh4.length + 1 → (shAt sh13 x0 = some (.inr 0) ∧ (∀ h18 : Hp, h18 = wR h9 x0 1 r15 → (0 + n2 + n11 = ms ∧ RET sh13 h18)))))))))
set_option maxRecDepth 20000 in
set_option maxHeartbeats 8000000 in
theorem W_X0_init_0 {w : Wd} {E : GE} {sh : List Sh} {x0 : Nat} {x1 : Int32} {x2 : Int32} {h : Hp} {ms n0 : Nat}  {RET : List Sh → Hp → Prop} (X : Cx w E cX0_init 3 RX0) (Tt : Rt w E none n0 2 ms (fun q sh9 h9 => q = none ∧ RET sh9 h9)) (hR : gR E = { frames := 1, cells := 2, slots := ms, locals := 21 }) (hin : (gme E).name = "<init>") (hV : V_X0_init_0 w sh x0 x1 x2 h ms RET) : G w E 3 0 [(0, rv w.2.2.2 x0), (1, Value.int x1), (2, Value.int x2)] [] sh h 0 0 := by
  unfold V_X0_init_0 at hV
  refine g_aload_n (pc := 0) X 0 rfl rfl dX0_init_0 ?_
  obtain ⟨q1, hV⟩ := hV
  refine g_objInit (pc := 1) X wo_X0_3 wo_inst wo_code q1 (by rw [hR]; exact ⟨Nat.le_of_ble_eq_true rfl, by simp [rv_cat, cat_int, cat_long]⟩) dX0_init_1 ?_
  refine g_aload_n (pc := 4) X 0 rfl rfl dX0_init_4 ?_
  refine g_iload_n (pc := 5) X 1 rfl rfl dX0_init_5 ?_
  refine g_iconst (pc := 6) (v := (0 : Int32)) X dX0_init_6 (by decide) ?_
  refine g_mmax (pc := 7) X wm_X0_9 ws_max wi_Math wc_max (by rw [hR]; refine ⟨Nat.le_of_ble_eq_true rfl, by simp [rv_cat, cat_int, cat_long], ?_, ?_⟩ <;> first | exact Nat.zero_le _ | exact Nat.le_of_ble_eq_true rfl | (show _ ≤ ms; omega)) dX0_init_7 ?_
  obtain ⟨n2, q3, hV⟩ := hV
  refine g_newarr (pc := 10) (at_ := .int) X (Or.inr (Or.inl ⟨rfl, rfl⟩)) wa_1 q3.1 q3.2.1 q3.2.2.1 q3.2.2.2.1 (by rw [hR]; exact ⟨Nat.le_of_ble_eq_true rfl, q3.2.2.2.2⟩) dX0_init_10 ?_
  obtain ⟨sh4, e5⟩ : ∃ z, z = sh ++ [Sum.inl (1, n2)] := ⟨_, rfl⟩
  obtain ⟨r6, e7⟩ : ∃ z, z = sh.length + 1 := ⟨_, rfl⟩
  rw [← e5, ← e7]
  have hV := hV sh4 r6 e5 e7
  obtain ⟨q8, hV⟩ := hV
  refine g_putFR (pc := 12) X ff_X0_15 hin q8 rfl dX0_init_12 (fun h9 e10 => ?_)
  have hV := hV h9 e10
  refine g_aload_n (pc := 15) X 0 rfl rfl dX0_init_15 ?_
  refine g_iload_n (pc := 16) X 2 rfl rfl dX0_init_16 ?_
  refine g_iconst (pc := 17) (v := (0 : Int32)) X dX0_init_17 (by decide) ?_
  refine g_mmax (pc := 18) X wm_X0_9 ws_max wi_Math wc_max (by rw [hR]; refine ⟨Nat.le_of_ble_eq_true rfl, by simp [rv_cat, cat_int, cat_long], ?_, ?_⟩ <;> first | exact Nat.zero_le _ | exact Nat.le_of_ble_eq_true rfl | (show _ ≤ ms; omega)) dX0_init_18 ?_
  refine g_sipush (pc := 21) (v := (256 : Int32)) X dX0_init_21 (by decide) ?_
  refine g_imul (pc := 24) X dX0_init_24 ?_
  obtain ⟨n11, q12, hV⟩ := hV
  refine g_newarr (pc := 25) (at_ := .int) X (Or.inr (Or.inl ⟨rfl, rfl⟩)) wa_1 q12.1 q12.2.1 q12.2.2.1 q12.2.2.2.1 (by rw [hR]; exact ⟨Nat.le_of_ble_eq_true rfl, q12.2.2.2.2⟩) dX0_init_25 ?_
  obtain ⟨sh13, e14⟩ : ∃ z, z = sh4 ++ [Sum.inl (1, n11)] := ⟨_, rfl⟩
  obtain ⟨r15, e16⟩ : ∃ z, z = sh4.length + 1 := ⟨_, rfl⟩
  rw [← e14, ← e16]
  have hV := hV sh13 r15 e14 e16
  obtain ⟨q17, hV⟩ := hV
  refine g_putFR (pc := 27) X ff_X0_21 hin q17 rfl dX0_init_27 (fun h18 e19 => ?_)
  have hV := hV h18 e19
  rw [hV.1]
  exact g_vret (pc := 30) X Tt ⟨rfl, hV.2⟩ dX0_init_30
def C_X0_init (w : Wd) (sh : List Sh) (x0 : Nat) (x1 : Int32) (x2 : Int32) (h : Hp) (ms : Nat) (RET : List Sh → Hp → Prop) : Prop := Ct w yX0_init (.code yX0_init cX0_init 3 none) 1 21 2 ms [rv w.2.2.2 x0, Value.int x1, Value.int x2] sh h (fun q sh9 h9 => q = none ∧ RET sh9 h9)
theorem K_X0_init {w : Wd} {sh : List Sh} {x0 : Nat} {x1 : Int32} {x2 : Int32} {h : Hp} {ms : Nat} {RET : List Sh → Hp → Prop} (hV : V_X0_init_0 w sh x0 x1 x2 h ms RET) : C_X0_init w sh x0 x1 x2 h ms RET :=
  Ct_of (by decide +kernel) (by simp [lg_sl, rv_cat, cat_int, cat_long]) (fun E X Tt hR hin => by
    rw [show lv_args 0 [rv w.2.2.2 x0, Value.int x1, Value.int x2] = [(0, rv w.2.2.2 x0), (1, Value.int x1), (2, Value.int x2)] from by simp [lv_args, rv_cat, cat_int, cat_long]]
    refine g_lv [0, 1, 2] rfl ?_
    exact W_X0_init_0 X Tt hR hin hV)
set_option maxRecDepth 20000 in
def V_X3_init_0 (w : Wd) (sh : List Sh) (x0 : Nat) (h : Hp) (ms : Nat)  (RET : List Sh → Hp → Prop) : Prop :=
  shAt sh x0 = some (.inr 3) ∧ (((∀ k, h.1 (sh.length + 1) k = 0 ∧ h.2.1 (sh.length + 1) k = 0) ∧ 0 + 3 ≤ ms) ∧ (∀ (sh3 : List Sh) (r5 : Nat), sh3 = sh ++ [.inr 8] → r5 = sh.length + 1 → (shAt sh3 r5 = some (.inr 8) ∧ (∃ (m9 : Nat) (P8 : List Sh → Hp → Prop), C_X8_init w sh3 r5 (6048 : Int32) h m9 P8 ∧ 0 + 3 + m9 ≤ ms ∧ (∀ (sh11 : List Sh) (h12 : Hp), P8 sh11 h12 → (shAt sh11 x0 = some (.inr 3) ∧ (∀ h16 : Hp, h16 = wR h12 x0 0 r5 → (∃ n18 : Nat, (¬ (1024 : Int32) < 0 ∧ (1024 : Int32).toNatClampNeg = n18 ∧ n18 * 8 ≤ 536870912 ∧ (∀ k, h16.1 (sh11.length + 1) k = 0 ∧ h16.2.2 (sh11.length + 1) k = 0) ∧ 0 + 3 + m9 + n18 ≤ ms) ∧ (∀ (sh20 : List Sh) (r22 : Nat), sh20 = sh11 ++ [.inl (1, n18)] → r22 = sh11.length + 1 → (shAt sh20 x0 = some (.inr 3) ∧ (∀ h25 : Hp, h25 = wR h16 x0 1 r22 → (∃ n27 : Nat, (¬ (6048 : Int32) < 0 ∧ (6048 : Int32).toNatClampNeg = n27 ∧ n27 * 8 ≤ 536870912 ∧ (∀ k, h25.1 (sh20.length + 1) k = 0 ∧ h25.2.2 (sh20.length + 1) k = 0) ∧ 0 + 3 + m9 + n18 + n27 ≤ ms) ∧ (∀ (sh29 : List Sh) (r31 : Nat), sh29 = sh20 ++ [.inl (1, n27)] → r31 = sh20.length + 1 → (shAt sh29 x0 = some (.inr 3) ∧ (∀ h34 : Hp, h34 = wR h25 x0 2 r31 → (0 + 3 + m9 + n18 + n27 = ms ∧ RET sh29 h34))))))))))))))))
set_option maxRecDepth 20000 in
set_option maxHeartbeats 8000000 in
theorem W_X3_init_0 {w : Wd} {E : GE} {sh : List Sh} {x0 : Nat} {h : Hp} {ms n0 : Nat}  {RET : List Sh → Hp → Prop} (X : Cx w E cX3_init 1 RX3) (Tt : Rt w E none n0 4 ms (fun q sh9 h9 => q = none ∧ RET sh9 h9)) (hR : gR E = { frames := 2, cells := 4, slots := ms, locals := 42 }) (hin : (gme E).name = "<init>") (hV : V_X3_init_0 w sh x0 h ms RET) : G w E 1 0 [(0, rv w.2.2.2 x0)] [] sh h 0 0 := by
  unfold V_X3_init_0 at hV
  refine g_aload_n (pc := 0) X 0 rfl rfl dX3_init_0 ?_
  obtain ⟨q1, hV⟩ := hV
  refine g_objInit (pc := 1) X wo_X3_3 wo_inst wo_code q1 (by rw [hR]; exact ⟨Nat.le_of_ble_eq_true rfl, by simp [rv_cat, cat_int, cat_long]⟩) dX3_init_1 ?_
  refine g_aload_n (pc := 4) X 0 rfl rfl dX3_init_4 ?_
  obtain ⟨q2, hV⟩ := hV
  refine g_new (pc := 5) X cl_X3_9 q2.1 (by rw [hR]; exact ⟨Nat.le_of_ble_eq_true rfl, q2.2⟩) dX3_init_5 ?_
  obtain ⟨sh3, e4⟩ : ∃ z, z = sh ++ [Sum.inr 8] := ⟨_, rfl⟩
  obtain ⟨r5, e6⟩ : ∃ z, z = sh.length + 1 := ⟨_, rfl⟩
  rw [← e4, ← e6]
  have hV := hV sh3 r5 e4 e6
  refine g_dup (pc := 8) X dX3_init_8 (rv_cat _ _) ?_
  refine g_sipush (pc := 9) (v := (6048 : Int32)) X dX3_init_9 (by decide) ?_
  obtain ⟨q7, hV⟩ := hV
  obtain ⟨m9, P8, t10, q14, hV⟩ := hV
  refine g_invI (pc := 12) X (As := [Value.int (6048 : Int32)]) ml_X3_11 q7 t10 (by rw [hR]; exact ⟨Nat.le_of_ble_eq_true rfl, Nat.le_of_ble_eq_true rfl, Nat.le_of_ble_eq_true rfl, q14⟩) rfl rfl (by simp [rv_cat, cat_int, cat_long]) dX3_init_12 ?_
  intro qq9 sh11 h12 p13
  obtain ⟨rfl, p13⟩ := p13
  have hV := hV sh11 h12 p13
  refine g_eq (pc2 := 15) (st2 := [rv w.2.2.2 r5, rv w.2.2.2 x0]) rfl rfl ?_
  obtain ⟨q15, hV⟩ := hV
  refine g_putFR (pc := 15) X ff_X3_14 hin q15 rfl dX3_init_15 (fun h16 e17 => ?_)
  have hV := hV h16 e17
  refine g_aload_n (pc := 18) X 0 rfl rfl dX3_init_18 ?_
  refine g_sipush (pc := 19) (v := (1024 : Int32)) X dX3_init_19 (by decide) ?_
  obtain ⟨n18, q19, hV⟩ := hV
  refine g_newarr (pc := 22) (at_ := .int) X (Or.inr (Or.inl ⟨rfl, rfl⟩)) wa_1 q19.1 q19.2.1 q19.2.2.1 q19.2.2.2.1 (by rw [hR]; exact ⟨Nat.le_of_ble_eq_true rfl, q19.2.2.2.2⟩) dX3_init_22 ?_
  obtain ⟨sh20, e21⟩ : ∃ z, z = sh11 ++ [Sum.inl (1, n18)] := ⟨_, rfl⟩
  obtain ⟨r22, e23⟩ : ∃ z, z = sh11.length + 1 := ⟨_, rfl⟩
  rw [← e21, ← e23]
  have hV := hV sh20 r22 e21 e23
  obtain ⟨q24, hV⟩ := hV
  refine g_putFR (pc := 24) X ff_X3_20 hin q24 rfl dX3_init_24 (fun h25 e26 => ?_)
  have hV := hV h25 e26
  refine g_aload_n (pc := 27) X 0 rfl rfl dX3_init_27 ?_
  refine g_sipush (pc := 28) (v := (6048 : Int32)) X dX3_init_28 (by decide) ?_
  obtain ⟨n27, q28, hV⟩ := hV
  refine g_newarr (pc := 31) (at_ := .int) X (Or.inr (Or.inl ⟨rfl, rfl⟩)) wa_1 q28.1 q28.2.1 q28.2.2.1 q28.2.2.2.1 (by rw [hR]; exact ⟨Nat.le_of_ble_eq_true rfl, q28.2.2.2.2⟩) dX3_init_31 ?_
  obtain ⟨sh29, e30⟩ : ∃ z, z = sh20 ++ [Sum.inl (1, n27)] := ⟨_, rfl⟩
  obtain ⟨r31, e32⟩ : ∃ z, z = sh20.length + 1 := ⟨_, rfl⟩
  rw [← e30, ← e32]
  have hV := hV sh29 r31 e30 e32
  obtain ⟨q33, hV⟩ := hV
  refine g_putFR (pc := 33) X ff_X3_24 hin q33 rfl dX3_init_33 (fun h34 e35 => ?_)
  have hV := hV h34 e35
  rw [hV.1]
  exact g_vret (pc := 36) X Tt ⟨rfl, hV.2⟩ dX3_init_36
def C_X3_init (w : Wd) (sh : List Sh) (x0 : Nat) (h : Hp) (ms : Nat) (RET : List Sh → Hp → Prop) : Prop := Ct w yX3_init (.code yX3_init cX3_init 1 none) 2 42 4 ms [rv w.2.2.2 x0] sh h (fun q sh9 h9 => q = none ∧ RET sh9 h9)
theorem K_X3_init {w : Wd} {sh : List Sh} {x0 : Nat} {h : Hp} {ms : Nat} {RET : List Sh → Hp → Prop} (hV : V_X3_init_0 w sh x0 h ms RET) : C_X3_init w sh x0 h ms RET :=
  Ct_of (by decide +kernel) (by simp [lg_sl, rv_cat, cat_int, cat_long]) (fun E X Tt hR hin => by
    rw [show lv_args 0 [rv w.2.2.2 x0] = [(0, rv w.2.2.2 x0)] from by simp [lv_args, rv_cat, cat_int, cat_long]]
    refine g_lv [0] rfl ?_
    exact W_X3_init_0 X Tt hR hin hV)
set_option maxRecDepth 20000 in
def V_X6_init_0 (w : Wd) (sh : List Sh) (x0 : Nat) (h : Hp) (ms : Nat)  (RET : List Sh → Hp → Prop) : Prop :=
  shAt sh x0 = some (.inr 6) ∧ (∃ n2 : Nat, (¬ (1024 : Int32) < 0 ∧ (1024 : Int32).toNatClampNeg = n2 ∧ n2 * 8 ≤ 536870912 ∧ (∀ k, h.1 (sh.length + 1) k = 0 ∧ h.2.2 (sh.length + 1) k = 0) ∧ 0 + n2 ≤ ms) ∧ (∀ (sh4 : List Sh) (r6 : Nat), sh4 = sh ++ [.inl (1, n2)] → r6 = sh.length + 1 → (shAt sh4 x0 = some (.inr 6) ∧ (∀ h9 : Hp, h9 = wR h x0 0 r6 → (∃ n11 : Nat, (¬ (1024 : Int32) < 0 ∧ (1024 : Int32).toNatClampNeg = n11 ∧ n11 * 8 ≤ 536870912 ∧ (∀ k, h9.1 (sh4.length + 1) k = 0 ∧ h9.2.2 (sh4.length + 1) k = 0) ∧ 0 + n2 + n11 ≤ ms) ∧ (∀ (sh13 : List Sh) (r15 : Nat), sh13 = sh4 ++ [.inl (1, n11)] → r15 = sh4.length + 1 → (shAt sh13 x0 = some (.inr 6) ∧ (∀ h18 : Hp, h18 = wR h9 x0 1 r15 → (∃ n20 : Nat, (¬ (1024 : Int32) < 0 ∧ (1024 : Int32).toNatClampNeg = n20 ∧ n20 * 8 ≤ 536870912 ∧ (∀ k, h18.1 (sh13.length + 1) k = 0 ∧ h18.2.2 (sh13.length + 1) k = 0) ∧ 0 + n2 + n11 + n20 ≤ ms) ∧ (∀ (sh22 : List Sh) (r24 : Nat), sh22 = sh13 ++ [.inl (1, n20)] → r24 = sh13.length + 1 → (shAt sh22 x0 = some (.inr 6) ∧ (∀ h27 : Hp, h27 = wR h18 x0 2 r24 → (0 + n2 + n11 + n20 = ms ∧ RET sh22 h27)))))))))))))
set_option maxRecDepth 20000 in
set_option maxHeartbeats 8000000 in
theorem W_X6_init_0 {w : Wd} {E : GE} {sh : List Sh} {x0 : Nat} {h : Hp} {ms n0 : Nat}  {RET : List Sh → Hp → Prop} (X : Cx w E cX6_init 1 RX6) (Tt : Rt w E none n0 3 ms (fun q sh9 h9 => q = none ∧ RET sh9 h9)) (hR : gR E = { frames := 1, cells := 3, slots := ms, locals := 20 }) (hin : (gme E).name = "<init>") (hV : V_X6_init_0 w sh x0 h ms RET) : G w E 1 0 [(0, rv w.2.2.2 x0)] [] sh h 0 0 := by
  unfold V_X6_init_0 at hV
  refine g_aload_n (pc := 0) X 0 rfl rfl dX6_init_0 ?_
  obtain ⟨q1, hV⟩ := hV
  refine g_objInit (pc := 1) X wo_X6_3 wo_inst wo_code q1 (by rw [hR]; exact ⟨Nat.le_of_ble_eq_true rfl, by simp [rv_cat, cat_int, cat_long]⟩) dX6_init_1 ?_
  refine g_aload_n (pc := 4) X 0 rfl rfl dX6_init_4 ?_
  refine g_sipush (pc := 5) (v := (1024 : Int32)) X dX6_init_5 (by decide) ?_
  obtain ⟨n2, q3, hV⟩ := hV
  refine g_newarr (pc := 8) (at_ := .int) X (Or.inr (Or.inl ⟨rfl, rfl⟩)) wa_1 q3.1 q3.2.1 q3.2.2.1 q3.2.2.2.1 (by rw [hR]; exact ⟨Nat.le_of_ble_eq_true rfl, q3.2.2.2.2⟩) dX6_init_8 ?_
  obtain ⟨sh4, e5⟩ : ∃ z, z = sh ++ [Sum.inl (1, n2)] := ⟨_, rfl⟩
  obtain ⟨r6, e7⟩ : ∃ z, z = sh.length + 1 := ⟨_, rfl⟩
  rw [← e5, ← e7]
  have hV := hV sh4 r6 e5 e7
  obtain ⟨q8, hV⟩ := hV
  refine g_putFR (pc := 10) X ff_X6_9 hin q8 rfl dX6_init_10 (fun h9 e10 => ?_)
  have hV := hV h9 e10
  refine g_aload_n (pc := 13) X 0 rfl rfl dX6_init_13 ?_
  refine g_sipush (pc := 14) (v := (1024 : Int32)) X dX6_init_14 (by decide) ?_
  obtain ⟨n11, q12, hV⟩ := hV
  refine g_newarr (pc := 17) (at_ := .int) X (Or.inr (Or.inl ⟨rfl, rfl⟩)) wa_1 q12.1 q12.2.1 q12.2.2.1 q12.2.2.2.1 (by rw [hR]; exact ⟨Nat.le_of_ble_eq_true rfl, q12.2.2.2.2⟩) dX6_init_17 ?_
  obtain ⟨sh13, e14⟩ : ∃ z, z = sh4 ++ [Sum.inl (1, n11)] := ⟨_, rfl⟩
  obtain ⟨r15, e16⟩ : ∃ z, z = sh4.length + 1 := ⟨_, rfl⟩
  rw [← e14, ← e16]
  have hV := hV sh13 r15 e14 e16
  obtain ⟨q17, hV⟩ := hV
  refine g_putFR (pc := 19) X ff_X6_15 hin q17 rfl dX6_init_19 (fun h18 e19 => ?_)
  have hV := hV h18 e19
  refine g_aload_n (pc := 22) X 0 rfl rfl dX6_init_22 ?_
  refine g_sipush (pc := 23) (v := (1024 : Int32)) X dX6_init_23 (by decide) ?_
  obtain ⟨n20, q21, hV⟩ := hV
  refine g_newarr (pc := 26) (at_ := .int) X (Or.inr (Or.inl ⟨rfl, rfl⟩)) wa_1 q21.1 q21.2.1 q21.2.2.1 q21.2.2.2.1 (by rw [hR]; exact ⟨Nat.le_of_ble_eq_true rfl, q21.2.2.2.2⟩) dX6_init_26 ?_
  obtain ⟨sh22, e23⟩ : ∃ z, z = sh13 ++ [Sum.inl (1, n20)] := ⟨_, rfl⟩
  obtain ⟨r24, e25⟩ : ∃ z, z = sh13.length + 1 := ⟨_, rfl⟩
  rw [← e23, ← e25]
  have hV := hV sh22 r24 e23 e25
  obtain ⟨q26, hV⟩ := hV
  refine g_putFR (pc := 28) X ff_X6_18 hin q26 rfl dX6_init_28 (fun h27 e28 => ?_)
  have hV := hV h27 e28
  rw [hV.1]
  exact g_vret (pc := 31) X Tt ⟨rfl, hV.2⟩ dX6_init_31
def C_X6_init (w : Wd) (sh : List Sh) (x0 : Nat) (h : Hp) (ms : Nat) (RET : List Sh → Hp → Prop) : Prop := Ct w yX6_init (.code yX6_init cX6_init 1 none) 1 20 3 ms [rv w.2.2.2 x0] sh h (fun q sh9 h9 => q = none ∧ RET sh9 h9)
theorem K_X6_init {w : Wd} {sh : List Sh} {x0 : Nat} {h : Hp} {ms : Nat} {RET : List Sh → Hp → Prop} (hV : V_X6_init_0 w sh x0 h ms RET) : C_X6_init w sh x0 h ms RET :=
  Ct_of (by decide +kernel) (by simp [lg_sl, rv_cat, cat_int, cat_long]) (fun E X Tt hR hin => by
    rw [show lv_args 0 [rv w.2.2.2 x0] = [(0, rv w.2.2.2 x0)] from by simp [lv_args, rv_cat, cat_int, cat_long]]
    refine g_lv [0] rfl ?_
    exact W_X6_init_0 X Tt hR hin hV)
set_option maxRecDepth 20000 in
def V_X1_init_0 (w : Wd) (sh : List Sh) (x0 : Nat) (h : Hp) (ms : Nat)  (RET : List Sh → Hp → Prop) : Prop :=
  shAt sh x0 = some (.inr 1) ∧ (∃ n2 : Nat, (¬ (256 : Int32) < 0 ∧ (256 : Int32).toNatClampNeg = n2 ∧ n2 * 8 ≤ 536870912 ∧ (∀ k, h.1 (sh.length + 1) k = 0 ∧ h.2.2 (sh.length + 1) k = 0) ∧ 0 + n2 ≤ ms) ∧ (∀ (sh4 : List Sh) (r6 : Nat), sh4 = sh ++ [.inl (1, n2)] → r6 = sh.length + 1 → (shAt sh4 x0 = some (.inr 1) ∧ (∀ h9 : Hp, h9 = wR h x0 0 r6 → (∃ n11 : Nat, (¬ (256 : Int32) < 0 ∧ (256 : Int32).toNatClampNeg = n11 ∧ n11 * 8 ≤ 536870912 ∧ (∀ k, h9.1 (sh4.length + 1) k = 0 ∧ h9.2.2 (sh4.length + 1) k = 0) ∧ 0 + n2 + n11 ≤ ms) ∧ (∀ (sh13 : List Sh) (r15 : Nat), sh13 = sh4 ++ [.inl (1, n11)] → r15 = sh4.length + 1 → (shAt sh13 x0 = some (.inr 1) ∧ (∀ h18 : Hp, h18 = wR h9 x0 1 r15 → (0 + n2 + n11 = ms ∧ RET sh13 h18)))))))))
set_option maxRecDepth 20000 in
set_option maxHeartbeats 8000000 in
theorem W_X1_init_0 {w : Wd} {E : GE} {sh : List Sh} {x0 : Nat} {h : Hp} {ms n0 : Nat}  {RET : List Sh → Hp → Prop} (X : Cx w E cX1_init 1 RX1) (Tt : Rt w E none n0 2 ms (fun q sh9 h9 => q = none ∧ RET sh9 h9)) (hR : gR E = { frames := 1, cells := 2, slots := ms, locals := 20 }) (hin : (gme E).name = "<init>") (hV : V_X1_init_0 w sh x0 h ms RET) : G w E 1 0 [(0, rv w.2.2.2 x0)] [] sh h 0 0 := by
  unfold V_X1_init_0 at hV
  refine g_aload_n (pc := 0) X 0 rfl rfl dX1_init_0 ?_
  obtain ⟨q1, hV⟩ := hV
  refine g_objInit (pc := 1) X wo_X1_3 wo_inst wo_code q1 (by rw [hR]; exact ⟨Nat.le_of_ble_eq_true rfl, by simp [rv_cat, cat_int, cat_long]⟩) dX1_init_1 ?_
  refine g_aload_n (pc := 4) X 0 rfl rfl dX1_init_4 ?_
  refine g_sipush (pc := 5) (v := (256 : Int32)) X dX1_init_5 (by decide) ?_
  obtain ⟨n2, q3, hV⟩ := hV
  refine g_newarr (pc := 8) (at_ := .int) X (Or.inr (Or.inl ⟨rfl, rfl⟩)) wa_1 q3.1 q3.2.1 q3.2.2.1 q3.2.2.2.1 (by rw [hR]; exact ⟨Nat.le_of_ble_eq_true rfl, q3.2.2.2.2⟩) dX1_init_8 ?_
  obtain ⟨sh4, e5⟩ : ∃ z, z = sh ++ [Sum.inl (1, n2)] := ⟨_, rfl⟩
  obtain ⟨r6, e7⟩ : ∃ z, z = sh.length + 1 := ⟨_, rfl⟩
  rw [← e5, ← e7]
  have hV := hV sh4 r6 e5 e7
  obtain ⟨q8, hV⟩ := hV
  refine g_putFR (pc := 10) X ff_X1_9 hin q8 rfl dX1_init_10 (fun h9 e10 => ?_)
  have hV := hV h9 e10
  refine g_aload_n (pc := 13) X 0 rfl rfl dX1_init_13 ?_
  refine g_sipush (pc := 14) (v := (256 : Int32)) X dX1_init_14 (by decide) ?_
  obtain ⟨n11, q12, hV⟩ := hV
  refine g_newarr (pc := 17) (at_ := .int) X (Or.inr (Or.inl ⟨rfl, rfl⟩)) wa_1 q12.1 q12.2.1 q12.2.2.1 q12.2.2.2.1 (by rw [hR]; exact ⟨Nat.le_of_ble_eq_true rfl, q12.2.2.2.2⟩) dX1_init_17 ?_
  obtain ⟨sh13, e14⟩ : ∃ z, z = sh4 ++ [Sum.inl (1, n11)] := ⟨_, rfl⟩
  obtain ⟨r15, e16⟩ : ∃ z, z = sh4.length + 1 := ⟨_, rfl⟩
  rw [← e14, ← e16]
  have hV := hV sh13 r15 e14 e16
  obtain ⟨q17, hV⟩ := hV
  refine g_putFR (pc := 19) X ff_X1_15 hin q17 rfl dX1_init_19 (fun h18 e19 => ?_)
  have hV := hV h18 e19
  rw [hV.1]
  exact g_vret (pc := 22) X Tt ⟨rfl, hV.2⟩ dX1_init_22
def C_X1_init (w : Wd) (sh : List Sh) (x0 : Nat) (h : Hp) (ms : Nat) (RET : List Sh → Hp → Prop) : Prop := Ct w yX1_init (.code yX1_init cX1_init 1 none) 1 20 2 ms [rv w.2.2.2 x0] sh h (fun q sh9 h9 => q = none ∧ RET sh9 h9)
theorem K_X1_init {w : Wd} {sh : List Sh} {x0 : Nat} {h : Hp} {ms : Nat} {RET : List Sh → Hp → Prop} (hV : V_X1_init_0 w sh x0 h ms RET) : C_X1_init w sh x0 h ms RET :=
  Ct_of (by decide +kernel) (by simp [lg_sl, rv_cat, cat_int, cat_long]) (fun E X Tt hR hin => by
    rw [show lv_args 0 [rv w.2.2.2 x0] = [(0, rv w.2.2.2 x0)] from by simp [lv_args, rv_cat, cat_int, cat_long]]
    refine g_lv [0] rfl ?_
    exact W_X1_init_0 X Tt hR hin hV)
set_option maxRecDepth 20000 in
def V_X5_init_0 (w : Wd) (sh : List Sh) (x0 : Nat) (h : Hp) (ms : Nat)  (RET : List Sh → Hp → Prop) : Prop :=
  shAt sh x0 = some (.inr 5) ∧ (((∀ k, h.1 (sh.length + 1) k = 0 ∧ h.2.1 (sh.length + 1) k = 0) ∧ 0 + 6 ≤ ms) ∧ (∀ (sh3 : List Sh) (r5 : Nat), sh3 = sh ++ [.inr 3] → r5 = sh.length + 1 → (shAt sh3 r5 = some (.inr 3) ∧ (∃ (m9 : Nat) (P8 : List Sh → Hp → Prop), C_X3_init w sh3 r5 h m9 P8 ∧ 0 + 6 + m9 ≤ ms ∧ (∀ (sh11 : List Sh) (h12 : Hp), P8 sh11 h12 → (shAt sh11 x0 = some (.inr 5) ∧ (∀ h16 : Hp, h16 = wR h12 x0 0 r5 → (((∀ k, h16.1 (sh11.length + 1) k = 0 ∧ h16.2.1 (sh11.length + 1) k = 0) ∧ 0 + 6 + m9 + 4 ≤ ms) ∧ (∀ (sh19 : List Sh) (r21 : Nat), sh19 = sh11 ++ [.inr 6] → r21 = sh11.length + 1 → (shAt sh19 r21 = some (.inr 6) ∧ (∃ (m25 : Nat) (P24 : List Sh → Hp → Prop), C_X6_init w sh19 r21 h16 m25 P24 ∧ 0 + 6 + m9 + 4 + m25 ≤ ms ∧ (∀ (sh27 : List Sh) (h28 : Hp), P24 sh27 h28 → (shAt sh27 x0 = some (.inr 5) ∧ (∀ h32 : Hp, h32 = wR h28 x0 1 r21 → (((∀ k, h32.1 (sh27.length + 1) k = 0 ∧ h32.2.1 (sh27.length + 1) k = 0) ∧ 0 + 6 + m9 + 4 + m25 + 2 ≤ ms) ∧ (∀ (sh35 : List Sh) (r37 : Nat), sh35 = sh27 ++ [.inr 1] → r37 = sh27.length + 1 → (shAt sh35 r37 = some (.inr 1) ∧ (∃ (m41 : Nat) (P40 : List Sh → Hp → Prop), C_X1_init w sh35 r37 h32 m41 P40 ∧ 0 + 6 + m9 + 4 + m25 + 2 + m41 ≤ ms ∧ (∀ (sh43 : List Sh) (h44 : Hp), P40 sh43 h44 → (shAt sh43 x0 = some (.inr 5) ∧ (∀ h48 : Hp, h48 = wR h44 x0 2 r37 → (((∀ k, h48.1 (sh43.length + 1) k = 0 ∧ h48.2.1 (sh43.length + 1) k = 0) ∧ 0 + 6 + m9 + 4 + m25 + 2 + m41 + 5 ≤ ms) ∧ (∀ (sh51 : List Sh) (r53 : Nat), sh51 = sh43 ++ [.inr 0] → r53 = sh43.length + 1 → (shAt sh51 r53 = some (.inr 0) ∧ (∃ (m57 : Nat) (P56 : List Sh → Hp → Prop), C_X0_init w sh51 r53 (32 : Int32) (16 : Int32) h48 m57 P56 ∧ 0 + 6 + m9 + 4 + m25 + 2 + m41 + 5 + m57 ≤ ms ∧ (∀ (sh59 : List Sh) (h60 : Hp), P56 sh59 h60 → (shAt sh59 x0 = some (.inr 5) ∧ (∀ h64 : Hp, h64 = wR h60 x0 3 r53 → (((∀ k, h64.1 (sh59.length + 1) k = 0 ∧ h64.2.1 (sh59.length + 1) k = 0) ∧ 0 + 6 + m9 + 4 + m25 + 2 + m41 + 5 + m57 + 3 ≤ ms) ∧ (∀ (sh67 : List Sh) (r69 : Nat), sh67 = sh59 ++ [.inr 8] → r69 = sh59.length + 1 → (shAt sh67 r69 = some (.inr 8) ∧ (∃ (m73 : Nat) (P72 : List Sh → Hp → Prop), C_X8_init w sh67 r69 (2048 : Int32) h64 m73 P72 ∧ 0 + 6 + m9 + 4 + m25 + 2 + m41 + 5 + m57 + 3 + m73 ≤ ms ∧ (∀ (sh75 : List Sh) (h76 : Hp), P72 sh75 h76 → (shAt sh75 x0 = some (.inr 5) ∧ (∀ h80 : Hp, h80 = wR h76 x0 4 r69 → (((∀ k, h80.1 (sh75.length + 1) k = 0 ∧ h80.2.1 (sh75.length + 1) k = 0) ∧ 0 + 6 + m9 + 4 + m25 + 2 + m41 + 5 + m57 + 3 + m73 + 3 ≤ ms) ∧ (∀ (sh83 : List Sh) (r85 : Nat), sh83 = sh75 ++ [.inr 8] → r85 = sh75.length + 1 → (shAt sh83 r85 = some (.inr 8) ∧ (∃ (m89 : Nat) (P88 : List Sh → Hp → Prop), C_X8_init w sh83 r85 (3072 : Int32) h80 m89 P88 ∧ 0 + 6 + m9 + 4 + m25 + 2 + m41 + 5 + m57 + 3 + m73 + 3 + m89 ≤ ms ∧ (∀ (sh91 : List Sh) (h92 : Hp), P88 sh91 h92 → (shAt sh91 x0 = some (.inr 5) ∧ (∀ h96 : Hp, h96 = wR h92 x0 5 r85 → (((∀ k, h96.1 (sh91.length + 1) k = 0 ∧ h96.2.1 (sh91.length + 1) k = 0) ∧ 0 + 6 + m9 + 4 + m25 + 2 + m41 + 5 + m57 + 3 + m73 + 3 + m89 + 3 ≤ ms) ∧ (∀ (sh99 : List Sh) (r101 : Nat), sh99 = sh91 ++ [.inr 8] → r101 = sh91.length + 1 → (shAt sh99 r101 = some (.inr 8) ∧ (∃ (m105 : Nat) (P104 : List Sh → Hp → Prop), C_X8_init w sh99 r101 (2048 : Int32) h96 m105 P104 ∧ 0 + 6 + m9 + 4 + m25 + 2 + m41 + 5 + m57 + 3 + m73 + 3 + m89 + 3 + m105 ≤ ms ∧ (∀ (sh107 : List Sh) (h108 : Hp), P104 sh107 h108 → (shAt sh107 x0 = some (.inr 5) ∧ (∀ h112 : Hp, h112 = wR h108 x0 6 r101 → (0 + 6 + m9 + 4 + m25 + 2 + m41 + 5 + m57 + 3 + m73 + 3 + m89 + 3 + m105 = ms ∧ RET sh107 h112))))))))))))))))))))))))))))))))))))))))))))))))))
set_option maxRecDepth 20000 in
set_option maxHeartbeats 8000000 in
theorem W_X5_init_0 {w : Wd} {E : GE} {sh : List Sh} {x0 : Nat} {h : Hp} {ms n0 : Nat}  {RET : List Sh → Hp → Prop} (X : Cx w E cX5_init 1 RX5) (Tt : Rt w E none n0 21 ms (fun q sh9 h9 => q = none ∧ RET sh9 h9)) (hR : gR E = { frames := 3, cells := 21, slots := ms, locals := 62 }) (hin : (gme E).name = "<init>") (hV : V_X5_init_0 w sh x0 h ms RET) : G w E 1 0 [(0, rv w.2.2.2 x0)] [] sh h 0 0 := by
  unfold V_X5_init_0 at hV
  refine g_aload_n (pc := 0) X 0 rfl rfl dX5_init_0 ?_
  obtain ⟨q1, hV⟩ := hV
  refine g_objInit (pc := 1) X wo_X5_3 wo_inst wo_code q1 (by rw [hR]; exact ⟨Nat.le_of_ble_eq_true rfl, by simp [rv_cat, cat_int, cat_long]⟩) dX5_init_1 ?_
  refine g_aload_n (pc := 4) X 0 rfl rfl dX5_init_4 ?_
  obtain ⟨q2, hV⟩ := hV
  refine g_new (pc := 5) X cl_X5_9 q2.1 (by rw [hR]; exact ⟨Nat.le_of_ble_eq_true rfl, q2.2⟩) dX5_init_5 ?_
  obtain ⟨sh3, e4⟩ : ∃ z, z = sh ++ [Sum.inr 3] := ⟨_, rfl⟩
  obtain ⟨r5, e6⟩ : ∃ z, z = sh.length + 1 := ⟨_, rfl⟩
  rw [← e4, ← e6]
  have hV := hV sh3 r5 e4 e6
  refine g_dup (pc := 8) X dX5_init_8 (rv_cat _ _) ?_
  obtain ⟨q7, hV⟩ := hV
  obtain ⟨m9, P8, t10, q14, hV⟩ := hV
  refine g_invI (pc := 9) X (As := []) ml_X5_11 q7 t10 (by rw [hR]; exact ⟨Nat.le_of_ble_eq_true rfl, Nat.le_of_ble_eq_true rfl, Nat.le_of_ble_eq_true rfl, q14⟩) rfl rfl (by simp [rv_cat, cat_int, cat_long]) dX5_init_9 ?_
  intro qq9 sh11 h12 p13
  obtain ⟨rfl, p13⟩ := p13
  have hV := hV sh11 h12 p13
  refine g_eq (pc2 := 12) (st2 := [rv w.2.2.2 r5, rv w.2.2.2 x0]) rfl rfl ?_
  obtain ⟨q15, hV⟩ := hV
  refine g_putFR (pc := 12) X ff_X5_12 hin q15 rfl dX5_init_12 (fun h16 e17 => ?_)
  have hV := hV h16 e17
  refine g_aload_n (pc := 15) X 0 rfl rfl dX5_init_15 ?_
  obtain ⟨q18, hV⟩ := hV
  refine g_new (pc := 16) X cl_X5_18 q18.1 (by rw [hR]; exact ⟨Nat.le_of_ble_eq_true rfl, q18.2⟩) dX5_init_16 ?_
  obtain ⟨sh19, e20⟩ : ∃ z, z = sh11 ++ [Sum.inr 6] := ⟨_, rfl⟩
  obtain ⟨r21, e22⟩ : ∃ z, z = sh11.length + 1 := ⟨_, rfl⟩
  rw [← e20, ← e22]
  have hV := hV sh19 r21 e20 e22
  refine g_dup (pc := 19) X dX5_init_19 (rv_cat _ _) ?_
  obtain ⟨q23, hV⟩ := hV
  obtain ⟨m25, P24, t26, q30, hV⟩ := hV
  refine g_invI (pc := 20) X (As := []) ml_X5_20 q23 t26 (by rw [hR]; exact ⟨Nat.le_of_ble_eq_true rfl, Nat.le_of_ble_eq_true rfl, Nat.le_of_ble_eq_true rfl, q30⟩) rfl rfl (by simp [rv_cat, cat_int, cat_long]) dX5_init_20 ?_
  intro qq9 sh27 h28 p29
  obtain ⟨rfl, p29⟩ := p29
  have hV := hV sh27 h28 p29
  refine g_eq (pc2 := 23) (st2 := [rv w.2.2.2 r21, rv w.2.2.2 x0]) rfl rfl ?_
  obtain ⟨q31, hV⟩ := hV
  refine g_putFR (pc := 23) X ff_X5_21 hin q31 rfl dX5_init_23 (fun h32 e33 => ?_)
  have hV := hV h32 e33
  refine g_aload_n (pc := 26) X 0 rfl rfl dX5_init_26 ?_
  obtain ⟨q34, hV⟩ := hV
  refine g_new (pc := 27) X cl_X5_25 q34.1 (by rw [hR]; exact ⟨Nat.le_of_ble_eq_true rfl, q34.2⟩) dX5_init_27 ?_
  obtain ⟨sh35, e36⟩ : ∃ z, z = sh27 ++ [Sum.inr 1] := ⟨_, rfl⟩
  obtain ⟨r37, e38⟩ : ∃ z, z = sh27.length + 1 := ⟨_, rfl⟩
  rw [← e36, ← e38]
  have hV := hV sh35 r37 e36 e38
  refine g_dup (pc := 30) X dX5_init_30 (rv_cat _ _) ?_
  obtain ⟨q39, hV⟩ := hV
  obtain ⟨m41, P40, t42, q46, hV⟩ := hV
  refine g_invI (pc := 31) X (As := []) ml_X5_27 q39 t42 (by rw [hR]; exact ⟨Nat.le_of_ble_eq_true rfl, Nat.le_of_ble_eq_true rfl, Nat.le_of_ble_eq_true rfl, q46⟩) rfl rfl (by simp [rv_cat, cat_int, cat_long]) dX5_init_31 ?_
  intro qq9 sh43 h44 p45
  obtain ⟨rfl, p45⟩ := p45
  have hV := hV sh43 h44 p45
  refine g_eq (pc2 := 34) (st2 := [rv w.2.2.2 r37, rv w.2.2.2 x0]) rfl rfl ?_
  obtain ⟨q47, hV⟩ := hV
  refine g_putFR (pc := 34) X ff_X5_28 hin q47 rfl dX5_init_34 (fun h48 e49 => ?_)
  have hV := hV h48 e49
  refine g_aload_n (pc := 37) X 0 rfl rfl dX5_init_37 ?_
  obtain ⟨q50, hV⟩ := hV
  refine g_new (pc := 38) X cl_X5_32 q50.1 (by rw [hR]; exact ⟨Nat.le_of_ble_eq_true rfl, q50.2⟩) dX5_init_38 ?_
  obtain ⟨sh51, e52⟩ : ∃ z, z = sh43 ++ [Sum.inr 0] := ⟨_, rfl⟩
  obtain ⟨r53, e54⟩ : ∃ z, z = sh43.length + 1 := ⟨_, rfl⟩
  rw [← e52, ← e54]
  have hV := hV sh51 r53 e52 e54
  refine g_dup (pc := 41) X dX5_init_41 (rv_cat _ _) ?_
  refine g_bipush (pc := 42) (v := (32 : Int32)) X dX5_init_42 (by decide) ?_
  refine g_bipush (pc := 44) (v := (16 : Int32)) X dX5_init_44 (by decide) ?_
  obtain ⟨q55, hV⟩ := hV
  obtain ⟨m57, P56, t58, q62, hV⟩ := hV
  refine g_invI (pc := 46) X (As := [Value.int (32 : Int32), Value.int (16 : Int32)]) ml_X5_34 q55 t58 (by rw [hR]; exact ⟨Nat.le_of_ble_eq_true rfl, Nat.le_of_ble_eq_true rfl, Nat.le_of_ble_eq_true rfl, q62⟩) rfl rfl (by simp [rv_cat, cat_int, cat_long]) dX5_init_46 ?_
  intro qq9 sh59 h60 p61
  obtain ⟨rfl, p61⟩ := p61
  have hV := hV sh59 h60 p61
  refine g_eq (pc2 := 49) (st2 := [rv w.2.2.2 r53, rv w.2.2.2 x0]) rfl rfl ?_
  obtain ⟨q63, hV⟩ := hV
  refine g_putFR (pc := 49) X ff_X5_37 hin q63 rfl dX5_init_49 (fun h64 e65 => ?_)
  have hV := hV h64 e65
  refine g_aload_n (pc := 52) X 0 rfl rfl dX5_init_52 ?_
  obtain ⟨q66, hV⟩ := hV
  refine g_new (pc := 53) X cl_X5_41 q66.1 (by rw [hR]; exact ⟨Nat.le_of_ble_eq_true rfl, q66.2⟩) dX5_init_53 ?_
  obtain ⟨sh67, e68⟩ : ∃ z, z = sh59 ++ [Sum.inr 8] := ⟨_, rfl⟩
  obtain ⟨r69, e70⟩ : ∃ z, z = sh59.length + 1 := ⟨_, rfl⟩
  rw [← e68, ← e70]
  have hV := hV sh67 r69 e68 e70
  refine g_dup (pc := 56) X dX5_init_56 (rv_cat _ _) ?_
  refine g_sipush (pc := 57) (v := (2048 : Int32)) X dX5_init_57 (by decide) ?_
  obtain ⟨q71, hV⟩ := hV
  obtain ⟨m73, P72, t74, q78, hV⟩ := hV
  refine g_invI (pc := 60) X (As := [Value.int (2048 : Int32)]) ml_X5_43 q71 t74 (by rw [hR]; exact ⟨Nat.le_of_ble_eq_true rfl, Nat.le_of_ble_eq_true rfl, Nat.le_of_ble_eq_true rfl, q78⟩) rfl rfl (by simp [rv_cat, cat_int, cat_long]) dX5_init_60 ?_
  intro qq9 sh75 h76 p77
  obtain ⟨rfl, p77⟩ := p77
  have hV := hV sh75 h76 p77
  refine g_eq (pc2 := 63) (st2 := [rv w.2.2.2 r69, rv w.2.2.2 x0]) rfl rfl ?_
  obtain ⟨q79, hV⟩ := hV
  refine g_putFR (pc := 63) X ff_X5_46 hin q79 rfl dX5_init_63 (fun h80 e81 => ?_)
  have hV := hV h80 e81
  refine g_aload_n (pc := 66) X 0 rfl rfl dX5_init_66 ?_
  obtain ⟨q82, hV⟩ := hV
  refine g_new (pc := 67) X cl_X5_41 q82.1 (by rw [hR]; exact ⟨Nat.le_of_ble_eq_true rfl, q82.2⟩) dX5_init_67 ?_
  obtain ⟨sh83, e84⟩ : ∃ z, z = sh75 ++ [Sum.inr 8] := ⟨_, rfl⟩
  obtain ⟨r85, e86⟩ : ∃ z, z = sh75.length + 1 := ⟨_, rfl⟩
  rw [← e84, ← e86]
  have hV := hV sh83 r85 e84 e86
  refine g_dup (pc := 70) X dX5_init_70 (rv_cat _ _) ?_
  refine g_sipush (pc := 71) (v := (3072 : Int32)) X dX5_init_71 (by decide) ?_
  obtain ⟨q87, hV⟩ := hV
  obtain ⟨m89, P88, t90, q94, hV⟩ := hV
  refine g_invI (pc := 74) X (As := [Value.int (3072 : Int32)]) ml_X5_43 q87 t90 (by rw [hR]; exact ⟨Nat.le_of_ble_eq_true rfl, Nat.le_of_ble_eq_true rfl, Nat.le_of_ble_eq_true rfl, q94⟩) rfl rfl (by simp [rv_cat, cat_int, cat_long]) dX5_init_74 ?_
  intro qq9 sh91 h92 p93
  obtain ⟨rfl, p93⟩ := p93
  have hV := hV sh91 h92 p93
  refine g_eq (pc2 := 77) (st2 := [rv w.2.2.2 r85, rv w.2.2.2 x0]) rfl rfl ?_
  obtain ⟨q95, hV⟩ := hV
  refine g_putFR (pc := 77) X ff_X5_50 hin q95 rfl dX5_init_77 (fun h96 e97 => ?_)
  have hV := hV h96 e97
  refine g_aload_n (pc := 80) X 0 rfl rfl dX5_init_80 ?_
  obtain ⟨q98, hV⟩ := hV
  refine g_new (pc := 81) X cl_X5_41 q98.1 (by rw [hR]; exact ⟨Nat.le_of_ble_eq_true rfl, q98.2⟩) dX5_init_81 ?_
  obtain ⟨sh99, e100⟩ : ∃ z, z = sh91 ++ [Sum.inr 8] := ⟨_, rfl⟩
  obtain ⟨r101, e102⟩ : ∃ z, z = sh91.length + 1 := ⟨_, rfl⟩
  rw [← e100, ← e102]
  have hV := hV sh99 r101 e100 e102
  refine g_dup (pc := 84) X dX5_init_84 (rv_cat _ _) ?_
  refine g_sipush (pc := 85) (v := (2048 : Int32)) X dX5_init_85 (by decide) ?_
  obtain ⟨q103, hV⟩ := hV
  obtain ⟨m105, P104, t106, q110, hV⟩ := hV
  refine g_invI (pc := 88) X (As := [Value.int (2048 : Int32)]) ml_X5_43 q103 t106 (by rw [hR]; exact ⟨Nat.le_of_ble_eq_true rfl, Nat.le_of_ble_eq_true rfl, Nat.le_of_ble_eq_true rfl, q110⟩) rfl rfl (by simp [rv_cat, cat_int, cat_long]) dX5_init_88 ?_
  intro qq9 sh107 h108 p109
  obtain ⟨rfl, p109⟩ := p109
  have hV := hV sh107 h108 p109
  refine g_eq (pc2 := 91) (st2 := [rv w.2.2.2 r101, rv w.2.2.2 x0]) rfl rfl ?_
  obtain ⟨q111, hV⟩ := hV
  refine g_putFR (pc := 91) X ff_X5_53 hin q111 rfl dX5_init_91 (fun h112 e113 => ?_)
  have hV := hV h112 e113
  rw [hV.1]
  exact g_vret (pc := 94) X Tt ⟨rfl, hV.2⟩ dX5_init_94
def C_X5_init (w : Wd) (sh : List Sh) (x0 : Nat) (h : Hp) (ms : Nat) (RET : List Sh → Hp → Prop) : Prop := Ct w yX5_init (.code yX5_init cX5_init 1 none) 3 62 21 ms [rv w.2.2.2 x0] sh h (fun q sh9 h9 => q = none ∧ RET sh9 h9)
theorem K_X5_init {w : Wd} {sh : List Sh} {x0 : Nat} {h : Hp} {ms : Nat} {RET : List Sh → Hp → Prop} (hV : V_X5_init_0 w sh x0 h ms RET) : C_X5_init w sh x0 h ms RET :=
  Ct_of (by decide +kernel) (by simp [lg_sl, rv_cat, cat_int, cat_long]) (fun E X Tt hR hin => by
    rw [show lv_args 0 [rv w.2.2.2 x0] = [(0, rv w.2.2.2 x0)] from by simp [lv_args, rv_cat, cat_int, cat_long]]
    refine g_lv [0] rfl ?_
    exact W_X5_init_0 X Tt hR hin hV)
set_option maxRecDepth 20000 in
def V_X2_init_0 (w : Wd) (sh : List Sh) (x0 : Nat) (h : Hp) (ms : Nat)  (RET : List Sh → Hp → Prop) : Prop :=
  shAt sh x0 = some (.inr 2) ∧ (((∀ k, h.1 (sh.length + 1) k = 0 ∧ h.2.1 (sh.length + 1) k = 0) ∧ 0 + 3 ≤ ms) ∧ (∀ (sh3 : List Sh) (r5 : Nat), sh3 = sh ++ [.inr 8] → r5 = sh.length + 1 → (shAt sh3 r5 = some (.inr 8) ∧ (∃ (m9 : Nat) (P8 : List Sh → Hp → Prop), C_X8_init w sh3 r5 (0 : Int32) h m9 P8 ∧ 0 + 3 + m9 ≤ ms ∧ (∀ (sh11 : List Sh) (h12 : Hp), P8 sh11 h12 → (shAt sh11 x0 = some (.inr 2) ∧ (∀ h16 : Hp, h16 = wR h12 x0 0 r5 → (0 + 3 + m9 = ms ∧ RET sh11 h16))))))))
set_option maxRecDepth 20000 in
set_option maxHeartbeats 8000000 in
theorem W_X2_init_0 {w : Wd} {E : GE} {sh : List Sh} {x0 : Nat} {h : Hp} {ms n0 : Nat}  {RET : List Sh → Hp → Prop} (X : Cx w E cX2_init 1 RX2) (Tt : Rt w E none n0 2 ms (fun q sh9 h9 => q = none ∧ RET sh9 h9)) (hR : gR E = { frames := 2, cells := 2, slots := ms, locals := 42 }) (hin : (gme E).name = "<init>") (hV : V_X2_init_0 w sh x0 h ms RET) : G w E 1 0 [(0, rv w.2.2.2 x0)] [] sh h 0 0 := by
  unfold V_X2_init_0 at hV
  refine g_aload_n (pc := 0) X 0 rfl rfl dX2_init_0 ?_
  obtain ⟨q1, hV⟩ := hV
  refine g_objInit (pc := 1) X wo_X2_3 wo_inst wo_code q1 (by rw [hR]; exact ⟨Nat.le_of_ble_eq_true rfl, by simp [rv_cat, cat_int, cat_long]⟩) dX2_init_1 ?_
  refine g_aload_n (pc := 4) X 0 rfl rfl dX2_init_4 ?_
  obtain ⟨q2, hV⟩ := hV
  refine g_new (pc := 5) X cl_X2_9 q2.1 (by rw [hR]; exact ⟨Nat.le_of_ble_eq_true rfl, q2.2⟩) dX2_init_5 ?_
  obtain ⟨sh3, e4⟩ : ∃ z, z = sh ++ [Sum.inr 8] := ⟨_, rfl⟩
  obtain ⟨r5, e6⟩ : ∃ z, z = sh.length + 1 := ⟨_, rfl⟩
  rw [← e4, ← e6]
  have hV := hV sh3 r5 e4 e6
  refine g_dup (pc := 8) X dX2_init_8 (rv_cat _ _) ?_
  refine g_iconst (pc := 9) (v := (0 : Int32)) X dX2_init_9 (by decide) ?_
  obtain ⟨q7, hV⟩ := hV
  obtain ⟨m9, P8, t10, q14, hV⟩ := hV
  refine g_invI (pc := 10) X (As := [Value.int (0 : Int32)]) ml_X2_11 q7 t10 (by rw [hR]; exact ⟨Nat.le_of_ble_eq_true rfl, Nat.le_of_ble_eq_true rfl, Nat.le_of_ble_eq_true rfl, q14⟩) rfl rfl (by simp [rv_cat, cat_int, cat_long]) dX2_init_10 ?_
  intro qq9 sh11 h12 p13
  obtain ⟨rfl, p13⟩ := p13
  have hV := hV sh11 h12 p13
  refine g_eq (pc2 := 13) (st2 := [rv w.2.2.2 r5, rv w.2.2.2 x0]) rfl rfl ?_
  obtain ⟨q15, hV⟩ := hV
  refine g_putR (pc := 13) X fl_X2_14 q15 rfl dX2_init_13 (fun h16 e17 => ?_)
  have hV := hV h16 e17
  rw [hV.1]
  exact g_vret (pc := 16) X Tt ⟨rfl, hV.2⟩ dX2_init_16
def C_X2_init (w : Wd) (sh : List Sh) (x0 : Nat) (h : Hp) (ms : Nat) (RET : List Sh → Hp → Prop) : Prop := Ct w yX2_init (.code yX2_init cX2_init 1 none) 2 42 2 ms [rv w.2.2.2 x0] sh h (fun q sh9 h9 => q = none ∧ RET sh9 h9)
theorem K_X2_init {w : Wd} {sh : List Sh} {x0 : Nat} {h : Hp} {ms : Nat} {RET : List Sh → Hp → Prop} (hV : V_X2_init_0 w sh x0 h ms RET) : C_X2_init w sh x0 h ms RET :=
  Ct_of (by decide +kernel) (by simp [lg_sl, rv_cat, cat_int, cat_long]) (fun E X Tt hR hin => by
    rw [show lv_args 0 [rv w.2.2.2 x0] = [(0, rv w.2.2.2 x0)] from by simp [lv_args, rv_cat, cat_int, cat_long]]
    refine g_lv [0] rfl ?_
    exact W_X2_init_0 X Tt hR hin hV)
set_option maxRecDepth 20000 in
def V_X9_init_0 (w : Wd) (sh : List Sh) (x0 : Nat) (h : Hp) (ms : Nat)  (RET : List Sh → Hp → Prop) : Prop :=
  shAt sh x0 = some (.inr 9) ∧ (((∀ k, h.1 (sh.length + 1) k = 0 ∧ h.2.1 (sh.length + 1) k = 0) ∧ 0 + 3 ≤ ms) ∧ (∀ (sh3 : List Sh) (r5 : Nat), sh3 = sh ++ [.inr 8] → r5 = sh.length + 1 → (shAt sh3 r5 = some (.inr 8) ∧ (∃ (m9 : Nat) (P8 : List Sh → Hp → Prop), C_X8_init w sh3 r5 (0 : Int32) h m9 P8 ∧ 0 + 3 + m9 ≤ ms ∧ (∀ (sh11 : List Sh) (h12 : Hp), P8 sh11 h12 → (shAt sh11 x0 = some (.inr 9) ∧ (∀ h16 : Hp, h16 = wR h12 x0 0 r5 → (∀ h18 : Hp, h18 = wR h16 x0 3 (h16.2.1 x0 0) → (0 + 3 + m9 = ms ∧ RET sh11 h18)))))))))
set_option maxRecDepth 20000 in
set_option maxHeartbeats 8000000 in
theorem W_X9_init_0 {w : Wd} {E : GE} {sh : List Sh} {x0 : Nat} {h : Hp} {ms n0 : Nat}  {RET : List Sh → Hp → Prop} (X : Cx w E cX9_init 1 RX9) (Tt : Rt w E none n0 2 ms (fun q sh9 h9 => q = none ∧ RET sh9 h9)) (hR : gR E = { frames := 2, cells := 2, slots := ms, locals := 42 }) (hin : (gme E).name = "<init>") (hV : V_X9_init_0 w sh x0 h ms RET) : G w E 1 0 [(0, rv w.2.2.2 x0)] [] sh h 0 0 := by
  unfold V_X9_init_0 at hV
  refine g_aload_n (pc := 0) X 0 rfl rfl dX9_init_0 ?_
  obtain ⟨q1, hV⟩ := hV
  refine g_objInit (pc := 1) X wo_X9_1 wo_inst wo_code q1 (by rw [hR]; exact ⟨Nat.le_of_ble_eq_true rfl, by simp [rv_cat, cat_int, cat_long]⟩) dX9_init_1 ?_
  refine g_aload_n (pc := 4) X 0 rfl rfl dX9_init_4 ?_
  obtain ⟨q2, hV⟩ := hV
  refine g_new (pc := 5) X cl_X9_7 q2.1 (by rw [hR]; exact ⟨Nat.le_of_ble_eq_true rfl, q2.2⟩) dX9_init_5 ?_
  obtain ⟨sh3, e4⟩ : ∃ z, z = sh ++ [Sum.inr 8] := ⟨_, rfl⟩
  obtain ⟨r5, e6⟩ : ∃ z, z = sh.length + 1 := ⟨_, rfl⟩
  rw [← e4, ← e6]
  have hV := hV sh3 r5 e4 e6
  refine g_dup (pc := 8) X dX9_init_8 (rv_cat _ _) ?_
  refine g_iconst (pc := 9) (v := (0 : Int32)) X dX9_init_9 (by decide) ?_
  obtain ⟨q7, hV⟩ := hV
  obtain ⟨m9, P8, t10, q14, hV⟩ := hV
  refine g_invI (pc := 10) X (As := [Value.int (0 : Int32)]) ml_X9_9 q7 t10 (by rw [hR]; exact ⟨Nat.le_of_ble_eq_true rfl, Nat.le_of_ble_eq_true rfl, Nat.le_of_ble_eq_true rfl, q14⟩) rfl rfl (by simp [rv_cat, cat_int, cat_long]) dX9_init_10 ?_
  intro qq9 sh11 h12 p13
  obtain ⟨rfl, p13⟩ := p13
  have hV := hV sh11 h12 p13
  refine g_eq (pc2 := 13) (st2 := [rv w.2.2.2 r5, rv w.2.2.2 x0]) rfl rfl ?_
  obtain ⟨q15, hV⟩ := hV
  refine g_putR (pc := 13) X fl_X9_12 q15 rfl dX9_init_13 (fun h16 e17 => ?_)
  have hV := hV h16 e17
  refine g_aload_n (pc := 16) X 0 rfl rfl dX9_init_16 ?_
  refine g_aload_n (pc := 17) X 0 rfl rfl dX9_init_17 ?_
  refine g_getR (pc := 18) X fl_X9_12 q15 dX9_init_18 ?_
  refine g_putR (pc := 21) X fl_X9_18 q15 rfl dX9_init_21 (fun h18 e19 => ?_)
  have hV := hV h18 e19
  rw [hV.1]
  exact g_vret (pc := 24) X Tt ⟨rfl, hV.2⟩ dX9_init_24
def C_X9_init (w : Wd) (sh : List Sh) (x0 : Nat) (h : Hp) (ms : Nat) (RET : List Sh → Hp → Prop) : Prop := Ct w yX9_init (.code yX9_init cX9_init 1 none) 2 42 2 ms [rv w.2.2.2 x0] sh h (fun q sh9 h9 => q = none ∧ RET sh9 h9)
theorem K_X9_init {w : Wd} {sh : List Sh} {x0 : Nat} {h : Hp} {ms : Nat} {RET : List Sh → Hp → Prop} (hV : V_X9_init_0 w sh x0 h ms RET) : C_X9_init w sh x0 h ms RET :=
  Ct_of (by decide +kernel) (by simp [lg_sl, rv_cat, cat_int, cat_long]) (fun E X Tt hR hin => by
    rw [show lv_args 0 [rv w.2.2.2 x0] = [(0, rv w.2.2.2 x0)] from by simp [lv_args, rv_cat, cat_int, cat_long]]
    refine g_lv [0] rfl ?_
    exact W_X9_init_0 X Tt hR hin hV)
set_option maxRecDepth 20000 in
def V_X7_init_0 (w : Wd) (sh : List Sh) (x0 : Nat) (x1 : Nat) (x2 : Nat) (x3 : Nat) (x4 : Int32) (h : Hp) (ms : Nat)  (RET : List Sh → Hp → Prop) : Prop :=
  shAt sh x0 = some (.inr 7) ∧ (((∀ k, h.1 (sh.length + 1) k = 0 ∧ h.2.1 (sh.length + 1) k = 0) ∧ 0 + 3 ≤ ms) ∧ (∀ (sh3 : List Sh) (r5 : Nat), sh3 = sh ++ [.inr 2] → r5 = sh.length + 1 → (shAt sh3 r5 = some (.inr 2) ∧ (∃ (m9 : Nat) (P8 : List Sh → Hp → Prop), C_X2_init w sh3 r5 h m9 P8 ∧ 0 + 3 + m9 ≤ ms ∧ (∀ (sh11 : List Sh) (h12 : Hp), P8 sh11 h12 → (shAt sh11 x0 = some (.inr 7) ∧ (∀ h16 : Hp, h16 = wR h12 x0 4 r5 → (((∀ k, h16.1 (sh11.length + 1) k = 0 ∧ h16.2.1 (sh11.length + 1) k = 0) ∧ 0 + 3 + m9 + 3 ≤ ms) ∧ (∀ (sh19 : List Sh) (r21 : Nat), sh19 = sh11 ++ [.inr 2] → r21 = sh11.length + 1 → (shAt sh19 r21 = some (.inr 2) ∧ (∃ (m25 : Nat) (P24 : List Sh → Hp → Prop), C_X2_init w sh19 r21 h16 m25 P24 ∧ 0 + 3 + m9 + 3 + m25 ≤ ms ∧ (∀ (sh27 : List Sh) (h28 : Hp), P24 sh27 h28 → (shAt sh27 x0 = some (.inr 7) ∧ (∀ h32 : Hp, h32 = wR h28 x0 5 r21 → (((∀ k, h32.1 (sh27.length + 1) k = 0 ∧ h32.2.1 (sh27.length + 1) k = 0) ∧ 0 + 3 + m9 + 3 + m25 + 3 ≤ ms) ∧ (∀ (sh35 : List Sh) (r37 : Nat), sh35 = sh27 ++ [.inr 2] → r37 = sh27.length + 1 → (shAt sh35 r37 = some (.inr 2) ∧ (∃ (m41 : Nat) (P40 : List Sh → Hp → Prop), C_X2_init w sh35 r37 h32 m41 P40 ∧ 0 + 3 + m9 + 3 + m25 + 3 + m41 ≤ ms ∧ (∀ (sh43 : List Sh) (h44 : Hp), P40 sh43 h44 → (shAt sh43 x0 = some (.inr 7) ∧ (∀ h48 : Hp, h48 = wR h44 x0 6 r37 → (((∀ k, h48.1 (sh43.length + 1) k = 0 ∧ h48.2.1 (sh43.length + 1) k = 0) ∧ 0 + 3 + m9 + 3 + m25 + 3 + m41 + 3 ≤ ms) ∧ (∀ (sh51 : List Sh) (r53 : Nat), sh51 = sh43 ++ [.inr 2] → r53 = sh43.length + 1 → (shAt sh51 r53 = some (.inr 2) ∧ (∃ (m57 : Nat) (P56 : List Sh → Hp → Prop), C_X2_init w sh51 r53 h48 m57 P56 ∧ 0 + 3 + m9 + 3 + m25 + 3 + m41 + 3 + m57 ≤ ms ∧ (∀ (sh59 : List Sh) (h60 : Hp), P56 sh59 h60 → (shAt sh59 x0 = some (.inr 7) ∧ (∀ h64 : Hp, h64 = wR h60 x0 7 r53 → (((∀ k, h64.1 (sh59.length + 1) k = 0 ∧ h64.2.1 (sh59.length + 1) k = 0) ∧ 0 + 3 + m9 + 3 + m25 + 3 + m41 + 3 + m57 + 3 ≤ ms) ∧ (∀ (sh67 : List Sh) (r69 : Nat), sh67 = sh59 ++ [.inr 2] → r69 = sh59.length + 1 → (shAt sh67 r69 = some (.inr 2) ∧ (∃ (m73 : Nat) (P72 : List Sh → Hp → Prop), C_X2_init w sh67 r69 h64 m73 P72 ∧ 0 + 3 + m9 + 3 + m25 + 3 + m41 + 3 + m57 + 3 + m73 ≤ ms ∧ (∀ (sh75 : List Sh) (h76 : Hp), P72 sh75 h76 → (shAt sh75 x0 = some (.inr 7) ∧ (∀ h80 : Hp, h80 = wR h76 x0 8 r69 → (((∀ k, h80.1 (sh75.length + 1) k = 0 ∧ h80.2.1 (sh75.length + 1) k = 0) ∧ 0 + 3 + m9 + 3 + m25 + 3 + m41 + 3 + m57 + 3 + m73 + 5 ≤ ms) ∧ (∀ (sh83 : List Sh) (r85 : Nat), sh83 = sh75 ++ [.inr 9] → r85 = sh75.length + 1 → (shAt sh83 r85 = some (.inr 9) ∧ (∃ (m89 : Nat) (P88 : List Sh → Hp → Prop), C_X9_init w sh83 r85 h80 m89 P88 ∧ 0 + 3 + m9 + 3 + m25 + 3 + m41 + 3 + m57 + 3 + m73 + 5 + m89 ≤ ms ∧ (∀ (sh91 : List Sh) (h92 : Hp), P88 sh91 h92 → (shAt sh91 x0 = some (.inr 7) ∧ (∀ h96 : Hp, h96 = wR h92 x0 9 r85 → (((∀ k, h96.1 (sh91.length + 1) k = 0 ∧ h96.2.1 (sh91.length + 1) k = 0) ∧ 0 + 3 + m9 + 3 + m25 + 3 + m41 + 3 + m57 + 3 + m73 + 5 + m89 + 3 ≤ ms) ∧ (∀ (sh99 : List Sh) (r101 : Nat), sh99 = sh91 ++ [.inr 8] → r101 = sh91.length + 1 → (shAt sh99 r101 = some (.inr 8) ∧ (∃ (m105 : Nat) (P104 : List Sh → Hp → Prop), C_X8_init w sh99 r101 (0 : Int32) h96 m105 P104 ∧ 0 + 3 + m9 + 3 + m25 + 3 + m41 + 3 + m57 + 3 + m73 + 5 + m89 + 3 + m105 ≤ ms ∧ (∀ (sh107 : List Sh) (h108 : Hp), P104 sh107 h108 → (shAt sh107 x0 = some (.inr 7) ∧ (∀ h112 : Hp, h112 = wR h108 x0 10 r101 → (∀ h114 : Hp, h114 = wR h112 x0 11 (h112.2.1 x0 10) → (∀ h116 : Hp, h116 = wI h114 x0 12 (0 : Int32) → (∀ h118 : Hp, h118 = wI h116 x0 13 (-1 : Int32) → (∀ h120 : Hp, h120 = wR h118 x0 0 x1 → (∀ h122 : Hp, h122 = wR h120 x0 1 x2 → (∀ h124 : Hp, h124 = wR h122 x0 2 x3 → (∀ h126 : Hp, h126 = wI h124 x0 3 x4 → (0 + 3 + m9 + 3 + m25 + 3 + m41 + 3 + m57 + 3 + m73 + 5 + m89 + 3 + m105 = ms ∧ RET sh107 h126)))))))))))))))))))))))))))))))))))))))))))))))))))))))))
set_option maxRecDepth 20000 in
set_option maxHeartbeats 8000000 in
theorem W_X7_init_0 {w : Wd} {E : GE} {sh : List Sh} {x0 : Nat} {x1 : Nat} {x2 : Nat} {x3 : Nat} {x4 : Int32} {h : Hp} {ms n0 : Nat}  {RET : List Sh → Hp → Prop} (X : Cx w E cX7_init 5 RX7) (Tt : Rt w E none n0 20 ms (fun q sh9 h9 => q = none ∧ RET sh9 h9)) (hR : gR E = { frames := 3, cells := 20, slots := ms, locals := 62 }) (hin : (gme E).name = "<init>") (hV : V_X7_init_0 w sh x0 x1 x2 x3 x4 h ms RET) : G w E 5 0 [(0, rv w.2.2.2 x0), (1, rv w.2.2.2 x1), (2, rv w.2.2.2 x2), (3, rv w.2.2.2 x3), (4, Value.int x4)] [] sh h 0 0 := by
  unfold V_X7_init_0 at hV
  refine g_aload_n (pc := 0) X 0 rfl rfl dX7_init_0 ?_
  obtain ⟨q1, hV⟩ := hV
  refine g_objInit (pc := 1) X wo_X7_3 wo_inst wo_code q1 (by rw [hR]; exact ⟨Nat.le_of_ble_eq_true rfl, by simp [rv_cat, cat_int, cat_long]⟩) dX7_init_1 ?_
  refine g_aload_n (pc := 4) X 0 rfl rfl dX7_init_4 ?_
  obtain ⟨q2, hV⟩ := hV
  refine g_new (pc := 5) X cl_X7_9 q2.1 (by rw [hR]; exact ⟨Nat.le_of_ble_eq_true rfl, q2.2⟩) dX7_init_5 ?_
  obtain ⟨sh3, e4⟩ : ∃ z, z = sh ++ [Sum.inr 2] := ⟨_, rfl⟩
  obtain ⟨r5, e6⟩ : ∃ z, z = sh.length + 1 := ⟨_, rfl⟩
  rw [← e4, ← e6]
  have hV := hV sh3 r5 e4 e6
  refine g_dup (pc := 8) X dX7_init_8 (rv_cat _ _) ?_
  obtain ⟨q7, hV⟩ := hV
  obtain ⟨m9, P8, t10, q14, hV⟩ := hV
  refine g_invI (pc := 9) X (As := []) ml_X7_11 q7 t10 (by rw [hR]; exact ⟨Nat.le_of_ble_eq_true rfl, Nat.le_of_ble_eq_true rfl, Nat.le_of_ble_eq_true rfl, q14⟩) rfl rfl (by simp [rv_cat, cat_int, cat_long]) dX7_init_9 ?_
  intro qq9 sh11 h12 p13
  obtain ⟨rfl, p13⟩ := p13
  have hV := hV sh11 h12 p13
  refine g_eq (pc2 := 12) (st2 := [rv w.2.2.2 r5, rv w.2.2.2 x0]) rfl rfl ?_
  obtain ⟨q15, hV⟩ := hV
  refine g_putFR (pc := 12) X ff_X7_12 hin q15 rfl dX7_init_12 (fun h16 e17 => ?_)
  have hV := hV h16 e17
  refine g_aload_n (pc := 15) X 0 rfl rfl dX7_init_15 ?_
  obtain ⟨q18, hV⟩ := hV
  refine g_new (pc := 16) X cl_X7_9 q18.1 (by rw [hR]; exact ⟨Nat.le_of_ble_eq_true rfl, q18.2⟩) dX7_init_16 ?_
  obtain ⟨sh19, e20⟩ : ∃ z, z = sh11 ++ [Sum.inr 2] := ⟨_, rfl⟩
  obtain ⟨r21, e22⟩ : ∃ z, z = sh11.length + 1 := ⟨_, rfl⟩
  rw [← e20, ← e22]
  have hV := hV sh19 r21 e20 e22
  refine g_dup (pc := 19) X dX7_init_19 (rv_cat _ _) ?_
  obtain ⟨q23, hV⟩ := hV
  obtain ⟨m25, P24, t26, q30, hV⟩ := hV
  refine g_invI (pc := 20) X (As := []) ml_X7_11 q23 t26 (by rw [hR]; exact ⟨Nat.le_of_ble_eq_true rfl, Nat.le_of_ble_eq_true rfl, Nat.le_of_ble_eq_true rfl, q30⟩) rfl rfl (by simp [rv_cat, cat_int, cat_long]) dX7_init_20 ?_
  intro qq9 sh27 h28 p29
  obtain ⟨rfl, p29⟩ := p29
  have hV := hV sh27 h28 p29
  refine g_eq (pc2 := 23) (st2 := [rv w.2.2.2 r21, rv w.2.2.2 x0]) rfl rfl ?_
  obtain ⟨q31, hV⟩ := hV
  refine g_putFR (pc := 23) X ff_X7_18 hin q31 rfl dX7_init_23 (fun h32 e33 => ?_)
  have hV := hV h32 e33
  refine g_aload_n (pc := 26) X 0 rfl rfl dX7_init_26 ?_
  obtain ⟨q34, hV⟩ := hV
  refine g_new (pc := 27) X cl_X7_9 q34.1 (by rw [hR]; exact ⟨Nat.le_of_ble_eq_true rfl, q34.2⟩) dX7_init_27 ?_
  obtain ⟨sh35, e36⟩ : ∃ z, z = sh27 ++ [Sum.inr 2] := ⟨_, rfl⟩
  obtain ⟨r37, e38⟩ : ∃ z, z = sh27.length + 1 := ⟨_, rfl⟩
  rw [← e36, ← e38]
  have hV := hV sh35 r37 e36 e38
  refine g_dup (pc := 30) X dX7_init_30 (rv_cat _ _) ?_
  obtain ⟨q39, hV⟩ := hV
  obtain ⟨m41, P40, t42, q46, hV⟩ := hV
  refine g_invI (pc := 31) X (As := []) ml_X7_11 q39 t42 (by rw [hR]; exact ⟨Nat.le_of_ble_eq_true rfl, Nat.le_of_ble_eq_true rfl, Nat.le_of_ble_eq_true rfl, q46⟩) rfl rfl (by simp [rv_cat, cat_int, cat_long]) dX7_init_31 ?_
  intro qq9 sh43 h44 p45
  obtain ⟨rfl, p45⟩ := p45
  have hV := hV sh43 h44 p45
  refine g_eq (pc2 := 34) (st2 := [rv w.2.2.2 r37, rv w.2.2.2 x0]) rfl rfl ?_
  obtain ⟨q47, hV⟩ := hV
  refine g_putFR (pc := 34) X ff_X7_21 hin q47 rfl dX7_init_34 (fun h48 e49 => ?_)
  have hV := hV h48 e49
  refine g_aload_n (pc := 37) X 0 rfl rfl dX7_init_37 ?_
  obtain ⟨q50, hV⟩ := hV
  refine g_new (pc := 38) X cl_X7_9 q50.1 (by rw [hR]; exact ⟨Nat.le_of_ble_eq_true rfl, q50.2⟩) dX7_init_38 ?_
  obtain ⟨sh51, e52⟩ : ∃ z, z = sh43 ++ [Sum.inr 2] := ⟨_, rfl⟩
  obtain ⟨r53, e54⟩ : ∃ z, z = sh43.length + 1 := ⟨_, rfl⟩
  rw [← e52, ← e54]
  have hV := hV sh51 r53 e52 e54
  refine g_dup (pc := 41) X dX7_init_41 (rv_cat _ _) ?_
  obtain ⟨q55, hV⟩ := hV
  obtain ⟨m57, P56, t58, q62, hV⟩ := hV
  refine g_invI (pc := 42) X (As := []) ml_X7_11 q55 t58 (by rw [hR]; exact ⟨Nat.le_of_ble_eq_true rfl, Nat.le_of_ble_eq_true rfl, Nat.le_of_ble_eq_true rfl, q62⟩) rfl rfl (by simp [rv_cat, cat_int, cat_long]) dX7_init_42 ?_
  intro qq9 sh59 h60 p61
  obtain ⟨rfl, p61⟩ := p61
  have hV := hV sh59 h60 p61
  refine g_eq (pc2 := 45) (st2 := [rv w.2.2.2 r53, rv w.2.2.2 x0]) rfl rfl ?_
  obtain ⟨q63, hV⟩ := hV
  refine g_putFR (pc := 45) X ff_X7_24 hin q63 rfl dX7_init_45 (fun h64 e65 => ?_)
  have hV := hV h64 e65
  refine g_aload_n (pc := 48) X 0 rfl rfl dX7_init_48 ?_
  obtain ⟨q66, hV⟩ := hV
  refine g_new (pc := 49) X cl_X7_9 q66.1 (by rw [hR]; exact ⟨Nat.le_of_ble_eq_true rfl, q66.2⟩) dX7_init_49 ?_
  obtain ⟨sh67, e68⟩ : ∃ z, z = sh59 ++ [Sum.inr 2] := ⟨_, rfl⟩
  obtain ⟨r69, e70⟩ : ∃ z, z = sh59.length + 1 := ⟨_, rfl⟩
  rw [← e68, ← e70]
  have hV := hV sh67 r69 e68 e70
  refine g_dup (pc := 52) X dX7_init_52 (rv_cat _ _) ?_
  obtain ⟨q71, hV⟩ := hV
  obtain ⟨m73, P72, t74, q78, hV⟩ := hV
  refine g_invI (pc := 53) X (As := []) ml_X7_11 q71 t74 (by rw [hR]; exact ⟨Nat.le_of_ble_eq_true rfl, Nat.le_of_ble_eq_true rfl, Nat.le_of_ble_eq_true rfl, q78⟩) rfl rfl (by simp [rv_cat, cat_int, cat_long]) dX7_init_53 ?_
  intro qq9 sh75 h76 p77
  obtain ⟨rfl, p77⟩ := p77
  have hV := hV sh75 h76 p77
  refine g_eq (pc2 := 56) (st2 := [rv w.2.2.2 r69, rv w.2.2.2 x0]) rfl rfl ?_
  obtain ⟨q79, hV⟩ := hV
  refine g_putFR (pc := 56) X ff_X7_27 hin q79 rfl dX7_init_56 (fun h80 e81 => ?_)
  have hV := hV h80 e81
  refine g_aload_n (pc := 59) X 0 rfl rfl dX7_init_59 ?_
  obtain ⟨q82, hV⟩ := hV
  refine g_new (pc := 60) X cl_X7_30 q82.1 (by rw [hR]; exact ⟨Nat.le_of_ble_eq_true rfl, q82.2⟩) dX7_init_60 ?_
  obtain ⟨sh83, e84⟩ : ∃ z, z = sh75 ++ [Sum.inr 9] := ⟨_, rfl⟩
  obtain ⟨r85, e86⟩ : ∃ z, z = sh75.length + 1 := ⟨_, rfl⟩
  rw [← e84, ← e86]
  have hV := hV sh83 r85 e84 e86
  refine g_dup (pc := 63) X dX7_init_63 (rv_cat _ _) ?_
  obtain ⟨q87, hV⟩ := hV
  obtain ⟨m89, P88, t90, q94, hV⟩ := hV
  refine g_invI (pc := 64) X (As := []) ml_X7_32 q87 t90 (by rw [hR]; exact ⟨Nat.le_of_ble_eq_true rfl, Nat.le_of_ble_eq_true rfl, Nat.le_of_ble_eq_true rfl, q94⟩) rfl rfl (by simp [rv_cat, cat_int, cat_long]) dX7_init_64 ?_
  intro qq9 sh91 h92 p93
  obtain ⟨rfl, p93⟩ := p93
  have hV := hV sh91 h92 p93
  refine g_eq (pc2 := 67) (st2 := [rv w.2.2.2 r85, rv w.2.2.2 x0]) rfl rfl ?_
  obtain ⟨q95, hV⟩ := hV
  refine g_putFR (pc := 67) X ff_X7_33 hin q95 rfl dX7_init_67 (fun h96 e97 => ?_)
  have hV := hV h96 e97
  refine g_aload_n (pc := 70) X 0 rfl rfl dX7_init_70 ?_
  obtain ⟨q98, hV⟩ := hV
  refine g_new (pc := 71) X cl_X7_37 q98.1 (by rw [hR]; exact ⟨Nat.le_of_ble_eq_true rfl, q98.2⟩) dX7_init_71 ?_
  obtain ⟨sh99, e100⟩ : ∃ z, z = sh91 ++ [Sum.inr 8] := ⟨_, rfl⟩
  obtain ⟨r101, e102⟩ : ∃ z, z = sh91.length + 1 := ⟨_, rfl⟩
  rw [← e100, ← e102]
  have hV := hV sh99 r101 e100 e102
  refine g_dup (pc := 74) X dX7_init_74 (rv_cat _ _) ?_
  refine g_iconst (pc := 75) (v := (0 : Int32)) X dX7_init_75 (by decide) ?_
  obtain ⟨q103, hV⟩ := hV
  obtain ⟨m105, P104, t106, q110, hV⟩ := hV
  refine g_invI (pc := 76) X (As := [Value.int (0 : Int32)]) ml_X7_39 q103 t106 (by rw [hR]; exact ⟨Nat.le_of_ble_eq_true rfl, Nat.le_of_ble_eq_true rfl, Nat.le_of_ble_eq_true rfl, q110⟩) rfl rfl (by simp [rv_cat, cat_int, cat_long]) dX7_init_76 ?_
  intro qq9 sh107 h108 p109
  obtain ⟨rfl, p109⟩ := p109
  have hV := hV sh107 h108 p109
  refine g_eq (pc2 := 79) (st2 := [rv w.2.2.2 r101, rv w.2.2.2 x0]) rfl rfl ?_
  obtain ⟨q111, hV⟩ := hV
  refine g_putR (pc := 79) X fl_X7_42 q111 rfl dX7_init_79 (fun h112 e113 => ?_)
  have hV := hV h112 e113
  refine g_aload_n (pc := 82) X 0 rfl rfl dX7_init_82 ?_
  refine g_aload_n (pc := 83) X 0 rfl rfl dX7_init_83 ?_
  refine g_getR (pc := 84) X fl_X7_42 q111 dX7_init_84 ?_
  refine g_putR (pc := 87) X fl_X7_46 q111 rfl dX7_init_87 (fun h114 e115 => ?_)
  have hV := hV h114 e115
  refine g_aload_n (pc := 90) X 0 rfl rfl dX7_init_90 ?_
  refine g_iconst (pc := 91) (v := (0 : Int32)) X dX7_init_91 (by decide) ?_
  refine g_putI (pc := 92) X fl_X7_49 q111 rfl rfl dX7_init_92 (fun h116 e117 => ?_)
  have hV := hV h116 e117
  refine g_aload_n (pc := 95) X 0 rfl rfl dX7_init_95 ?_
  refine g_iconst (pc := 96) (v := (-1 : Int32)) X dX7_init_96 (by decide) ?_
  refine g_putI (pc := 97) X fl_X7_53 q111 rfl rfl dX7_init_97 (fun h118 e119 => ?_)
  have hV := hV h118 e119
  refine g_aload_n (pc := 100) X 0 rfl rfl dX7_init_100 ?_
  refine g_aload_n (pc := 101) X 1 rfl rfl dX7_init_101 ?_
  refine g_putFR (pc := 102) X ff_X7_56 hin q111 rfl dX7_init_102 (fun h120 e121 => ?_)
  have hV := hV h120 e121
  refine g_aload_n (pc := 105) X 0 rfl rfl dX7_init_105 ?_
  refine g_aload_n (pc := 106) X 2 rfl rfl dX7_init_106 ?_
  refine g_putFR (pc := 107) X ff_X7_60 hin q111 rfl dX7_init_107 (fun h122 e123 => ?_)
  have hV := hV h122 e123
  refine g_aload_n (pc := 110) X 0 rfl rfl dX7_init_110 ?_
  refine g_aload_n (pc := 111) X 3 rfl rfl dX7_init_111 ?_
  refine g_putFR (pc := 112) X ff_X7_64 hin q111 rfl dX7_init_112 (fun h124 e125 => ?_)
  have hV := hV h124 e125
  refine g_aload_n (pc := 115) X 0 rfl rfl dX7_init_115 ?_
  refine g_iload (pc := 116) X 4 rfl dX7_init_116 ?_
  refine g_putFI (pc := 118) X ff_X7_68 hin q111 rfl rfl dX7_init_118 (fun h126 e127 => ?_)
  have hV := hV h126 e127
  rw [hV.1]
  exact g_vret (pc := 121) X Tt ⟨rfl, hV.2⟩ dX7_init_121
def C_X7_init (w : Wd) (sh : List Sh) (x0 : Nat) (x1 : Nat) (x2 : Nat) (x3 : Nat) (x4 : Int32) (h : Hp) (ms : Nat) (RET : List Sh → Hp → Prop) : Prop := Ct w yX7_init (.code yX7_init cX7_init 5 none) 3 62 20 ms [rv w.2.2.2 x0, rv w.2.2.2 x1, rv w.2.2.2 x2, rv w.2.2.2 x3, Value.int x4] sh h (fun q sh9 h9 => q = none ∧ RET sh9 h9)
theorem K_X7_init {w : Wd} {sh : List Sh} {x0 : Nat} {x1 : Nat} {x2 : Nat} {x3 : Nat} {x4 : Int32} {h : Hp} {ms : Nat} {RET : List Sh → Hp → Prop} (hV : V_X7_init_0 w sh x0 x1 x2 x3 x4 h ms RET) : C_X7_init w sh x0 x1 x2 x3 x4 h ms RET :=
  Ct_of (by decide +kernel) (by simp [lg_sl, rv_cat, cat_int, cat_long]) (fun E X Tt hR hin => by
    rw [show lv_args 0 [rv w.2.2.2 x0, rv w.2.2.2 x1, rv w.2.2.2 x2, rv w.2.2.2 x3, Value.int x4] = [(0, rv w.2.2.2 x0), (1, rv w.2.2.2 x1), (2, rv w.2.2.2 x2), (3, rv w.2.2.2 x3), (4, Value.int x4)] from by simp [lv_args, rv_cat, cat_int, cat_long]]
    refine g_lv [0, 1, 2, 3, 4] rfl ?_
    exact W_X7_init_0 X Tt hR hin hV)
set_option maxRecDepth 20000 in
def V_X11_init_0 (w : Wd) (sh : List Sh) (x0 : Nat) (h : Hp) (ms : Nat)  (RET : List Sh → Hp → Prop) : Prop :=
  shAt sh x0 = some (.inr 11) ∧ (((∀ k, h.1 (sh.length + 1) k = 0 ∧ h.2.1 (sh.length + 1) k = 0) ∧ 0 + 3 ≤ ms) ∧ (∀ (sh3 : List Sh) (r5 : Nat), sh3 = sh ++ [.inr 8] → r5 = sh.length + 1 → (shAt sh3 r5 = some (.inr 8) ∧ (∃ (m9 : Nat) (P8 : List Sh → Hp → Prop), C_X8_init w sh3 r5 (8000 : Int32) h m9 P8 ∧ 0 + 3 + m9 ≤ ms ∧ (∀ (sh11 : List Sh) (h12 : Hp), P8 sh11 h12 → (shAt sh11 x0 = some (.inr 11) ∧ (∀ h16 : Hp, h16 = wR h12 x0 0 r5 → (((∀ k, h16.1 (sh11.length + 1) k = 0 ∧ h16.2.1 (sh11.length + 1) k = 0) ∧ 0 + 3 + m9 + 3 ≤ ms) ∧ (∀ (sh19 : List Sh) (r21 : Nat), sh19 = sh11 ++ [.inr 8] → r21 = sh11.length + 1 → (shAt sh19 r21 = some (.inr 8) ∧ (∃ (m25 : Nat) (P24 : List Sh → Hp → Prop), C_X8_init w sh19 r21 (8000 : Int32) h16 m25 P24 ∧ 0 + 3 + m9 + 3 + m25 ≤ ms ∧ (∀ (sh27 : List Sh) (h28 : Hp), P24 sh27 h28 → (shAt sh27 x0 = some (.inr 11) ∧ (∀ h32 : Hp, h32 = wR h28 x0 1 r21 → (((∀ k, h32.1 (sh27.length + 1) k = 0 ∧ h32.2.1 (sh27.length + 1) k = 0) ∧ 0 + 3 + m9 + 3 + m25 + 3 ≤ ms) ∧ (∀ (sh35 : List Sh) (r37 : Nat), sh35 = sh27 ++ [.inr 8] → r37 = sh27.length + 1 → (shAt sh35 r37 = some (.inr 8) ∧ (∃ (m41 : Nat) (P40 : List Sh → Hp → Prop), C_X8_init w sh35 r37 (8000 : Int32) h32 m41 P40 ∧ 0 + 3 + m9 + 3 + m25 + 3 + m41 ≤ ms ∧ (∀ (sh43 : List Sh) (h44 : Hp), P40 sh43 h44 → (shAt sh43 x0 = some (.inr 11) ∧ (∀ h48 : Hp, h48 = wR h44 x0 2 r37 → (((∀ k, h48.1 (sh43.length + 1) k = 0 ∧ h48.2.1 (sh43.length + 1) k = 0) ∧ 0 + 3 + m9 + 3 + m25 + 3 + m41 + 3 ≤ ms) ∧ (∀ (sh51 : List Sh) (r53 : Nat), sh51 = sh43 ++ [.inr 8] → r53 = sh43.length + 1 → (shAt sh51 r53 = some (.inr 8) ∧ (∃ (m57 : Nat) (P56 : List Sh → Hp → Prop), C_X8_init w sh51 r53 (4000 : Int32) h48 m57 P56 ∧ 0 + 3 + m9 + 3 + m25 + 3 + m41 + 3 + m57 ≤ ms ∧ (∀ (sh59 : List Sh) (h60 : Hp), P56 sh59 h60 → (shAt sh59 x0 = some (.inr 11) ∧ (∀ h64 : Hp, h64 = wR h60 x0 3 r53 → (((∀ k, h64.1 (sh59.length + 1) k = 0 ∧ h64.2.1 (sh59.length + 1) k = 0) ∧ 0 + 3 + m9 + 3 + m25 + 3 + m41 + 3 + m57 + 3 ≤ ms) ∧ (∀ (sh67 : List Sh) (r69 : Nat), sh67 = sh59 ++ [.inr 8] → r69 = sh59.length + 1 → (shAt sh67 r69 = some (.inr 8) ∧ (∃ (m73 : Nat) (P72 : List Sh → Hp → Prop), C_X8_init w sh67 r69 (2048 : Int32) h64 m73 P72 ∧ 0 + 3 + m9 + 3 + m25 + 3 + m41 + 3 + m57 + 3 + m73 ≤ ms ∧ (∀ (sh75 : List Sh) (h76 : Hp), P72 sh75 h76 → (shAt sh75 x0 = some (.inr 11) ∧ (∀ h80 : Hp, h80 = wR h76 x0 4 r69 → (((∀ k, h80.1 (sh75.length + 1) k = 0 ∧ h80.2.1 (sh75.length + 1) k = 0) ∧ 0 + 3 + m9 + 3 + m25 + 3 + m41 + 3 + m57 + 3 + m73 + 3 ≤ ms) ∧ (∀ (sh83 : List Sh) (r85 : Nat), sh83 = sh75 ++ [.inr 10] → r85 = sh75.length + 1 → (shAt sh83 r85 = some (.inr 10) ∧ (∃ (m89 : Nat) (P88 : List Sh → Hp → Prop), C_X10_init w sh83 r85 h80 m89 P88 ∧ 0 + 3 + m9 + 3 + m25 + 3 + m41 + 3 + m57 + 3 + m73 + 3 + m89 ≤ ms ∧ (∀ (sh91 : List Sh) (h92 : Hp), P88 sh91 h92 → (shAt sh91 x0 = some (.inr 11) ∧ (∀ h96 : Hp, h96 = wR h92 x0 5 r85 → (((∀ k, h96.1 (sh91.length + 1) k = 0 ∧ h96.2.1 (sh91.length + 1) k = 0) ∧ 0 + 3 + m9 + 3 + m25 + 3 + m41 + 3 + m57 + 3 + m73 + 3 + m89 + 3 ≤ ms) ∧ (∀ (sh99 : List Sh) (r101 : Nat), sh99 = sh91 ++ [.inr 10] → r101 = sh91.length + 1 → (shAt sh99 r101 = some (.inr 10) ∧ (∃ (m105 : Nat) (P104 : List Sh → Hp → Prop), C_X10_init w sh99 r101 h96 m105 P104 ∧ 0 + 3 + m9 + 3 + m25 + 3 + m41 + 3 + m57 + 3 + m73 + 3 + m89 + 3 + m105 ≤ ms ∧ (∀ (sh107 : List Sh) (h108 : Hp), P104 sh107 h108 → (shAt sh107 x0 = some (.inr 11) ∧ (∀ h112 : Hp, h112 = wR h108 x0 6 r101 → (((∀ k, h112.1 (sh107.length + 1) k = 0 ∧ h112.2.1 (sh107.length + 1) k = 0) ∧ 0 + 3 + m9 + 3 + m25 + 3 + m41 + 3 + m57 + 3 + m73 + 3 + m89 + 3 + m105 + 3 ≤ ms) ∧ (∀ (sh115 : List Sh) (r117 : Nat), sh115 = sh107 ++ [.inr 10] → r117 = sh107.length + 1 → (shAt sh115 r117 = some (.inr 10) ∧ (∃ (m121 : Nat) (P120 : List Sh → Hp → Prop), C_X10_init w sh115 r117 h112 m121 P120 ∧ 0 + 3 + m9 + 3 + m25 + 3 + m41 + 3 + m57 + 3 + m73 + 3 + m89 + 3 + m105 + 3 + m121 ≤ ms ∧ (∀ (sh123 : List Sh) (h124 : Hp), P120 sh123 h124 → (shAt sh123 x0 = some (.inr 11) ∧ (∀ h128 : Hp, h128 = wR h124 x0 7 r117 → (((∀ k, h128.1 (sh123.length + 1) k = 0 ∧ h128.2.1 (sh123.length + 1) k = 0) ∧ 0 + 3 + m9 + 3 + m25 + 3 + m41 + 3 + m57 + 3 + m73 + 3 + m89 + 3 + m105 + 3 + m121 + 3 ≤ ms) ∧ (∀ (sh131 : List Sh) (r133 : Nat), sh131 = sh123 ++ [.inr 4] → r133 = sh123.length + 1 → (shAt sh131 r133 = some (.inr 4) ∧ (∃ (m137 : Nat) (P136 : List Sh → Hp → Prop), C_X4_init w sh131 r133 (2000 : Int32) h128 m137 P136 ∧ 0 + 3 + m9 + 3 + m25 + 3 + m41 + 3 + m57 + 3 + m73 + 3 + m89 + 3 + m105 + 3 + m121 + 3 + m137 ≤ ms ∧ (∀ (sh139 : List Sh) (h140 : Hp), P136 sh139 h140 → (shAt sh139 x0 = some (.inr 11) ∧ (∀ h144 : Hp, h144 = wR h140 x0 8 r133 → (((∀ k, h144.1 (sh139.length + 1) k = 0 ∧ h144.2.1 (sh139.length + 1) k = 0) ∧ 0 + 3 + m9 + 3 + m25 + 3 + m41 + 3 + m57 + 3 + m73 + 3 + m89 + 3 + m105 + 3 + m121 + 3 + m137 + 5 ≤ ms) ∧ (∀ (sh147 : List Sh) (r149 : Nat), sh147 = sh139 ++ [.inr 0] → r149 = sh139.length + 1 → (shAt sh147 r149 = some (.inr 0) ∧ (∃ (m153 : Nat) (P152 : List Sh → Hp → Prop), C_X0_init w sh147 r149 (32 : Int32) (16 : Int32) h144 m153 P152 ∧ 0 + 3 + m9 + 3 + m25 + 3 + m41 + 3 + m57 + 3 + m73 + 3 + m89 + 3 + m105 + 3 + m121 + 3 + m137 + 5 + m153 ≤ ms ∧ (∀ (sh155 : List Sh) (h156 : Hp), P152 sh155 h156 → (shAt sh155 x0 = some (.inr 11) ∧ (∀ h160 : Hp, h160 = wR h156 x0 9 r149 → (((∀ k, h160.1 (sh155.length + 1) k = 0 ∧ h160.2.1 (sh155.length + 1) k = 0) ∧ 0 + 3 + m9 + 3 + m25 + 3 + m41 + 3 + m57 + 3 + m73 + 3 + m89 + 3 + m105 + 3 + m121 + 3 + m137 + 5 + m153 + 7 ≤ ms) ∧ (∀ (sh163 : List Sh) (r165 : Nat), sh163 = sh155 ++ [.inr 5] → r165 = sh155.length + 1 → (shAt sh163 r165 = some (.inr 5) ∧ (∃ (m169 : Nat) (P168 : List Sh → Hp → Prop), C_X5_init w sh163 r165 h160 m169 P168 ∧ 0 + 3 + m9 + 3 + m25 + 3 + m41 + 3 + m57 + 3 + m73 + 3 + m89 + 3 + m105 + 3 + m121 + 3 + m137 + 5 + m153 + 7 + m169 ≤ ms ∧ (∀ (sh171 : List Sh) (h172 : Hp), P168 sh171 h172 → (shAt sh171 x0 = some (.inr 11) ∧ (∀ h176 : Hp, h176 = wR h172 x0 12 r165 → (shAt sh171 (h176.2.1 x0 5) = some (.inr 10) ∧ (∃ P179 : Hp → Prop, C_X10_becomeUsual w sh171 (h176.2.1 x0 5) h176 P179 ∧ (0 + 3 + m9 + 3 + m25 + 3 + m41 + 3 + m57 + 3 + m73 + 3 + m89 + 3 + m105 + 3 + m121 + 3 + m137 + 5 + m153 + 7 + m169 ≤ ms ∧ (∀ h182 : Hp, P179 h182 → (shAt sh171 (h182.2.1 x0 6) = some (.inr 10) ∧ (∃ P185 : Hp → Prop, C_X10_becomeUsual w sh171 (h182.2.1 x0 6) h182 P185 ∧ (0 + 3 + m9 + 3 + m25 + 3 + m41 + 3 + m57 + 3 + m73 + 3 + m89 + 3 + m105 + 3 + m121 + 3 + m137 + 5 + m153 + 7 + m169 ≤ ms ∧ (∀ h188 : Hp, P185 h188 → (shAt sh171 (h188.2.1 x0 7) = some (.inr 10) ∧ (∃ P191 : Hp → Prop, C_X10_becomeUsual w sh171 (h188.2.1 x0 7) h188 P191 ∧ (0 + 3 + m9 + 3 + m25 + 3 + m41 + 3 + m57 + 3 + m73 + 3 + m89 + 3 + m105 + 3 + m121 + 3 + m137 + 5 + m153 + 7 + m169 ≤ ms ∧ (∀ h194 : Hp, P191 h194 → (shAt sh171 (h194.2.1 x0 9) = some (.inr 0) ∧ (∃ P197 : Hp → Prop, C_X0_fit w sh171 (h194.2.1 x0 9) (4 : Int32) (3 : Int32) h194 P197 ∧ (0 + 3 + m9 + 3 + m25 + 3 + m41 + 3 + m57 + 3 + m73 + 3 + m89 + 3 + m105 + 3 + m121 + 3 + m137 + 5 + m153 + 7 + m169 ≤ ms ∧ (∀ h200 : Hp, P197 h200 → (((∀ k, h200.1 (sh171.length + 1) k = 0 ∧ h200.2.1 (sh171.length + 1) k = 0) ∧ 0 + 3 + m9 + 3 + m25 + 3 + m41 + 3 + m57 + 3 + m73 + 3 + m89 + 3 + m105 + 3 + m121 + 3 + m137 + 5 + m153 + 7 + m169 + 19 ≤ ms) ∧ (∀ (sh203 : List Sh) (r205 : Nat), sh203 = sh171 ++ [.inr 7] → r205 = sh171.length + 1 → (shAt sh203 x0 = some (.inr 11) ∧ (shAt sh203 r205 = some (.inr 7) ∧ (∃ (m210 : Nat) (P209 : List Sh → Hp → Prop), C_X7_init w sh203 r205 (h200.2.1 x0 7) (h200.2.1 x0 9) (h200.2.1 x0 8) (6 : Int32) h200 m210 P209 ∧ 0 + 3 + m9 + 3 + m25 + 3 + m41 + 3 + m57 + 3 + m73 + 3 + m89 + 3 + m105 + 3 + m121 + 3 + m137 + 5 + m153 + 7 + m169 + 19 + m210 ≤ ms ∧ (∀ (sh212 : List Sh) (h213 : Hp), P209 sh212 h213 → (shAt sh212 x0 = some (.inr 11) ∧ (∀ h217 : Hp, h217 = wR h213 x0 10 r205 → (((∀ k, h217.1 (sh212.length + 1) k = 0 ∧ h217.2.1 (sh212.length + 1) k = 0) ∧ 0 + 3 + m9 + 3 + m25 + 3 + m41 + 3 + m57 + 3 + m73 + 3 + m89 + 3 + m105 + 3 + m121 + 3 + m137 + 5 + m153 + 7 + m169 + 19 + m210 + 19 ≤ ms) ∧ (∀ (sh220 : List Sh) (r222 : Nat), sh220 = sh212 ++ [.inr 7] → r222 = sh212.length + 1 → (shAt sh220 x0 = some (.inr 11) ∧ (((∀ k, h217.1 (sh220.length + 1) k = 0 ∧ h217.2.1 (sh220.length + 1) k = 0) ∧ 0 + 3 + m9 + 3 + m25 + 3 + m41 + 3 + m57 + 3 + m73 + 3 + m89 + 3 + m105 + 3 + m121 + 3 + m137 + 5 + m153 + 7 + m169 + 19 + m210 + 19 + 5 ≤ ms) ∧ (∀ (sh226 : List Sh) (r228 : Nat), sh226 = sh220 ++ [.inr 0] → r228 = sh220.length + 1 → (shAt sh226 r228 = some (.inr 0) ∧ (∃ (m232 : Nat) (P231 : List Sh → Hp → Prop), C_X0_init w sh226 r228 (4 : Int32) (3 : Int32) h217 m232 P231 ∧ 0 + 3 + m9 + 3 + m25 + 3 + m41 + 3 + m57 + 3 + m73 + 3 + m89 + 3 + m105 + 3 + m121 + 3 + m137 + 5 + m153 + 7 + m169 + 19 + m210 + 19 + 5 + m232 ≤ ms ∧ (∀ (sh234 : List Sh) (h235 : Hp), P231 sh234 h235 → (((∀ k, h235.1 (sh234.length + 1) k = 0 ∧ h235.2.1 (sh234.length + 1) k = 0) ∧ 0 + 3 + m9 + 3 + m25 + 3 + m41 + 3 + m57 + 3 + m73 + 3 + m89 + 3 + m105 + 3 + m121 + 3 + m137 + 5 + m153 + 7 + m169 + 19 + m210 + 19 + 5 + m232 + 3 ≤ ms) ∧ (∀ (sh239 : List Sh) (r241 : Nat), sh239 = sh234 ++ [.inr 4] → r241 = sh234.length + 1 → (shAt sh239 r241 = some (.inr 4) ∧ (∃ (m245 : Nat) (P244 : List Sh → Hp → Prop), C_X4_init w sh239 r241 (0 : Int32) h235 m245 P244 ∧ 0 + 3 + m9 + 3 + m25 + 3 + m41 + 3 + m57 + 3 + m73 + 3 + m89 + 3 + m105 + 3 + m121 + 3 + m137 + 5 + m153 + 7 + m169 + 19 + m210 + 19 + 5 + m232 + 3 + m245 ≤ ms ∧ (∀ (sh247 : List Sh) (h248 : Hp), P244 sh247 h248 → (shAt sh247 r222 = some (.inr 7) ∧ (∃ (m253 : Nat) (P252 : List Sh → Hp → Prop), C_X7_init w sh247 r222 (h217.2.1 x0 5) r228 r241 (4 : Int32) h248 m253 P252 ∧ 0 + 3 + m9 + 3 + m25 + 3 + m41 + 3 + m57 + 3 + m73 + 3 + m89 + 3 + m105 + 3 + m121 + 3 + m137 + 5 + m153 + 7 + m169 + 19 + m210 + 19 + 5 + m232 + 3 + m245 + m253 ≤ ms ∧ (∀ (sh255 : List Sh) (h256 : Hp), P252 sh255 h256 → (shAt sh255 x0 = some (.inr 11) ∧ (∀ h260 : Hp, h260 = wR h256 x0 11 r222 → (0 + 3 + m9 + 3 + m25 + 3 + m41 + 3 + m57 + 3 + m73 + 3 + m89 + 3 + m105 + 3 + m121 + 3 + m137 + 5 + m153 + 7 + m169 + 19 + m210 + 19 + 5 + m232 + 3 + m245 + m253 = ms ∧ RET sh255 h260))))))))))))))))))))))))))))))))))))))))))))))))))))))))))))))))))))))))))))))))))))))))))))))))))))))))))))))))))))))))
set_option maxRecDepth 20000 in
set_option maxHeartbeats 8000000 in
theorem W_X11_init_0 {w : Wd} {E : GE} {sh : List Sh} {x0 : Nat} {h : Hp} {ms n0 : Nat}  {RET : List Sh → Hp → Prop} (X : Cx w E cX11_init 1 RX11) (Tt : Rt w E none n0 95 ms (fun q sh9 h9 => q = none ∧ RET sh9 h9)) (hR : gR E = { frames := 5, cells := 95, slots := ms, locals := 117 }) (hin : (gme E).name = "<init>") (hV : V_X11_init_0 w sh x0 h ms RET) : G w E 1 0 [(0, rv w.2.2.2 x0)] [] sh h 0 0 := by
  unfold V_X11_init_0 at hV
  refine g_aload_n (pc := 0) X 0 rfl rfl dX11_init_0 ?_
  obtain ⟨q1, hV⟩ := hV
  refine g_objInit (pc := 1) X wo_X11_1 wo_inst wo_code q1 (by rw [hR]; exact ⟨Nat.le_of_ble_eq_true rfl, by simp [rv_cat, cat_int, cat_long]⟩) dX11_init_1 ?_
  refine g_aload_n (pc := 4) X 0 rfl rfl dX11_init_4 ?_
  obtain ⟨q2, hV⟩ := hV
  refine g_new (pc := 5) X cl_X11_7 q2.1 (by rw [hR]; exact ⟨Nat.le_of_ble_eq_true rfl, q2.2⟩) dX11_init_5 ?_
  obtain ⟨sh3, e4⟩ : ∃ z, z = sh ++ [Sum.inr 8] := ⟨_, rfl⟩
  obtain ⟨r5, e6⟩ : ∃ z, z = sh.length + 1 := ⟨_, rfl⟩
  rw [← e4, ← e6]
  have hV := hV sh3 r5 e4 e6
  refine g_dup (pc := 8) X dX11_init_8 (rv_cat _ _) ?_
  refine g_sipush (pc := 9) (v := (8000 : Int32)) X dX11_init_9 (by decide) ?_
  obtain ⟨q7, hV⟩ := hV
  obtain ⟨m9, P8, t10, q14, hV⟩ := hV
  refine g_invI (pc := 12) X (As := [Value.int (8000 : Int32)]) ml_X11_11 q7 t10 (by rw [hR]; exact ⟨Nat.le_of_ble_eq_true rfl, Nat.le_of_ble_eq_true rfl, Nat.le_of_ble_eq_true rfl, q14⟩) rfl rfl (by simp [rv_cat, cat_int, cat_long]) dX11_init_12 ?_
  intro qq9 sh11 h12 p13
  obtain ⟨rfl, p13⟩ := p13
  have hV := hV sh11 h12 p13
  refine g_eq (pc2 := 15) (st2 := [rv w.2.2.2 r5, rv w.2.2.2 x0]) rfl rfl ?_
  obtain ⟨q15, hV⟩ := hV
  refine g_putR (pc := 15) X fl_X11_14 q15 rfl dX11_init_15 (fun h16 e17 => ?_)
  have hV := hV h16 e17
  refine g_aload_n (pc := 18) X 0 rfl rfl dX11_init_18 ?_
  obtain ⟨q18, hV⟩ := hV
  refine g_new (pc := 19) X cl_X11_7 q18.1 (by rw [hR]; exact ⟨Nat.le_of_ble_eq_true rfl, q18.2⟩) dX11_init_19 ?_
  obtain ⟨sh19, e20⟩ : ∃ z, z = sh11 ++ [Sum.inr 8] := ⟨_, rfl⟩
  obtain ⟨r21, e22⟩ : ∃ z, z = sh11.length + 1 := ⟨_, rfl⟩
  rw [← e20, ← e22]
  have hV := hV sh19 r21 e20 e22
  refine g_dup (pc := 22) X dX11_init_22 (rv_cat _ _) ?_
  refine g_sipush (pc := 23) (v := (8000 : Int32)) X dX11_init_23 (by decide) ?_
  obtain ⟨q23, hV⟩ := hV
  obtain ⟨m25, P24, t26, q30, hV⟩ := hV
  refine g_invI (pc := 26) X (As := [Value.int (8000 : Int32)]) ml_X11_11 q23 t26 (by rw [hR]; exact ⟨Nat.le_of_ble_eq_true rfl, Nat.le_of_ble_eq_true rfl, Nat.le_of_ble_eq_true rfl, q30⟩) rfl rfl (by simp [rv_cat, cat_int, cat_long]) dX11_init_26 ?_
  intro qq9 sh27 h28 p29
  obtain ⟨rfl, p29⟩ := p29
  have hV := hV sh27 h28 p29
  refine g_eq (pc2 := 29) (st2 := [rv w.2.2.2 r21, rv w.2.2.2 x0]) rfl rfl ?_
  obtain ⟨q31, hV⟩ := hV
  refine g_putR (pc := 29) X fl_X11_18 q31 rfl dX11_init_29 (fun h32 e33 => ?_)
  have hV := hV h32 e33
  refine g_aload_n (pc := 32) X 0 rfl rfl dX11_init_32 ?_
  obtain ⟨q34, hV⟩ := hV
  refine g_new (pc := 33) X cl_X11_7 q34.1 (by rw [hR]; exact ⟨Nat.le_of_ble_eq_true rfl, q34.2⟩) dX11_init_33 ?_
  obtain ⟨sh35, e36⟩ : ∃ z, z = sh27 ++ [Sum.inr 8] := ⟨_, rfl⟩
  obtain ⟨r37, e38⟩ : ∃ z, z = sh27.length + 1 := ⟨_, rfl⟩
  rw [← e36, ← e38]
  have hV := hV sh35 r37 e36 e38
  refine g_dup (pc := 36) X dX11_init_36 (rv_cat _ _) ?_
  refine g_sipush (pc := 37) (v := (8000 : Int32)) X dX11_init_37 (by decide) ?_
  obtain ⟨q39, hV⟩ := hV
  obtain ⟨m41, P40, t42, q46, hV⟩ := hV
  refine g_invI (pc := 40) X (As := [Value.int (8000 : Int32)]) ml_X11_11 q39 t42 (by rw [hR]; exact ⟨Nat.le_of_ble_eq_true rfl, Nat.le_of_ble_eq_true rfl, Nat.le_of_ble_eq_true rfl, q46⟩) rfl rfl (by simp [rv_cat, cat_int, cat_long]) dX11_init_40 ?_
  intro qq9 sh43 h44 p45
  obtain ⟨rfl, p45⟩ := p45
  have hV := hV sh43 h44 p45
  refine g_eq (pc2 := 43) (st2 := [rv w.2.2.2 r37, rv w.2.2.2 x0]) rfl rfl ?_
  obtain ⟨q47, hV⟩ := hV
  refine g_putR (pc := 43) X fl_X11_21 q47 rfl dX11_init_43 (fun h48 e49 => ?_)
  have hV := hV h48 e49
  refine g_aload_n (pc := 46) X 0 rfl rfl dX11_init_46 ?_
  obtain ⟨q50, hV⟩ := hV
  refine g_new (pc := 47) X cl_X11_7 q50.1 (by rw [hR]; exact ⟨Nat.le_of_ble_eq_true rfl, q50.2⟩) dX11_init_47 ?_
  obtain ⟨sh51, e52⟩ : ∃ z, z = sh43 ++ [Sum.inr 8] := ⟨_, rfl⟩
  obtain ⟨r53, e54⟩ : ∃ z, z = sh43.length + 1 := ⟨_, rfl⟩
  rw [← e52, ← e54]
  have hV := hV sh51 r53 e52 e54
  refine g_dup (pc := 50) X dX11_init_50 (rv_cat _ _) ?_
  refine g_sipush (pc := 51) (v := (4000 : Int32)) X dX11_init_51 (by decide) ?_
  obtain ⟨q55, hV⟩ := hV
  obtain ⟨m57, P56, t58, q62, hV⟩ := hV
  refine g_invI (pc := 54) X (As := [Value.int (4000 : Int32)]) ml_X11_11 q55 t58 (by rw [hR]; exact ⟨Nat.le_of_ble_eq_true rfl, Nat.le_of_ble_eq_true rfl, Nat.le_of_ble_eq_true rfl, q62⟩) rfl rfl (by simp [rv_cat, cat_int, cat_long]) dX11_init_54 ?_
  intro qq9 sh59 h60 p61
  obtain ⟨rfl, p61⟩ := p61
  have hV := hV sh59 h60 p61
  refine g_eq (pc2 := 57) (st2 := [rv w.2.2.2 r53, rv w.2.2.2 x0]) rfl rfl ?_
  obtain ⟨q63, hV⟩ := hV
  refine g_putFR (pc := 57) X ff_X11_24 hin q63 rfl dX11_init_57 (fun h64 e65 => ?_)
  have hV := hV h64 e65
  refine g_aload_n (pc := 60) X 0 rfl rfl dX11_init_60 ?_
  obtain ⟨q66, hV⟩ := hV
  refine g_new (pc := 61) X cl_X11_7 q66.1 (by rw [hR]; exact ⟨Nat.le_of_ble_eq_true rfl, q66.2⟩) dX11_init_61 ?_
  obtain ⟨sh67, e68⟩ : ∃ z, z = sh59 ++ [Sum.inr 8] := ⟨_, rfl⟩
  obtain ⟨r69, e70⟩ : ∃ z, z = sh59.length + 1 := ⟨_, rfl⟩
  rw [← e68, ← e70]
  have hV := hV sh67 r69 e68 e70
  refine g_dup (pc := 64) X dX11_init_64 (rv_cat _ _) ?_
  refine g_sipush (pc := 65) (v := (2048 : Int32)) X dX11_init_65 (by decide) ?_
  obtain ⟨q71, hV⟩ := hV
  obtain ⟨m73, P72, t74, q78, hV⟩ := hV
  refine g_invI (pc := 68) X (As := [Value.int (2048 : Int32)]) ml_X11_11 q71 t74 (by rw [hR]; exact ⟨Nat.le_of_ble_eq_true rfl, Nat.le_of_ble_eq_true rfl, Nat.le_of_ble_eq_true rfl, q78⟩) rfl rfl (by simp [rv_cat, cat_int, cat_long]) dX11_init_68 ?_
  intro qq9 sh75 h76 p77
  obtain ⟨rfl, p77⟩ := p77
  have hV := hV sh75 h76 p77
  refine g_eq (pc2 := 71) (st2 := [rv w.2.2.2 r69, rv w.2.2.2 x0]) rfl rfl ?_
  obtain ⟨q79, hV⟩ := hV
  refine g_putFR (pc := 71) X ff_X11_27 hin q79 rfl dX11_init_71 (fun h80 e81 => ?_)
  have hV := hV h80 e81
  refine g_aload_n (pc := 74) X 0 rfl rfl dX11_init_74 ?_
  obtain ⟨q82, hV⟩ := hV
  refine g_new (pc := 75) X cl_X11_30 q82.1 (by rw [hR]; exact ⟨Nat.le_of_ble_eq_true rfl, q82.2⟩) dX11_init_75 ?_
  obtain ⟨sh83, e84⟩ : ∃ z, z = sh75 ++ [Sum.inr 10] := ⟨_, rfl⟩
  obtain ⟨r85, e86⟩ : ∃ z, z = sh75.length + 1 := ⟨_, rfl⟩
  rw [← e84, ← e86]
  have hV := hV sh83 r85 e84 e86
  refine g_dup (pc := 78) X dX11_init_78 (rv_cat _ _) ?_
  obtain ⟨q87, hV⟩ := hV
  obtain ⟨m89, P88, t90, q94, hV⟩ := hV
  refine g_invI (pc := 79) X (As := []) ml_X11_32 q87 t90 (by rw [hR]; exact ⟨Nat.le_of_ble_eq_true rfl, Nat.le_of_ble_eq_true rfl, Nat.le_of_ble_eq_true rfl, q94⟩) rfl rfl (by simp [rv_cat, cat_int, cat_long]) dX11_init_79 ?_
  intro qq9 sh91 h92 p93
  obtain ⟨rfl, p93⟩ := p93
  have hV := hV sh91 h92 p93
  refine g_eq (pc2 := 82) (st2 := [rv w.2.2.2 r85, rv w.2.2.2 x0]) rfl rfl ?_
  obtain ⟨q95, hV⟩ := hV
  refine g_putFR (pc := 82) X ff_X11_33 hin q95 rfl dX11_init_82 (fun h96 e97 => ?_)
  have hV := hV h96 e97
  refine g_aload_n (pc := 85) X 0 rfl rfl dX11_init_85 ?_
  obtain ⟨q98, hV⟩ := hV
  refine g_new (pc := 86) X cl_X11_30 q98.1 (by rw [hR]; exact ⟨Nat.le_of_ble_eq_true rfl, q98.2⟩) dX11_init_86 ?_
  obtain ⟨sh99, e100⟩ : ∃ z, z = sh91 ++ [Sum.inr 10] := ⟨_, rfl⟩
  obtain ⟨r101, e102⟩ : ∃ z, z = sh91.length + 1 := ⟨_, rfl⟩
  rw [← e100, ← e102]
  have hV := hV sh99 r101 e100 e102
  refine g_dup (pc := 89) X dX11_init_89 (rv_cat _ _) ?_
  obtain ⟨q103, hV⟩ := hV
  obtain ⟨m105, P104, t106, q110, hV⟩ := hV
  refine g_invI (pc := 90) X (As := []) ml_X11_32 q103 t106 (by rw [hR]; exact ⟨Nat.le_of_ble_eq_true rfl, Nat.le_of_ble_eq_true rfl, Nat.le_of_ble_eq_true rfl, q110⟩) rfl rfl (by simp [rv_cat, cat_int, cat_long]) dX11_init_90 ?_
  intro qq9 sh107 h108 p109
  obtain ⟨rfl, p109⟩ := p109
  have hV := hV sh107 h108 p109
  refine g_eq (pc2 := 93) (st2 := [rv w.2.2.2 r101, rv w.2.2.2 x0]) rfl rfl ?_
  obtain ⟨q111, hV⟩ := hV
  refine g_putFR (pc := 93) X ff_X11_37 hin q111 rfl dX11_init_93 (fun h112 e113 => ?_)
  have hV := hV h112 e113
  refine g_aload_n (pc := 96) X 0 rfl rfl dX11_init_96 ?_
  obtain ⟨q114, hV⟩ := hV
  refine g_new (pc := 97) X cl_X11_30 q114.1 (by rw [hR]; exact ⟨Nat.le_of_ble_eq_true rfl, q114.2⟩) dX11_init_97 ?_
  obtain ⟨sh115, e116⟩ : ∃ z, z = sh107 ++ [Sum.inr 10] := ⟨_, rfl⟩
  obtain ⟨r117, e118⟩ : ∃ z, z = sh107.length + 1 := ⟨_, rfl⟩
  rw [← e116, ← e118]
  have hV := hV sh115 r117 e116 e118
  refine g_dup (pc := 100) X dX11_init_100 (rv_cat _ _) ?_
  obtain ⟨q119, hV⟩ := hV
  obtain ⟨m121, P120, t122, q126, hV⟩ := hV
  refine g_invI (pc := 101) X (As := []) ml_X11_32 q119 t122 (by rw [hR]; exact ⟨Nat.le_of_ble_eq_true rfl, Nat.le_of_ble_eq_true rfl, Nat.le_of_ble_eq_true rfl, q126⟩) rfl rfl (by simp [rv_cat, cat_int, cat_long]) dX11_init_101 ?_
  intro qq9 sh123 h124 p125
  obtain ⟨rfl, p125⟩ := p125
  have hV := hV sh123 h124 p125
  refine g_eq (pc2 := 104) (st2 := [rv w.2.2.2 r117, rv w.2.2.2 x0]) rfl rfl ?_
  obtain ⟨q127, hV⟩ := hV
  refine g_putFR (pc := 104) X ff_X11_40 hin q127 rfl dX11_init_104 (fun h128 e129 => ?_)
  have hV := hV h128 e129
  refine g_aload_n (pc := 107) X 0 rfl rfl dX11_init_107 ?_
  obtain ⟨q130, hV⟩ := hV
  refine g_new (pc := 108) X cl_X11_43 q130.1 (by rw [hR]; exact ⟨Nat.le_of_ble_eq_true rfl, q130.2⟩) dX11_init_108 ?_
  obtain ⟨sh131, e132⟩ : ∃ z, z = sh123 ++ [Sum.inr 4] := ⟨_, rfl⟩
  obtain ⟨r133, e134⟩ : ∃ z, z = sh123.length + 1 := ⟨_, rfl⟩
  rw [← e132, ← e134]
  have hV := hV sh131 r133 e132 e134
  refine g_dup (pc := 111) X dX11_init_111 (rv_cat _ _) ?_
  refine g_sipush (pc := 112) (v := (2000 : Int32)) X dX11_init_112 (by decide) ?_
  obtain ⟨q135, hV⟩ := hV
  obtain ⟨m137, P136, t138, q142, hV⟩ := hV
  refine g_invI (pc := 115) X (As := [Value.int (2000 : Int32)]) ml_X11_45 q135 t138 (by rw [hR]; exact ⟨Nat.le_of_ble_eq_true rfl, Nat.le_of_ble_eq_true rfl, Nat.le_of_ble_eq_true rfl, q142⟩) rfl rfl (by simp [rv_cat, cat_int, cat_long]) dX11_init_115 ?_
  intro qq9 sh139 h140 p141
  obtain ⟨rfl, p141⟩ := p141
  have hV := hV sh139 h140 p141
  refine g_eq (pc2 := 118) (st2 := [rv w.2.2.2 r133, rv w.2.2.2 x0]) rfl rfl ?_
  obtain ⟨q143, hV⟩ := hV
  refine g_putFR (pc := 118) X ff_X11_46 hin q143 rfl dX11_init_118 (fun h144 e145 => ?_)
  have hV := hV h144 e145
  refine g_aload_n (pc := 121) X 0 rfl rfl dX11_init_121 ?_
  obtain ⟨q146, hV⟩ := hV
  refine g_new (pc := 122) X cl_X11_50 q146.1 (by rw [hR]; exact ⟨Nat.le_of_ble_eq_true rfl, q146.2⟩) dX11_init_122 ?_
  obtain ⟨sh147, e148⟩ : ∃ z, z = sh139 ++ [Sum.inr 0] := ⟨_, rfl⟩
  obtain ⟨r149, e150⟩ : ∃ z, z = sh139.length + 1 := ⟨_, rfl⟩
  rw [← e148, ← e150]
  have hV := hV sh147 r149 e148 e150
  refine g_dup (pc := 125) X dX11_init_125 (rv_cat _ _) ?_
  refine g_bipush (pc := 126) (v := (32 : Int32)) X dX11_init_126 (by decide) ?_
  refine g_bipush (pc := 128) (v := (16 : Int32)) X dX11_init_128 (by decide) ?_
  obtain ⟨q151, hV⟩ := hV
  obtain ⟨m153, P152, t154, q158, hV⟩ := hV
  refine g_invI (pc := 130) X (As := [Value.int (32 : Int32), Value.int (16 : Int32)]) ml_X11_52 q151 t154 (by rw [hR]; exact ⟨Nat.le_of_ble_eq_true rfl, Nat.le_of_ble_eq_true rfl, Nat.le_of_ble_eq_true rfl, q158⟩) rfl rfl (by simp [rv_cat, cat_int, cat_long]) dX11_init_130 ?_
  intro qq9 sh155 h156 p157
  obtain ⟨rfl, p157⟩ := p157
  have hV := hV sh155 h156 p157
  refine g_eq (pc2 := 133) (st2 := [rv w.2.2.2 r149, rv w.2.2.2 x0]) rfl rfl ?_
  obtain ⟨q159, hV⟩ := hV
  refine g_putFR (pc := 133) X ff_X11_55 hin q159 rfl dX11_init_133 (fun h160 e161 => ?_)
  have hV := hV h160 e161
  refine g_aload_n (pc := 136) X 0 rfl rfl dX11_init_136 ?_
  obtain ⟨q162, hV⟩ := hV
  refine g_new (pc := 137) X cl_X11_59 q162.1 (by rw [hR]; exact ⟨Nat.le_of_ble_eq_true rfl, q162.2⟩) dX11_init_137 ?_
  obtain ⟨sh163, e164⟩ : ∃ z, z = sh155 ++ [Sum.inr 5] := ⟨_, rfl⟩
  obtain ⟨r165, e166⟩ : ∃ z, z = sh155.length + 1 := ⟨_, rfl⟩
  rw [← e164, ← e166]
  have hV := hV sh163 r165 e164 e166
  refine g_dup (pc := 140) X dX11_init_140 (rv_cat _ _) ?_
  obtain ⟨q167, hV⟩ := hV
  obtain ⟨m169, P168, t170, q174, hV⟩ := hV
  refine g_invI (pc := 141) X (As := []) ml_X11_61 q167 t170 (by rw [hR]; exact ⟨Nat.le_of_ble_eq_true rfl, Nat.le_of_ble_eq_true rfl, Nat.le_of_ble_eq_true rfl, q174⟩) rfl rfl (by simp [rv_cat, cat_int, cat_long]) dX11_init_141 ?_
  intro qq9 sh171 h172 p173
  obtain ⟨rfl, p173⟩ := p173
  have hV := hV sh171 h172 p173
  refine g_eq (pc2 := 144) (st2 := [rv w.2.2.2 r165, rv w.2.2.2 x0]) rfl rfl ?_
  obtain ⟨q175, hV⟩ := hV
  refine g_putFR (pc := 144) X ff_X11_62 hin q175 rfl dX11_init_144 (fun h176 e177 => ?_)
  have hV := hV h176 e177
  refine g_aload_n (pc := 147) X 0 rfl rfl dX11_init_147 ?_
  refine g_getR (pc := 148) X fl_X11_33 q175 dX11_init_148 ?_
  obtain ⟨q178, hV⟩ := hV
  obtain ⟨P179, t180, q183, hV⟩ := hV
  refine g_cVV (pc := 151) X (As := []) ml_X11_66 rfl q178 t180 (by rw [hR]; exact ⟨Nat.le_of_ble_eq_true rfl, Nat.le_of_ble_eq_true rfl, Nat.le_of_ble_eq_true rfl, q183⟩) rfl rfl (Nat.zero_le _) dX11_init_151 (fun h182 p181 => ?_)
  have hV := hV h182 p181
  refine g_aload_n (pc := 154) X 0 rfl rfl dX11_init_154 ?_
  refine g_getR (pc := 155) X fl_X11_37 q175 dX11_init_155 ?_
  obtain ⟨q184, hV⟩ := hV
  obtain ⟨P185, t186, q189, hV⟩ := hV
  refine g_cVV (pc := 158) X (As := []) ml_X11_66 rfl q184 t186 (by rw [hR]; exact ⟨Nat.le_of_ble_eq_true rfl, Nat.le_of_ble_eq_true rfl, Nat.le_of_ble_eq_true rfl, q189⟩) rfl rfl (Nat.zero_le _) dX11_init_158 (fun h188 p187 => ?_)
  have hV := hV h188 p187
  refine g_aload_n (pc := 161) X 0 rfl rfl dX11_init_161 ?_
  refine g_getR (pc := 162) X fl_X11_40 q175 dX11_init_162 ?_
  obtain ⟨q190, hV⟩ := hV
  obtain ⟨P191, t192, q195, hV⟩ := hV
  refine g_cVV (pc := 165) X (As := []) ml_X11_66 rfl q190 t192 (by rw [hR]; exact ⟨Nat.le_of_ble_eq_true rfl, Nat.le_of_ble_eq_true rfl, Nat.le_of_ble_eq_true rfl, q195⟩) rfl rfl (Nat.zero_le _) dX11_init_165 (fun h194 p193 => ?_)
  have hV := hV h194 p193
  refine g_aload_n (pc := 168) X 0 rfl rfl dX11_init_168 ?_
  refine g_getR (pc := 169) X fl_X11_55 q175 dX11_init_169 ?_
  refine g_iconst (pc := 172) (v := (4 : Int32)) X dX11_init_172 (by decide) ?_
  refine g_iconst (pc := 173) (v := (3 : Int32)) X dX11_init_173 (by decide) ?_
  obtain ⟨q196, hV⟩ := hV
  obtain ⟨P197, t198, q201, hV⟩ := hV
  refine g_cVV (pc := 174) X (As := [Value.int (4 : Int32), Value.int (3 : Int32)]) ml_X11_69 rfl q196 t198 (by rw [hR]; exact ⟨Nat.le_of_ble_eq_true rfl, Nat.le_of_ble_eq_true rfl, Nat.le_of_ble_eq_true rfl, q201⟩) rfl rfl (Nat.zero_le _) dX11_init_174 (fun h200 p199 => ?_)
  have hV := hV h200 p199
  refine g_aload_n (pc := 177) X 0 rfl rfl dX11_init_177 ?_
  obtain ⟨q202, hV⟩ := hV
  refine g_new (pc := 178) X cl_X11_72 q202.1 (by rw [hR]; exact ⟨Nat.le_of_ble_eq_true rfl, q202.2⟩) dX11_init_178 ?_
  obtain ⟨sh203, e204⟩ : ∃ z, z = sh171 ++ [Sum.inr 7] := ⟨_, rfl⟩
  obtain ⟨r205, e206⟩ : ∃ z, z = sh171.length + 1 := ⟨_, rfl⟩
  rw [← e204, ← e206]
  have hV := hV sh203 r205 e204 e206
  refine g_dup (pc := 181) X dX11_init_181 (rv_cat _ _) ?_
  refine g_aload_n (pc := 182) X 0 rfl rfl dX11_init_182 ?_
  obtain ⟨q207, hV⟩ := hV
  refine g_getR (pc := 183) X fl_X11_40 q207 dX11_init_183 ?_
  refine g_aload_n (pc := 186) X 0 rfl rfl dX11_init_186 ?_
  refine g_getR (pc := 187) X fl_X11_55 q207 dX11_init_187 ?_
  refine g_aload_n (pc := 190) X 0 rfl rfl dX11_init_190 ?_
  refine g_getR (pc := 191) X fl_X11_46 q207 dX11_init_191 ?_
  refine g_bipush (pc := 194) (v := (6 : Int32)) X dX11_init_194 (by decide) ?_
  obtain ⟨q208, hV⟩ := hV
  obtain ⟨m210, P209, t211, q215, hV⟩ := hV
  refine g_invI (pc := 196) X (As := [rv w.2.2.2 (h200.2.1 x0 7), rv w.2.2.2 (h200.2.1 x0 9), rv w.2.2.2 (h200.2.1 x0 8), Value.int (6 : Int32)]) ml_X11_74 q208 t211 (by rw [hR]; exact ⟨Nat.le_of_ble_eq_true rfl, Nat.le_of_ble_eq_true rfl, Nat.le_of_ble_eq_true rfl, q215⟩) rfl rfl (by simp [rv_cat, cat_int, cat_long]) dX11_init_196 ?_
  intro qq9 sh212 h213 p214
  obtain ⟨rfl, p214⟩ := p214
  have hV := hV sh212 h213 p214
  refine g_eq (pc2 := 199) (st2 := [rv w.2.2.2 r205, rv w.2.2.2 x0]) rfl rfl ?_
  obtain ⟨q216, hV⟩ := hV
  refine g_putFR (pc := 199) X ff_X11_77 hin q216 rfl dX11_init_199 (fun h217 e218 => ?_)
  have hV := hV h217 e218
  refine g_aload_n (pc := 202) X 0 rfl rfl dX11_init_202 ?_
  obtain ⟨q219, hV⟩ := hV
  refine g_new (pc := 203) X cl_X11_72 q219.1 (by rw [hR]; exact ⟨Nat.le_of_ble_eq_true rfl, q219.2⟩) dX11_init_203 ?_
  obtain ⟨sh220, e221⟩ : ∃ z, z = sh212 ++ [Sum.inr 7] := ⟨_, rfl⟩
  obtain ⟨r222, e223⟩ : ∃ z, z = sh212.length + 1 := ⟨_, rfl⟩
  rw [← e221, ← e223]
  have hV := hV sh220 r222 e221 e223
  refine g_dup (pc := 206) X dX11_init_206 (rv_cat _ _) ?_
  refine g_aload_n (pc := 207) X 0 rfl rfl dX11_init_207 ?_
  obtain ⟨q224, hV⟩ := hV
  refine g_getR (pc := 208) X fl_X11_33 q224 dX11_init_208 ?_
  obtain ⟨q225, hV⟩ := hV
  refine g_new (pc := 211) X cl_X11_50 q225.1 (by rw [hR]; exact ⟨Nat.le_of_ble_eq_true rfl, q225.2⟩) dX11_init_211 ?_
  obtain ⟨sh226, e227⟩ : ∃ z, z = sh220 ++ [Sum.inr 0] := ⟨_, rfl⟩
  obtain ⟨r228, e229⟩ : ∃ z, z = sh220.length + 1 := ⟨_, rfl⟩
  rw [← e227, ← e229]
  have hV := hV sh226 r228 e227 e229
  refine g_dup (pc := 214) X dX11_init_214 (rv_cat _ _) ?_
  refine g_iconst (pc := 215) (v := (4 : Int32)) X dX11_init_215 (by decide) ?_
  refine g_iconst (pc := 216) (v := (3 : Int32)) X dX11_init_216 (by decide) ?_
  obtain ⟨q230, hV⟩ := hV
  obtain ⟨m232, P231, t233, q237, hV⟩ := hV
  refine g_invI (pc := 217) X (As := [Value.int (4 : Int32), Value.int (3 : Int32)]) ml_X11_52 q230 t233 (by rw [hR]; exact ⟨Nat.le_of_ble_eq_true rfl, Nat.le_of_ble_eq_true rfl, Nat.le_of_ble_eq_true rfl, q237⟩) rfl rfl (by simp [rv_cat, cat_int, cat_long]) dX11_init_217 ?_
  intro qq9 sh234 h235 p236
  obtain ⟨rfl, p236⟩ := p236
  have hV := hV sh234 h235 p236
  refine g_eq (pc2 := 220) (st2 := [rv w.2.2.2 r228, rv w.2.2.2 (h217.2.1 x0 5), rv w.2.2.2 r222, rv w.2.2.2 r222, rv w.2.2.2 x0]) rfl rfl ?_
  obtain ⟨q238, hV⟩ := hV
  refine g_new (pc := 220) X cl_X11_43 q238.1 (by rw [hR]; exact ⟨Nat.le_of_ble_eq_true rfl, q238.2⟩) dX11_init_220 ?_
  obtain ⟨sh239, e240⟩ : ∃ z, z = sh234 ++ [Sum.inr 4] := ⟨_, rfl⟩
  obtain ⟨r241, e242⟩ : ∃ z, z = sh234.length + 1 := ⟨_, rfl⟩
  rw [← e240, ← e242]
  have hV := hV sh239 r241 e240 e242
  refine g_dup (pc := 223) X dX11_init_223 (rv_cat _ _) ?_
  refine g_iconst (pc := 224) (v := (0 : Int32)) X dX11_init_224 (by decide) ?_
  obtain ⟨q243, hV⟩ := hV
  obtain ⟨m245, P244, t246, q250, hV⟩ := hV
  refine g_invI (pc := 225) X (As := [Value.int (0 : Int32)]) ml_X11_45 q243 t246 (by rw [hR]; exact ⟨Nat.le_of_ble_eq_true rfl, Nat.le_of_ble_eq_true rfl, Nat.le_of_ble_eq_true rfl, q250⟩) rfl rfl (by simp [rv_cat, cat_int, cat_long]) dX11_init_225 ?_
  intro qq9 sh247 h248 p249
  obtain ⟨rfl, p249⟩ := p249
  have hV := hV sh247 h248 p249
  refine g_eq (pc2 := 228) (st2 := [rv w.2.2.2 r241, rv w.2.2.2 r228, rv w.2.2.2 (h217.2.1 x0 5), rv w.2.2.2 r222, rv w.2.2.2 r222, rv w.2.2.2 x0]) rfl rfl ?_
  refine g_iconst (pc := 228) (v := (4 : Int32)) X dX11_init_228 (by decide) ?_
  obtain ⟨q251, hV⟩ := hV
  obtain ⟨m253, P252, t254, q258, hV⟩ := hV
  refine g_invI (pc := 229) X (As := [rv w.2.2.2 (h217.2.1 x0 5), rv w.2.2.2 r228, rv w.2.2.2 r241, Value.int (4 : Int32)]) ml_X11_74 q251 t254 (by rw [hR]; exact ⟨Nat.le_of_ble_eq_true rfl, Nat.le_of_ble_eq_true rfl, Nat.le_of_ble_eq_true rfl, q258⟩) rfl rfl (by simp [rv_cat, cat_int, cat_long]) dX11_init_229 ?_
  intro qq9 sh255 h256 p257
  obtain ⟨rfl, p257⟩ := p257
  have hV := hV sh255 h256 p257
  refine g_eq (pc2 := 232) (st2 := [rv w.2.2.2 r222, rv w.2.2.2 x0]) rfl rfl ?_
  obtain ⟨q259, hV⟩ := hV
  refine g_putFR (pc := 232) X ff_X11_81 hin q259 rfl dX11_init_232 (fun h260 e261 => ?_)
  have hV := hV h260 e261
  rw [hV.1]
  exact g_vret (pc := 235) X Tt ⟨rfl, hV.2⟩ dX11_init_235
def C_X11_init (w : Wd) (sh : List Sh) (x0 : Nat) (h : Hp) (ms : Nat) (RET : List Sh → Hp → Prop) : Prop := Ct w yX11_init (.code yX11_init cX11_init 1 none) 5 117 95 ms [rv w.2.2.2 x0] sh h (fun q sh9 h9 => q = none ∧ RET sh9 h9)
theorem K_X11_init {w : Wd} {sh : List Sh} {x0 : Nat} {h : Hp} {ms : Nat} {RET : List Sh → Hp → Prop} (hV : V_X11_init_0 w sh x0 h ms RET) : C_X11_init w sh x0 h ms RET :=
  Ct_of (by decide +kernel) (by simp [lg_sl, rv_cat, cat_int, cat_long]) (fun E X Tt hR hin => by
    rw [show lv_args 0 [rv w.2.2.2 x0] = [(0, rv w.2.2.2 x0)] from by simp [lv_args, rv_cat, cat_int, cat_long]]
    refine g_lv [0] rfl ?_
    exact W_X11_init_0 X Tt hR hin hV)
set_option maxRecDepth 20000 in
def V_X12_init_479 (w : Wd) (sh : List Sh) (x0 : Nat) (x1 : Int32) (x2 : Int32) (h : Hp) (ms : Nat) (L306 : List Sh → Nat → Int32 → Int32 → Hp → Prop) (L332 : List Sh → Nat → Int32 → Int32 → Hp → Prop) (L352 : List Sh → Nat → Int32 → Int32 → Int32 → Hp → Prop) (L384 : List Sh → Nat → Int32 → Int32 → Hp → Prop) (L391 : List Sh → Nat → Int32 → Int32 → Int32 → Hp → Prop) (L399 : List Sh → Nat → Int32 → Int32 → Int32 → Int32 → Hp → Prop) (L440 : List Sh → Nat → Int32 → Int32 → Hp → Prop) (L448 : List Sh → Nat → Int32 → Int32 → Int32 → Hp → Prop) (L479 : List Sh → Nat → Int32 → Int32 → Hp → Prop) (RET : List Sh → Hp → Prop) : Prop :=
  (((8 : Int32) < x2) → (shAt sh x0 = some (.inr 12) ∧ (∃ P3 : Hp → Prop, C_X12_takeTable w sh x0 (0 : Int32) (1 : Int32) h P3 ∧ (∀ h6 : Hp, P3 h6 → (∃ P8 : Hp → Prop, C_X12_takeTable w sh x0 (0 : Int32) (2 : Int32) h6 P8 ∧ (∀ h11 : Hp, P8 h11 → (∃ P13 : Hp → Prop, C_X12_asBytes w sh x0 (0 : Int32) (h11.2.1 x0 12) h11 P13 ∧ (∀ h16 : Hp, P13 h16 → (RET sh h16))))))))) ∧ ((¬ (8 : Int32) < x2) → (shAt sh x0 = some (.inr 12) ∧ (∃ P19 : Int32 → Hp → Prop, C_X12_code w sh x0 x1 (3 : Int32) (4 : Int32) x2 (1 : Int32) (1 : Int32) (0 : Int32) h P19 ∧ (∀ (v23 : Int32) (h22 : Hp), P19 v23 h22 → (∀ y25 : Int32, y25 = v23 → (∀ y27 : Int32, y27 = x2 + (1 : Int32) → (L479 sh x0 y25 y27 h22)))))))
set_option maxRecDepth 20000 in
set_option maxHeartbeats 8000000 in
theorem W_X12_init_479 {w : Wd} {E : GE} {sh : List Sh} {x0 : Nat} {x1 : Int32} {x2 : Int32} {h : Hp} {ms n0 : Nat} {L306 : List Sh → Nat → Int32 → Int32 → Hp → Prop} {L332 : List Sh → Nat → Int32 → Int32 → Hp → Prop} {L352 : List Sh → Nat → Int32 → Int32 → Int32 → Hp → Prop} {L384 : List Sh → Nat → Int32 → Int32 → Hp → Prop} {L391 : List Sh → Nat → Int32 → Int32 → Int32 → Hp → Prop} {L399 : List Sh → Nat → Int32 → Int32 → Int32 → Int32 → Hp → Prop} {L440 : List Sh → Nat → Int32 → Int32 → Hp → Prop} {L448 : List Sh → Nat → Int32 → Int32 → Int32 → Hp → Prop} {L479 : List Sh → Nat → Int32 → Int32 → Hp → Prop} {RET : List Sh → Hp → Prop} (X : Cx w E cX12_init 5 RX12) (Tt : Rt w E none n0 28 ms (fun q sh9 h9 => q = none ∧ RET sh9 h9)) (hR : gR E = { frames := 2, cells := 28, slots := ms, locals := 47 }) (hin : (gme E).name = "<init>") (hL306 : ∀ (sh : List Sh) (x0 : Nat) (x1 : Int32) (x2 : Int32) (h : Hp), L306 sh x0 x1 x2 h → G w E 5 306 [(0, rv w.2.2.2 x0), (1, Value.int x1), (2, Value.int x2)] [] sh h 28 ms) (hL332 : ∀ (sh : List Sh) (x0 : Nat) (x1 : Int32) (x2 : Int32) (h : Hp), L332 sh x0 x1 x2 h → G w E 5 332 [(0, rv w.2.2.2 x0), (1, Value.int x1), (2, Value.int x2)] [] sh h 28 ms) (hL352 : ∀ (sh : List Sh) (x0 : Nat) (x1 : Int32) (x2 : Int32) (x3 : Int32) (h : Hp), L352 sh x0 x1 x2 x3 h → G w E 5 352 [(0, rv w.2.2.2 x0), (1, Value.int x1), (2, Value.int x2), (3, Value.int x3)] [] sh h 28 ms) (hL384 : ∀ (sh : List Sh) (x0 : Nat) (x1 : Int32) (x2 : Int32) (h : Hp), L384 sh x0 x1 x2 h → G w E 5 384 [(0, rv w.2.2.2 x0), (1, Value.int x1), (2, Value.int x2)] [] sh h 28 ms) (hL391 : ∀ (sh : List Sh) (x0 : Nat) (x1 : Int32) (x2 : Int32) (x3 : Int32) (h : Hp), L391 sh x0 x1 x2 x3 h → G w E 5 391 [(0, rv w.2.2.2 x0), (1, Value.int x1), (2, Value.int x2), (3, Value.int x3)] [] sh h 28 ms) (hL399 : ∀ (sh : List Sh) (x0 : Nat) (x1 : Int32) (x2 : Int32) (x3 : Int32) (x4 : Int32) (h : Hp), L399 sh x0 x1 x2 x3 x4 h → G w E 5 399 [(0, rv w.2.2.2 x0), (1, Value.int x1), (2, Value.int x2), (3, Value.int x3), (4, Value.int x4)] [] sh h 28 ms) (hL440 : ∀ (sh : List Sh) (x0 : Nat) (x1 : Int32) (x2 : Int32) (h : Hp), L440 sh x0 x1 x2 h → G w E 5 440 [(0, rv w.2.2.2 x0), (1, Value.int x1), (2, Value.int x2)] [] sh h 28 ms) (hL448 : ∀ (sh : List Sh) (x0 : Nat) (x1 : Int32) (x2 : Int32) (x3 : Int32) (h : Hp), L448 sh x0 x1 x2 x3 h → G w E 5 448 [(0, rv w.2.2.2 x0), (1, Value.int x1), (2, Value.int x2), (3, Value.int x3)] [] sh h 28 ms) (hL479 : ∀ (sh : List Sh) (x0 : Nat) (x1 : Int32) (x2 : Int32) (h : Hp), L479 sh x0 x1 x2 h → G w E 5 479 [(0, rv w.2.2.2 x0), (1, Value.int x1), (2, Value.int x2)] [] sh h 28 ms) (hV : V_X12_init_479 w sh x0 x1 x2 h ms L306 L332 L352 L384 L391 L399 L440 L448 L479 RET) : G w E 5 479 [(0, rv w.2.2.2 x0), (1, Value.int x1), (2, Value.int x2)] [] sh h 28 ms := by
  unfold V_X12_init_479 at hV
  refine g_iload_n (pc := 479) X 2 rfl rfl dX12_init_479 ?_
  refine g_bipush (pc := 480) (v := (8 : Int32)) X dX12_init_480 (by decide) ?_
  refine g_icmp_gt (pc := 482) X 503 dX12_init_482 (by decide) (fun c1 => ?_) (fun c1 => ?_)
  · have hV := hV.1 c1
    refine g_aload_n (pc := 503) X 0 rfl rfl dX12_init_503 ?_
    refine g_iconst (pc := 504) (v := (0 : Int32)) X dX12_init_504 (by decide) ?_
    refine g_iconst (pc := 505) (v := (1 : Int32)) X dX12_init_505 (by decide) ?_
    obtain ⟨q2, hV⟩ := hV
    obtain ⟨P3, t4, hV⟩ := hV
    refine g_cVV (pc := 506) X (As := [Value.int (0 : Int32), Value.int (1 : Int32)]) ml_X12_114 rfl q2 t4 (by rw [hR]; exact ⟨Nat.le_of_ble_eq_true rfl, Nat.le_of_ble_eq_true rfl, Nat.le_of_ble_eq_true rfl, Nat.le_refl _⟩) rfl rfl (Nat.zero_le _) dX12_init_506 (fun h6 p5 => ?_)
    have hV := hV h6 p5
    refine g_aload_n (pc := 509) X 0 rfl rfl dX12_init_509 ?_
    refine g_iconst (pc := 510) (v := (0 : Int32)) X dX12_init_510 (by decide) ?_
    refine g_iconst (pc := 511) (v := (2 : Int32)) X dX12_init_511 (by decide) ?_
    obtain ⟨P8, t9, hV⟩ := hV
    refine g_cVV (pc := 512) X (As := [Value.int (0 : Int32), Value.int (2 : Int32)]) ml_X12_114 rfl q2 t9 (by rw [hR]; exact ⟨Nat.le_of_ble_eq_true rfl, Nat.le_of_ble_eq_true rfl, Nat.le_of_ble_eq_true rfl, Nat.le_refl _⟩) rfl rfl (Nat.zero_le _) dX12_init_512 (fun h11 p10 => ?_)
    have hV := hV h11 p10
    refine g_aload_n (pc := 515) X 0 rfl rfl dX12_init_515 ?_
    refine g_iconst (pc := 516) (v := (0 : Int32)) X dX12_init_516 (by decide) ?_
    refine g_aload_n (pc := 517) X 0 rfl rfl dX12_init_517 ?_
    refine g_getR (pc := 518) X fl_X12_33 q2 dX12_init_518 ?_
    obtain ⟨P13, t14, hV⟩ := hV
    refine g_cVV (pc := 521) X (As := [Value.int (0 : Int32), rv w.2.2.2 (h11.2.1 x0 12)]) ml_X12_118 rfl q2 t14 (by rw [hR]; exact ⟨Nat.le_of_ble_eq_true rfl, Nat.le_of_ble_eq_true rfl, Nat.le_of_ble_eq_true rfl, Nat.le_refl _⟩) rfl rfl (Nat.zero_le _) dX12_init_521 (fun h16 p15 => ?_)
    have hV := hV h16 p15
    exact g_vret (pc := 524) X Tt ⟨rfl, hV⟩ dX12_init_524
  · have hV := hV.2 c1
    refine g_aload_n (pc := 485) X 0 rfl rfl dX12_init_485 ?_
    refine g_iload_n (pc := 486) X 1 rfl rfl dX12_init_486 ?_
    refine g_iconst (pc := 487) (v := (3 : Int32)) X dX12_init_487 (by decide) ?_
    refine g_iconst (pc := 488) (v := (4 : Int32)) X dX12_init_488 (by decide) ?_
    refine g_iload_n (pc := 489) X 2 rfl rfl dX12_init_489 ?_
    refine g_iconst (pc := 490) (v := (1 : Int32)) X dX12_init_490 (by decide) ?_
    refine g_iconst (pc := 491) (v := (1 : Int32)) X dX12_init_491 (by decide) ?_
    refine g_iconst (pc := 492) (v := (0 : Int32)) X dX12_init_492 (by decide) ?_
    obtain ⟨q18, hV⟩ := hV
    obtain ⟨P19, t20, hV⟩ := hV
    refine g_cVI (pc := 493) X (As := [Value.int x1, Value.int (3 : Int32), Value.int (4 : Int32), Value.int x2, Value.int (1 : Int32), Value.int (1 : Int32), Value.int (0 : Int32)]) ml_X12_110 rfl q18 t20 (by rw [hR]; exact ⟨Nat.le_of_ble_eq_true rfl, Nat.le_of_ble_eq_true rfl, Nat.le_of_ble_eq_true rfl, Nat.le_refl _⟩) rfl rfl (Nat.zero_le _) dX12_init_493 (fun v23 h22 p21 => ?_)
    have hV := hV v23 h22 p21
    refine g_istore_n (pc := 496) X (i := 1) (rest := [(0, rv w.2.2.2 x0), (2, Value.int x2)]) rfl (by decide) (by simp [flt1, flt2, rv_cat, cat_int, cat_long]) dX12_init_496 (fun y25 e26 => ?_)
    have hV := hV y25 e26
    refine g_iinc (pc := 497) X 2 (v := (1 : Int32)) (rest := [(1, Value.int y25), (0, rv w.2.2.2 x0)]) rfl (by decide) rfl (by decide) dX12_init_497 (fun y27 e28 => ?_)
    have hV := hV y27 e28
    refine g_goto (pc := 500) X 479 dX12_init_500 (by decide) ?_
    refine g_lv [2, 1, 0] rfl ?_
    exact hL479 sh x0 y25 y27 h22 hV
set_option maxRecDepth 20000 in
def V_X12_init_448 (w : Wd) (sh : List Sh) (x0 : Nat) (x1 : Int32) (x2 : Int32) (x3 : Int32) (h : Hp) (ms : Nat) (L306 : List Sh → Nat → Int32 → Int32 → Hp → Prop) (L332 : List Sh → Nat → Int32 → Int32 → Hp → Prop) (L352 : List Sh → Nat → Int32 → Int32 → Int32 → Hp → Prop) (L384 : List Sh → Nat → Int32 → Int32 → Hp → Prop) (L391 : List Sh → Nat → Int32 → Int32 → Int32 → Hp → Prop) (L399 : List Sh → Nat → Int32 → Int32 → Int32 → Int32 → Hp → Prop) (L440 : List Sh → Nat → Int32 → Int32 → Hp → Prop) (L448 : List Sh → Nat → Int32 → Int32 → Int32 → Hp → Prop) (L479 : List Sh → Nat → Int32 → Int32 → Hp → Prop) (RET : List Sh → Hp → Prop) : Prop :=
  (((4 : Int32) < x3) → (∀ y2 : Int32, y2 = x2 + (1 : Int32) → (L440 sh x0 x1 y2 h))) ∧ ((¬ (4 : Int32) < x3) → (shAt sh x0 = some (.inr 12) ∧ (∃ P5 : Int32 → Hp → Prop, C_X12_code w sh x0 x1 (1 : Int32) x3 (0 : Int32) (3 : Int32) (4 : Int32) x2 h P5 ∧ (∀ (v9 : Int32) (h8 : Hp), P5 v9 h8 → (∀ y11 : Int32, y11 = v9 → (∀ y13 : Int32, y13 = x3 + (1 : Int32) → (L448 sh x0 y11 x2 y13 h8)))))))
set_option maxRecDepth 20000 in
set_option maxHeartbeats 8000000 in
theorem W_X12_init_448 {w : Wd} {E : GE} {sh : List Sh} {x0 : Nat} {x1 : Int32} {x2 : Int32} {x3 : Int32} {h : Hp} {ms n0 : Nat} {L306 : List Sh → Nat → Int32 → Int32 → Hp → Prop} {L332 : List Sh → Nat → Int32 → Int32 → Hp → Prop} {L352 : List Sh → Nat → Int32 → Int32 → Int32 → Hp → Prop} {L384 : List Sh → Nat → Int32 → Int32 → Hp → Prop} {L391 : List Sh → Nat → Int32 → Int32 → Int32 → Hp → Prop} {L399 : List Sh → Nat → Int32 → Int32 → Int32 → Int32 → Hp → Prop} {L440 : List Sh → Nat → Int32 → Int32 → Hp → Prop} {L448 : List Sh → Nat → Int32 → Int32 → Int32 → Hp → Prop} {L479 : List Sh → Nat → Int32 → Int32 → Hp → Prop} {RET : List Sh → Hp → Prop} (X : Cx w E cX12_init 5 RX12) (Tt : Rt w E none n0 28 ms (fun q sh9 h9 => q = none ∧ RET sh9 h9)) (hR : gR E = { frames := 2, cells := 28, slots := ms, locals := 47 }) (hin : (gme E).name = "<init>") (hL306 : ∀ (sh : List Sh) (x0 : Nat) (x1 : Int32) (x2 : Int32) (h : Hp), L306 sh x0 x1 x2 h → G w E 5 306 [(0, rv w.2.2.2 x0), (1, Value.int x1), (2, Value.int x2)] [] sh h 28 ms) (hL332 : ∀ (sh : List Sh) (x0 : Nat) (x1 : Int32) (x2 : Int32) (h : Hp), L332 sh x0 x1 x2 h → G w E 5 332 [(0, rv w.2.2.2 x0), (1, Value.int x1), (2, Value.int x2)] [] sh h 28 ms) (hL352 : ∀ (sh : List Sh) (x0 : Nat) (x1 : Int32) (x2 : Int32) (x3 : Int32) (h : Hp), L352 sh x0 x1 x2 x3 h → G w E 5 352 [(0, rv w.2.2.2 x0), (1, Value.int x1), (2, Value.int x2), (3, Value.int x3)] [] sh h 28 ms) (hL384 : ∀ (sh : List Sh) (x0 : Nat) (x1 : Int32) (x2 : Int32) (h : Hp), L384 sh x0 x1 x2 h → G w E 5 384 [(0, rv w.2.2.2 x0), (1, Value.int x1), (2, Value.int x2)] [] sh h 28 ms) (hL391 : ∀ (sh : List Sh) (x0 : Nat) (x1 : Int32) (x2 : Int32) (x3 : Int32) (h : Hp), L391 sh x0 x1 x2 x3 h → G w E 5 391 [(0, rv w.2.2.2 x0), (1, Value.int x1), (2, Value.int x2), (3, Value.int x3)] [] sh h 28 ms) (hL399 : ∀ (sh : List Sh) (x0 : Nat) (x1 : Int32) (x2 : Int32) (x3 : Int32) (x4 : Int32) (h : Hp), L399 sh x0 x1 x2 x3 x4 h → G w E 5 399 [(0, rv w.2.2.2 x0), (1, Value.int x1), (2, Value.int x2), (3, Value.int x3), (4, Value.int x4)] [] sh h 28 ms) (hL440 : ∀ (sh : List Sh) (x0 : Nat) (x1 : Int32) (x2 : Int32) (h : Hp), L440 sh x0 x1 x2 h → G w E 5 440 [(0, rv w.2.2.2 x0), (1, Value.int x1), (2, Value.int x2)] [] sh h 28 ms) (hL448 : ∀ (sh : List Sh) (x0 : Nat) (x1 : Int32) (x2 : Int32) (x3 : Int32) (h : Hp), L448 sh x0 x1 x2 x3 h → G w E 5 448 [(0, rv w.2.2.2 x0), (1, Value.int x1), (2, Value.int x2), (3, Value.int x3)] [] sh h 28 ms) (hL479 : ∀ (sh : List Sh) (x0 : Nat) (x1 : Int32) (x2 : Int32) (h : Hp), L479 sh x0 x1 x2 h → G w E 5 479 [(0, rv w.2.2.2 x0), (1, Value.int x1), (2, Value.int x2)] [] sh h 28 ms) (hV : V_X12_init_448 w sh x0 x1 x2 x3 h ms L306 L332 L352 L384 L391 L399 L440 L448 L479 RET) : G w E 5 448 [(0, rv w.2.2.2 x0), (1, Value.int x1), (2, Value.int x2), (3, Value.int x3)] [] sh h 28 ms := by
  unfold V_X12_init_448 at hV
  refine g_iload_n (pc := 448) X 3 rfl rfl dX12_init_448 ?_
  refine g_iconst (pc := 449) (v := (4 : Int32)) X dX12_init_449 (by decide) ?_
  refine g_icmp_gt (pc := 450) X 471 dX12_init_450 (by decide) (fun c1 => ?_) (fun c1 => ?_)
  · have hV := hV.1 c1
    refine g_iinc (pc := 471) X 2 (v := (1 : Int32)) (rest := [(0, rv w.2.2.2 x0), (1, Value.int x1), (3, Value.int x3)]) rfl (by decide) rfl (by decide) dX12_init_471 (fun y2 e3 => ?_)
    have hV := hV y2 e3
    refine g_goto (pc := 474) X 440 dX12_init_474 (by decide) ?_
    refine g_lv [1, 2, 0] rfl ?_
    exact hL440 sh x0 x1 y2 h hV
  · have hV := hV.2 c1
    refine g_aload_n (pc := 453) X 0 rfl rfl dX12_init_453 ?_
    refine g_iload_n (pc := 454) X 1 rfl rfl dX12_init_454 ?_
    refine g_iconst (pc := 455) (v := (1 : Int32)) X dX12_init_455 (by decide) ?_
    refine g_iload_n (pc := 456) X 3 rfl rfl dX12_init_456 ?_
    refine g_iconst (pc := 457) (v := (0 : Int32)) X dX12_init_457 (by decide) ?_
    refine g_iconst (pc := 458) (v := (3 : Int32)) X dX12_init_458 (by decide) ?_
    refine g_iconst (pc := 459) (v := (4 : Int32)) X dX12_init_459 (by decide) ?_
    refine g_iload_n (pc := 460) X 2 rfl rfl dX12_init_460 ?_
    obtain ⟨q4, hV⟩ := hV
    obtain ⟨P5, t6, hV⟩ := hV
    refine g_cVI (pc := 461) X (As := [Value.int x1, Value.int (1 : Int32), Value.int x3, Value.int (0 : Int32), Value.int (3 : Int32), Value.int (4 : Int32), Value.int x2]) ml_X12_110 rfl q4 t6 (by rw [hR]; exact ⟨Nat.le_of_ble_eq_true rfl, Nat.le_of_ble_eq_true rfl, Nat.le_of_ble_eq_true rfl, Nat.le_refl _⟩) rfl rfl (Nat.zero_le _) dX12_init_461 (fun v9 h8 p7 => ?_)
    have hV := hV v9 h8 p7
    refine g_istore_n (pc := 464) X (i := 1) (rest := [(0, rv w.2.2.2 x0), (2, Value.int x2), (3, Value.int x3)]) rfl (by decide) (by simp [flt1, flt2, rv_cat, cat_int, cat_long]) dX12_init_464 (fun y11 e12 => ?_)
    have hV := hV y11 e12
    refine g_iinc (pc := 465) X 3 (v := (1 : Int32)) (rest := [(1, Value.int y11), (0, rv w.2.2.2 x0), (2, Value.int x2)]) rfl (by decide) rfl (by decide) dX12_init_465 (fun y13 e14 => ?_)
    have hV := hV y13 e14
    refine g_goto (pc := 468) X 448 dX12_init_468 (by decide) ?_
    refine g_lv [2, 1, 3, 0] rfl ?_
    exact hL448 sh x0 y11 x2 y13 h8 hV
set_option maxRecDepth 20000 in
def V_X12_init_440 (w : Wd) (sh : List Sh) (x0 : Nat) (x1 : Int32) (x2 : Int32) (h : Hp) (ms : Nat) (L306 : List Sh → Nat → Int32 → Int32 → Hp → Prop) (L332 : List Sh → Nat → Int32 → Int32 → Hp → Prop) (L352 : List Sh → Nat → Int32 → Int32 → Int32 → Hp → Prop) (L384 : List Sh → Nat → Int32 → Int32 → Hp → Prop) (L391 : List Sh → Nat → Int32 → Int32 → Int32 → Hp → Prop) (L399 : List Sh → Nat → Int32 → Int32 → Int32 → Int32 → Hp → Prop) (L440 : List Sh → Nat → Int32 → Int32 → Hp → Prop) (L448 : List Sh → Nat → Int32 → Int32 → Int32 → Hp → Prop) (L479 : List Sh → Nat → Int32 → Int32 → Hp → Prop) (RET : List Sh → Hp → Prop) : Prop :=
  (((8 : Int32) < x2) → (∀ y2 : Int32, y2 = (0 : Int32) → (L479 sh x0 x1 y2 h))) ∧ ((¬ (8 : Int32) < x2) → (∀ y4 : Int32, y4 = (1 : Int32) → (L448 sh x0 x1 x2 y4 h)))
set_option maxRecDepth 20000 in
set_option maxHeartbeats 8000000 in
theorem W_X12_init_440 {w : Wd} {E : GE} {sh : List Sh} {x0 : Nat} {x1 : Int32} {x2 : Int32} {h : Hp} {ms n0 : Nat} {L306 : List Sh → Nat → Int32 → Int32 → Hp → Prop} {L332 : List Sh → Nat → Int32 → Int32 → Hp → Prop} {L352 : List Sh → Nat → Int32 → Int32 → Int32 → Hp → Prop} {L384 : List Sh → Nat → Int32 → Int32 → Hp → Prop} {L391 : List Sh → Nat → Int32 → Int32 → Int32 → Hp → Prop} {L399 : List Sh → Nat → Int32 → Int32 → Int32 → Int32 → Hp → Prop} {L440 : List Sh → Nat → Int32 → Int32 → Hp → Prop} {L448 : List Sh → Nat → Int32 → Int32 → Int32 → Hp → Prop} {L479 : List Sh → Nat → Int32 → Int32 → Hp → Prop} {RET : List Sh → Hp → Prop} (X : Cx w E cX12_init 5 RX12) (Tt : Rt w E none n0 28 ms (fun q sh9 h9 => q = none ∧ RET sh9 h9)) (hR : gR E = { frames := 2, cells := 28, slots := ms, locals := 47 }) (hin : (gme E).name = "<init>") (hL306 : ∀ (sh : List Sh) (x0 : Nat) (x1 : Int32) (x2 : Int32) (h : Hp), L306 sh x0 x1 x2 h → G w E 5 306 [(0, rv w.2.2.2 x0), (1, Value.int x1), (2, Value.int x2)] [] sh h 28 ms) (hL332 : ∀ (sh : List Sh) (x0 : Nat) (x1 : Int32) (x2 : Int32) (h : Hp), L332 sh x0 x1 x2 h → G w E 5 332 [(0, rv w.2.2.2 x0), (1, Value.int x1), (2, Value.int x2)] [] sh h 28 ms) (hL352 : ∀ (sh : List Sh) (x0 : Nat) (x1 : Int32) (x2 : Int32) (x3 : Int32) (h : Hp), L352 sh x0 x1 x2 x3 h → G w E 5 352 [(0, rv w.2.2.2 x0), (1, Value.int x1), (2, Value.int x2), (3, Value.int x3)] [] sh h 28 ms) (hL384 : ∀ (sh : List Sh) (x0 : Nat) (x1 : Int32) (x2 : Int32) (h : Hp), L384 sh x0 x1 x2 h → G w E 5 384 [(0, rv w.2.2.2 x0), (1, Value.int x1), (2, Value.int x2)] [] sh h 28 ms) (hL391 : ∀ (sh : List Sh) (x0 : Nat) (x1 : Int32) (x2 : Int32) (x3 : Int32) (h : Hp), L391 sh x0 x1 x2 x3 h → G w E 5 391 [(0, rv w.2.2.2 x0), (1, Value.int x1), (2, Value.int x2), (3, Value.int x3)] [] sh h 28 ms) (hL399 : ∀ (sh : List Sh) (x0 : Nat) (x1 : Int32) (x2 : Int32) (x3 : Int32) (x4 : Int32) (h : Hp), L399 sh x0 x1 x2 x3 x4 h → G w E 5 399 [(0, rv w.2.2.2 x0), (1, Value.int x1), (2, Value.int x2), (3, Value.int x3), (4, Value.int x4)] [] sh h 28 ms) (hL440 : ∀ (sh : List Sh) (x0 : Nat) (x1 : Int32) (x2 : Int32) (h : Hp), L440 sh x0 x1 x2 h → G w E 5 440 [(0, rv w.2.2.2 x0), (1, Value.int x1), (2, Value.int x2)] [] sh h 28 ms) (hL448 : ∀ (sh : List Sh) (x0 : Nat) (x1 : Int32) (x2 : Int32) (x3 : Int32) (h : Hp), L448 sh x0 x1 x2 x3 h → G w E 5 448 [(0, rv w.2.2.2 x0), (1, Value.int x1), (2, Value.int x2), (3, Value.int x3)] [] sh h 28 ms) (hL479 : ∀ (sh : List Sh) (x0 : Nat) (x1 : Int32) (x2 : Int32) (h : Hp), L479 sh x0 x1 x2 h → G w E 5 479 [(0, rv w.2.2.2 x0), (1, Value.int x1), (2, Value.int x2)] [] sh h 28 ms) (hV : V_X12_init_440 w sh x0 x1 x2 h ms L306 L332 L352 L384 L391 L399 L440 L448 L479 RET) : G w E 5 440 [(0, rv w.2.2.2 x0), (1, Value.int x1), (2, Value.int x2)] [] sh h 28 ms := by
  unfold V_X12_init_440 at hV
  refine g_iload_n (pc := 440) X 2 rfl rfl dX12_init_440 ?_
  refine g_bipush (pc := 441) (v := (8 : Int32)) X dX12_init_441 (by decide) ?_
  refine g_icmp_gt (pc := 443) X 477 dX12_init_443 (by decide) (fun c1 => ?_) (fun c1 => ?_)
  · have hV := hV.1 c1
    refine g_iconst (pc := 477) (v := (0 : Int32)) X dX12_init_477 (by decide) ?_
    refine g_istore_n (pc := 478) X (i := 2) (rest := [(0, rv w.2.2.2 x0), (1, Value.int x1)]) rfl (by decide) rfl dX12_init_478 (fun y2 e3 => ?_)
    have hV := hV y2 e3
    refine g_lv [1, 2, 0] rfl ?_
    exact hL479 sh x0 x1 y2 h hV
  · have hV := hV.2 c1
    refine g_iconst (pc := 446) (v := (1 : Int32)) X dX12_init_446 (by decide) ?_
    refine g_istore_n (pc := 447) X (i := 3) (rest := [(0, rv w.2.2.2 x0), (1, Value.int x1), (2, Value.int x2)]) rfl (by decide) rfl dX12_init_447 (fun y4 e5 => ?_)
    have hV := hV y4 e5
    refine g_lv [1, 2, 3, 0] rfl ?_
    exact hL448 sh x0 x1 x2 y4 h hV
set_option maxRecDepth 20000 in
def V_X12_init_399 (w : Wd) (sh : List Sh) (x0 : Nat) (x1 : Int32) (x2 : Int32) (x3 : Int32) (x4 : Int32) (h : Hp) (ms : Nat) (L306 : List Sh → Nat → Int32 → Int32 → Hp → Prop) (L332 : List Sh → Nat → Int32 → Int32 → Hp → Prop) (L352 : List Sh → Nat → Int32 → Int32 → Int32 → Hp → Prop) (L384 : List Sh → Nat → Int32 → Int32 → Hp → Prop) (L391 : List Sh → Nat → Int32 → Int32 → Int32 → Hp → Prop) (L399 : List Sh → Nat → Int32 → Int32 → Int32 → Int32 → Hp → Prop) (L440 : List Sh → Nat → Int32 → Int32 → Hp → Prop) (L448 : List Sh → Nat → Int32 → Int32 → Int32 → Hp → Prop) (L479 : List Sh → Nat → Int32 → Int32 → Hp → Prop) (RET : List Sh → Hp → Prop) : Prop :=
  (((6 : Int32) < x4) → (∀ y2 : Int32, y2 = x3 + (1 : Int32) → (L391 sh x0 x1 x2 y2 h))) ∧ ((¬ (6 : Int32) < x4) → (shAt sh x0 = some (.inr 12) ∧ (∃ P5 : Int32 → Hp → Prop, C_X12_code w sh x0 x1 (1 : Int32) x3 (0 : Int32) (3 : Int32) x4 x2 h P5 ∧ (∀ (v9 : Int32) (h8 : Hp), P5 v9 h8 → (∀ y11 : Int32, y11 = v9 → (∀ y13 : Int32, y13 = x4 + (1 : Int32) → (L399 sh x0 y11 x2 x3 y13 h8)))))))
set_option maxRecDepth 20000 in
set_option maxHeartbeats 8000000 in
theorem W_X12_init_399 {w : Wd} {E : GE} {sh : List Sh} {x0 : Nat} {x1 : Int32} {x2 : Int32} {x3 : Int32} {x4 : Int32} {h : Hp} {ms n0 : Nat} {L306 : List Sh → Nat → Int32 → Int32 → Hp → Prop} {L332 : List Sh → Nat → Int32 → Int32 → Hp → Prop} {L352 : List Sh → Nat → Int32 → Int32 → Int32 → Hp → Prop} {L384 : List Sh → Nat → Int32 → Int32 → Hp → Prop} {L391 : List Sh → Nat → Int32 → Int32 → Int32 → Hp → Prop} {L399 : List Sh → Nat → Int32 → Int32 → Int32 → Int32 → Hp → Prop} {L440 : List Sh → Nat → Int32 → Int32 → Hp → Prop} {L448 : List Sh → Nat → Int32 → Int32 → Int32 → Hp → Prop} {L479 : List Sh → Nat → Int32 → Int32 → Hp → Prop} {RET : List Sh → Hp → Prop} (X : Cx w E cX12_init 5 RX12) (Tt : Rt w E none n0 28 ms (fun q sh9 h9 => q = none ∧ RET sh9 h9)) (hR : gR E = { frames := 2, cells := 28, slots := ms, locals := 47 }) (hin : (gme E).name = "<init>") (hL306 : ∀ (sh : List Sh) (x0 : Nat) (x1 : Int32) (x2 : Int32) (h : Hp), L306 sh x0 x1 x2 h → G w E 5 306 [(0, rv w.2.2.2 x0), (1, Value.int x1), (2, Value.int x2)] [] sh h 28 ms) (hL332 : ∀ (sh : List Sh) (x0 : Nat) (x1 : Int32) (x2 : Int32) (h : Hp), L332 sh x0 x1 x2 h → G w E 5 332 [(0, rv w.2.2.2 x0), (1, Value.int x1), (2, Value.int x2)] [] sh h 28 ms) (hL352 : ∀ (sh : List Sh) (x0 : Nat) (x1 : Int32) (x2 : Int32) (x3 : Int32) (h : Hp), L352 sh x0 x1 x2 x3 h → G w E 5 352 [(0, rv w.2.2.2 x0), (1, Value.int x1), (2, Value.int x2), (3, Value.int x3)] [] sh h 28 ms) (hL384 : ∀ (sh : List Sh) (x0 : Nat) (x1 : Int32) (x2 : Int32) (h : Hp), L384 sh x0 x1 x2 h → G w E 5 384 [(0, rv w.2.2.2 x0), (1, Value.int x1), (2, Value.int x2)] [] sh h 28 ms) (hL391 : ∀ (sh : List Sh) (x0 : Nat) (x1 : Int32) (x2 : Int32) (x3 : Int32) (h : Hp), L391 sh x0 x1 x2 x3 h → G w E 5 391 [(0, rv w.2.2.2 x0), (1, Value.int x1), (2, Value.int x2), (3, Value.int x3)] [] sh h 28 ms) (hL399 : ∀ (sh : List Sh) (x0 : Nat) (x1 : Int32) (x2 : Int32) (x3 : Int32) (x4 : Int32) (h : Hp), L399 sh x0 x1 x2 x3 x4 h → G w E 5 399 [(0, rv w.2.2.2 x0), (1, Value.int x1), (2, Value.int x2), (3, Value.int x3), (4, Value.int x4)] [] sh h 28 ms) (hL440 : ∀ (sh : List Sh) (x0 : Nat) (x1 : Int32) (x2 : Int32) (h : Hp), L440 sh x0 x1 x2 h → G w E 5 440 [(0, rv w.2.2.2 x0), (1, Value.int x1), (2, Value.int x2)] [] sh h 28 ms) (hL448 : ∀ (sh : List Sh) (x0 : Nat) (x1 : Int32) (x2 : Int32) (x3 : Int32) (h : Hp), L448 sh x0 x1 x2 x3 h → G w E 5 448 [(0, rv w.2.2.2 x0), (1, Value.int x1), (2, Value.int x2), (3, Value.int x3)] [] sh h 28 ms) (hL479 : ∀ (sh : List Sh) (x0 : Nat) (x1 : Int32) (x2 : Int32) (h : Hp), L479 sh x0 x1 x2 h → G w E 5 479 [(0, rv w.2.2.2 x0), (1, Value.int x1), (2, Value.int x2)] [] sh h 28 ms) (hV : V_X12_init_399 w sh x0 x1 x2 x3 x4 h ms L306 L332 L352 L384 L391 L399 L440 L448 L479 RET) : G w E 5 399 [(0, rv w.2.2.2 x0), (1, Value.int x1), (2, Value.int x2), (3, Value.int x3), (4, Value.int x4)] [] sh h 28 ms := by
  unfold V_X12_init_399 at hV
  refine g_iload (pc := 399) X 4 rfl dX12_init_399 ?_
  refine g_bipush (pc := 401) (v := (6 : Int32)) X dX12_init_401 (by decide) ?_
  refine g_icmp_gt (pc := 403) X 425 dX12_init_403 (by decide) (fun c1 => ?_) (fun c1 => ?_)
  · have hV := hV.1 c1
    refine g_iinc (pc := 425) X 3 (v := (1 : Int32)) (rest := [(0, rv w.2.2.2 x0), (1, Value.int x1), (2, Value.int x2), (4, Value.int x4)]) rfl (by decide) rfl (by decide) dX12_init_425 (fun y2 e3 => ?_)
    have hV := hV y2 e3
    refine g_goto (pc := 428) X 391 dX12_init_428 (by decide) ?_
    refine g_lv [1, 2, 3, 0] rfl ?_
    exact hL391 sh x0 x1 x2 y2 h hV
  · have hV := hV.2 c1
    refine g_aload_n (pc := 406) X 0 rfl rfl dX12_init_406 ?_
    refine g_iload_n (pc := 407) X 1 rfl rfl dX12_init_407 ?_
    refine g_iconst (pc := 408) (v := (1 : Int32)) X dX12_init_408 (by decide) ?_
    refine g_iload_n (pc := 409) X 3 rfl rfl dX12_init_409 ?_
    refine g_iconst (pc := 410) (v := (0 : Int32)) X dX12_init_410 (by decide) ?_
    refine g_iconst (pc := 411) (v := (3 : Int32)) X dX12_init_411 (by decide) ?_
    refine g_iload (pc := 412) X 4 rfl dX12_init_412 ?_
    refine g_iload_n (pc := 414) X 2 rfl rfl dX12_init_414 ?_
    obtain ⟨q4, hV⟩ := hV
    obtain ⟨P5, t6, hV⟩ := hV
    refine g_cVI (pc := 415) X (As := [Value.int x1, Value.int (1 : Int32), Value.int x3, Value.int (0 : Int32), Value.int (3 : Int32), Value.int x4, Value.int x2]) ml_X12_110 rfl q4 t6 (by rw [hR]; exact ⟨Nat.le_of_ble_eq_true rfl, Nat.le_of_ble_eq_true rfl, Nat.le_of_ble_eq_true rfl, Nat.le_refl _⟩) rfl rfl (Nat.zero_le _) dX12_init_415 (fun v9 h8 p7 => ?_)
    have hV := hV v9 h8 p7
    refine g_istore_n (pc := 418) X (i := 1) (rest := [(0, rv w.2.2.2 x0), (2, Value.int x2), (3, Value.int x3), (4, Value.int x4)]) rfl (by decide) (by simp [flt1, flt2, rv_cat, cat_int, cat_long]) dX12_init_418 (fun y11 e12 => ?_)
    have hV := hV y11 e12
    refine g_iinc (pc := 419) X 4 (v := (1 : Int32)) (rest := [(1, Value.int y11), (0, rv w.2.2.2 x0), (2, Value.int x2), (3, Value.int x3)]) rfl (by decide) rfl (by decide) dX12_init_419 (fun y13 e14 => ?_)
    have hV := hV y13 e14
    refine g_goto (pc := 422) X 399 dX12_init_422 (by decide) ?_
    refine g_lv [2, 1, 3, 4, 0] rfl ?_
    exact hL399 sh x0 y11 x2 x3 y13 h8 hV
set_option maxRecDepth 20000 in
def V_X12_init_391 (w : Wd) (sh : List Sh) (x0 : Nat) (x1 : Int32) (x2 : Int32) (x3 : Int32) (h : Hp) (ms : Nat) (L306 : List Sh → Nat → Int32 → Int32 → Hp → Prop) (L332 : List Sh → Nat → Int32 → Int32 → Hp → Prop) (L352 : List Sh → Nat → Int32 → Int32 → Int32 → Hp → Prop) (L384 : List Sh → Nat → Int32 → Int32 → Hp → Prop) (L391 : List Sh → Nat → Int32 → Int32 → Int32 → Hp → Prop) (L399 : List Sh → Nat → Int32 → Int32 → Int32 → Int32 → Hp → Prop) (L440 : List Sh → Nat → Int32 → Int32 → Hp → Prop) (L448 : List Sh → Nat → Int32 → Int32 → Int32 → Hp → Prop) (L479 : List Sh → Nat → Int32 → Int32 → Hp → Prop) (RET : List Sh → Hp → Prop) : Prop :=
  (((4 : Int32) < x3) → (∀ y2 : Int32, y2 = x2 + (1 : Int32) → (L384 sh x0 x1 y2 h))) ∧ ((¬ (4 : Int32) < x3) → (∀ y4 : Int32, y4 = (4 : Int32) → (L399 sh x0 x1 x2 x3 y4 h)))
set_option maxRecDepth 20000 in
set_option maxHeartbeats 8000000 in
theorem W_X12_init_391 {w : Wd} {E : GE} {sh : List Sh} {x0 : Nat} {x1 : Int32} {x2 : Int32} {x3 : Int32} {h : Hp} {ms n0 : Nat} {L306 : List Sh → Nat → Int32 → Int32 → Hp → Prop} {L332 : List Sh → Nat → Int32 → Int32 → Hp → Prop} {L352 : List Sh → Nat → Int32 → Int32 → Int32 → Hp → Prop} {L384 : List Sh → Nat → Int32 → Int32 → Hp → Prop} {L391 : List Sh → Nat → Int32 → Int32 → Int32 → Hp → Prop} {L399 : List Sh → Nat → Int32 → Int32 → Int32 → Int32 → Hp → Prop} {L440 : List Sh → Nat → Int32 → Int32 → Hp → Prop} {L448 : List Sh → Nat → Int32 → Int32 → Int32 → Hp → Prop} {L479 : List Sh → Nat → Int32 → Int32 → Hp → Prop} {RET : List Sh → Hp → Prop} (X : Cx w E cX12_init 5 RX12) (Tt : Rt w E none n0 28 ms (fun q sh9 h9 => q = none ∧ RET sh9 h9)) (hR : gR E = { frames := 2, cells := 28, slots := ms, locals := 47 }) (hin : (gme E).name = "<init>") (hL306 : ∀ (sh : List Sh) (x0 : Nat) (x1 : Int32) (x2 : Int32) (h : Hp), L306 sh x0 x1 x2 h → G w E 5 306 [(0, rv w.2.2.2 x0), (1, Value.int x1), (2, Value.int x2)] [] sh h 28 ms) (hL332 : ∀ (sh : List Sh) (x0 : Nat) (x1 : Int32) (x2 : Int32) (h : Hp), L332 sh x0 x1 x2 h → G w E 5 332 [(0, rv w.2.2.2 x0), (1, Value.int x1), (2, Value.int x2)] [] sh h 28 ms) (hL352 : ∀ (sh : List Sh) (x0 : Nat) (x1 : Int32) (x2 : Int32) (x3 : Int32) (h : Hp), L352 sh x0 x1 x2 x3 h → G w E 5 352 [(0, rv w.2.2.2 x0), (1, Value.int x1), (2, Value.int x2), (3, Value.int x3)] [] sh h 28 ms) (hL384 : ∀ (sh : List Sh) (x0 : Nat) (x1 : Int32) (x2 : Int32) (h : Hp), L384 sh x0 x1 x2 h → G w E 5 384 [(0, rv w.2.2.2 x0), (1, Value.int x1), (2, Value.int x2)] [] sh h 28 ms) (hL391 : ∀ (sh : List Sh) (x0 : Nat) (x1 : Int32) (x2 : Int32) (x3 : Int32) (h : Hp), L391 sh x0 x1 x2 x3 h → G w E 5 391 [(0, rv w.2.2.2 x0), (1, Value.int x1), (2, Value.int x2), (3, Value.int x3)] [] sh h 28 ms) (hL399 : ∀ (sh : List Sh) (x0 : Nat) (x1 : Int32) (x2 : Int32) (x3 : Int32) (x4 : Int32) (h : Hp), L399 sh x0 x1 x2 x3 x4 h → G w E 5 399 [(0, rv w.2.2.2 x0), (1, Value.int x1), (2, Value.int x2), (3, Value.int x3), (4, Value.int x4)] [] sh h 28 ms) (hL440 : ∀ (sh : List Sh) (x0 : Nat) (x1 : Int32) (x2 : Int32) (h : Hp), L440 sh x0 x1 x2 h → G w E 5 440 [(0, rv w.2.2.2 x0), (1, Value.int x1), (2, Value.int x2)] [] sh h 28 ms) (hL448 : ∀ (sh : List Sh) (x0 : Nat) (x1 : Int32) (x2 : Int32) (x3 : Int32) (h : Hp), L448 sh x0 x1 x2 x3 h → G w E 5 448 [(0, rv w.2.2.2 x0), (1, Value.int x1), (2, Value.int x2), (3, Value.int x3)] [] sh h 28 ms) (hL479 : ∀ (sh : List Sh) (x0 : Nat) (x1 : Int32) (x2 : Int32) (h : Hp), L479 sh x0 x1 x2 h → G w E 5 479 [(0, rv w.2.2.2 x0), (1, Value.int x1), (2, Value.int x2)] [] sh h 28 ms) (hV : V_X12_init_391 w sh x0 x1 x2 x3 h ms L306 L332 L352 L384 L391 L399 L440 L448 L479 RET) : G w E 5 391 [(0, rv w.2.2.2 x0), (1, Value.int x1), (2, Value.int x2), (3, Value.int x3)] [] sh h 28 ms := by
  unfold V_X12_init_391 at hV
  refine g_iload_n (pc := 391) X 3 rfl rfl dX12_init_391 ?_
  refine g_iconst (pc := 392) (v := (4 : Int32)) X dX12_init_392 (by decide) ?_
  refine g_icmp_gt (pc := 393) X 431 dX12_init_393 (by decide) (fun c1 => ?_) (fun c1 => ?_)
  · have hV := hV.1 c1
    refine g_iinc (pc := 431) X 2 (v := (1 : Int32)) (rest := [(0, rv w.2.2.2 x0), (1, Value.int x1), (3, Value.int x3)]) rfl (by decide) rfl (by decide) dX12_init_431 (fun y2 e3 => ?_)
    have hV := hV y2 e3
    refine g_goto (pc := 434) X 384 dX12_init_434 (by decide) ?_
    refine g_lv [1, 2, 0] rfl ?_
    exact hL384 sh x0 x1 y2 h hV
  · have hV := hV.2 c1
    refine g_iconst (pc := 396) (v := (4 : Int32)) X dX12_init_396 (by decide) ?_
    refine g_istore (pc := 397) X (i := 4) (rest := [(0, rv w.2.2.2 x0), (1, Value.int x1), (2, Value.int x2), (3, Value.int x3)]) (by decide) rfl dX12_init_397 (fun y4 e5 => ?_)
    have hV := hV y4 e5
    refine g_lv [1, 2, 3, 4, 0] rfl ?_
    exact hL399 sh x0 x1 x2 x3 y4 h hV
set_option maxRecDepth 20000 in
def V_X12_init_384 (w : Wd) (sh : List Sh) (x0 : Nat) (x1 : Int32) (x2 : Int32) (h : Hp) (ms : Nat) (L306 : List Sh → Nat → Int32 → Int32 → Hp → Prop) (L332 : List Sh → Nat → Int32 → Int32 → Hp → Prop) (L352 : List Sh → Nat → Int32 → Int32 → Int32 → Hp → Prop) (L384 : List Sh → Nat → Int32 → Int32 → Hp → Prop) (L391 : List Sh → Nat → Int32 → Int32 → Int32 → Hp → Prop) (L399 : List Sh → Nat → Int32 → Int32 → Int32 → Int32 → Hp → Prop) (L440 : List Sh → Nat → Int32 → Int32 → Hp → Prop) (L448 : List Sh → Nat → Int32 → Int32 → Int32 → Hp → Prop) (L479 : List Sh → Nat → Int32 → Int32 → Hp → Prop) (RET : List Sh → Hp → Prop) : Prop :=
  (((5 : Int32) < x2) → (∀ y2 : Int32, y2 = (6 : Int32) → (L440 sh x0 x1 y2 h))) ∧ ((¬ (5 : Int32) < x2) → (∀ y4 : Int32, y4 = (1 : Int32) → (L391 sh x0 x1 x2 y4 h)))
set_option maxRecDepth 20000 in
set_option maxHeartbeats 8000000 in
theorem W_X12_init_384 {w : Wd} {E : GE} {sh : List Sh} {x0 : Nat} {x1 : Int32} {x2 : Int32} {h : Hp} {ms n0 : Nat} {L306 : List Sh → Nat → Int32 → Int32 → Hp → Prop} {L332 : List Sh → Nat → Int32 → Int32 → Hp → Prop} {L352 : List Sh → Nat → Int32 → Int32 → Int32 → Hp → Prop} {L384 : List Sh → Nat → Int32 → Int32 → Hp → Prop} {L391 : List Sh → Nat → Int32 → Int32 → Int32 → Hp → Prop} {L399 : List Sh → Nat → Int32 → Int32 → Int32 → Int32 → Hp → Prop} {L440 : List Sh → Nat → Int32 → Int32 → Hp → Prop} {L448 : List Sh → Nat → Int32 → Int32 → Int32 → Hp → Prop} {L479 : List Sh → Nat → Int32 → Int32 → Hp → Prop} {RET : List Sh → Hp → Prop} (X : Cx w E cX12_init 5 RX12) (Tt : Rt w E none n0 28 ms (fun q sh9 h9 => q = none ∧ RET sh9 h9)) (hR : gR E = { frames := 2, cells := 28, slots := ms, locals := 47 }) (hin : (gme E).name = "<init>") (hL306 : ∀ (sh : List Sh) (x0 : Nat) (x1 : Int32) (x2 : Int32) (h : Hp), L306 sh x0 x1 x2 h → G w E 5 306 [(0, rv w.2.2.2 x0), (1, Value.int x1), (2, Value.int x2)] [] sh h 28 ms) (hL332 : ∀ (sh : List Sh) (x0 : Nat) (x1 : Int32) (x2 : Int32) (h : Hp), L332 sh x0 x1 x2 h → G w E 5 332 [(0, rv w.2.2.2 x0), (1, Value.int x1), (2, Value.int x2)] [] sh h 28 ms) (hL352 : ∀ (sh : List Sh) (x0 : Nat) (x1 : Int32) (x2 : Int32) (x3 : Int32) (h : Hp), L352 sh x0 x1 x2 x3 h → G w E 5 352 [(0, rv w.2.2.2 x0), (1, Value.int x1), (2, Value.int x2), (3, Value.int x3)] [] sh h 28 ms) (hL384 : ∀ (sh : List Sh) (x0 : Nat) (x1 : Int32) (x2 : Int32) (h : Hp), L384 sh x0 x1 x2 h → G w E 5 384 [(0, rv w.2.2.2 x0), (1, Value.int x1), (2, Value.int x2)] [] sh h 28 ms) (hL391 : ∀ (sh : List Sh) (x0 : Nat) (x1 : Int32) (x2 : Int32) (x3 : Int32) (h : Hp), L391 sh x0 x1 x2 x3 h → G w E 5 391 [(0, rv w.2.2.2 x0), (1, Value.int x1), (2, Value.int x2), (3, Value.int x3)] [] sh h 28 ms) (hL399 : ∀ (sh : List Sh) (x0 : Nat) (x1 : Int32) (x2 : Int32) (x3 : Int32) (x4 : Int32) (h : Hp), L399 sh x0 x1 x2 x3 x4 h → G w E 5 399 [(0, rv w.2.2.2 x0), (1, Value.int x1), (2, Value.int x2), (3, Value.int x3), (4, Value.int x4)] [] sh h 28 ms) (hL440 : ∀ (sh : List Sh) (x0 : Nat) (x1 : Int32) (x2 : Int32) (h : Hp), L440 sh x0 x1 x2 h → G w E 5 440 [(0, rv w.2.2.2 x0), (1, Value.int x1), (2, Value.int x2)] [] sh h 28 ms) (hL448 : ∀ (sh : List Sh) (x0 : Nat) (x1 : Int32) (x2 : Int32) (x3 : Int32) (h : Hp), L448 sh x0 x1 x2 x3 h → G w E 5 448 [(0, rv w.2.2.2 x0), (1, Value.int x1), (2, Value.int x2), (3, Value.int x3)] [] sh h 28 ms) (hL479 : ∀ (sh : List Sh) (x0 : Nat) (x1 : Int32) (x2 : Int32) (h : Hp), L479 sh x0 x1 x2 h → G w E 5 479 [(0, rv w.2.2.2 x0), (1, Value.int x1), (2, Value.int x2)] [] sh h 28 ms) (hV : V_X12_init_384 w sh x0 x1 x2 h ms L306 L332 L352 L384 L391 L399 L440 L448 L479 RET) : G w E 5 384 [(0, rv w.2.2.2 x0), (1, Value.int x1), (2, Value.int x2)] [] sh h 28 ms := by
  unfold V_X12_init_384 at hV
  refine g_iload_n (pc := 384) X 2 rfl rfl dX12_init_384 ?_
  refine g_iconst (pc := 385) (v := (5 : Int32)) X dX12_init_385 (by decide) ?_
  refine g_icmp_gt (pc := 386) X 437 dX12_init_386 (by decide) (fun c1 => ?_) (fun c1 => ?_)
  · have hV := hV.1 c1
    refine g_bipush (pc := 437) (v := (6 : Int32)) X dX12_init_437 (by decide) ?_
    refine g_istore_n (pc := 439) X (i := 2) (rest := [(0, rv w.2.2.2 x0), (1, Value.int x1)]) rfl (by decide) rfl dX12_init_439 (fun y2 e3 => ?_)
    have hV := hV y2 e3
    refine g_lv [1, 2, 0] rfl ?_
    exact hL440 sh x0 x1 y2 h hV
  · have hV := hV.2 c1
    refine g_iconst (pc := 389) (v := (1 : Int32)) X dX12_init_389 (by decide) ?_
    refine g_istore_n (pc := 390) X (i := 3) (rest := [(0, rv w.2.2.2 x0), (1, Value.int x1), (2, Value.int x2)]) rfl (by decide) rfl dX12_init_390 (fun y4 e5 => ?_)
    have hV := hV y4 e5
    refine g_lv [1, 2, 3, 0] rfl ?_
    exact hL391 sh x0 x1 x2 y4 h hV
set_option maxRecDepth 20000 in
def V_X12_init_352 (w : Wd) (sh : List Sh) (x0 : Nat) (x1 : Int32) (x2 : Int32) (x3 : Int32) (h : Hp) (ms : Nat) (L306 : List Sh → Nat → Int32 → Int32 → Hp → Prop) (L332 : List Sh → Nat → Int32 → Int32 → Hp → Prop) (L352 : List Sh → Nat → Int32 → Int32 → Int32 → Hp → Prop) (L384 : List Sh → Nat → Int32 → Int32 → Hp → Prop) (L391 : List Sh → Nat → Int32 → Int32 → Int32 → Hp → Prop) (L399 : List Sh → Nat → Int32 → Int32 → Int32 → Int32 → Hp → Prop) (L440 : List Sh → Nat → Int32 → Int32 → Hp → Prop) (L448 : List Sh → Nat → Int32 → Int32 → Int32 → Hp → Prop) (L479 : List Sh → Nat → Int32 → Int32 → Hp → Prop) (RET : List Sh → Hp → Prop) : Prop :=
  (((18 : Int32) < x3) → (∀ y2 : Int32, y2 = x2 + (1 : Int32) → (L332 sh x0 x1 y2 h))) ∧ ((¬ (18 : Int32) < x3) → (shAt sh x0 = some (.inr 12) ∧ (∃ P5 : Int32 → Hp → Prop, C_X12_code w sh x0 x1 (3 : Int32) x3 x2 (0 : Int32) (0 : Int32) (0 : Int32) h P5 ∧ (∀ (v9 : Int32) (h8 : Hp), P5 v9 h8 → (∀ y11 : Int32, y11 = v9 → (∀ y13 : Int32, y13 = x3 + (1 : Int32) → (L352 sh x0 y11 x2 y13 h8)))))))
set_option maxRecDepth 20000 in
set_option maxHeartbeats 8000000 in
theorem W_X12_init_352 {w : Wd} {E : GE} {sh : List Sh} {x0 : Nat} {x1 : Int32} {x2 : Int32} {x3 : Int32} {h : Hp} {ms n0 : Nat} {L306 : List Sh → Nat → Int32 → Int32 → Hp → Prop} {L332 : List Sh → Nat → Int32 → Int32 → Hp → Prop} {L352 : List Sh → Nat → Int32 → Int32 → Int32 → Hp → Prop} {L384 : List Sh → Nat → Int32 → Int32 → Hp → Prop} {L391 : List Sh → Nat → Int32 → Int32 → Int32 → Hp → Prop} {L399 : List Sh → Nat → Int32 → Int32 → Int32 → Int32 → Hp → Prop} {L440 : List Sh → Nat → Int32 → Int32 → Hp → Prop} {L448 : List Sh → Nat → Int32 → Int32 → Int32 → Hp → Prop} {L479 : List Sh → Nat → Int32 → Int32 → Hp → Prop} {RET : List Sh → Hp → Prop} (X : Cx w E cX12_init 5 RX12) (Tt : Rt w E none n0 28 ms (fun q sh9 h9 => q = none ∧ RET sh9 h9)) (hR : gR E = { frames := 2, cells := 28, slots := ms, locals := 47 }) (hin : (gme E).name = "<init>") (hL306 : ∀ (sh : List Sh) (x0 : Nat) (x1 : Int32) (x2 : Int32) (h : Hp), L306 sh x0 x1 x2 h → G w E 5 306 [(0, rv w.2.2.2 x0), (1, Value.int x1), (2, Value.int x2)] [] sh h 28 ms) (hL332 : ∀ (sh : List Sh) (x0 : Nat) (x1 : Int32) (x2 : Int32) (h : Hp), L332 sh x0 x1 x2 h → G w E 5 332 [(0, rv w.2.2.2 x0), (1, Value.int x1), (2, Value.int x2)] [] sh h 28 ms) (hL352 : ∀ (sh : List Sh) (x0 : Nat) (x1 : Int32) (x2 : Int32) (x3 : Int32) (h : Hp), L352 sh x0 x1 x2 x3 h → G w E 5 352 [(0, rv w.2.2.2 x0), (1, Value.int x1), (2, Value.int x2), (3, Value.int x3)] [] sh h 28 ms) (hL384 : ∀ (sh : List Sh) (x0 : Nat) (x1 : Int32) (x2 : Int32) (h : Hp), L384 sh x0 x1 x2 h → G w E 5 384 [(0, rv w.2.2.2 x0), (1, Value.int x1), (2, Value.int x2)] [] sh h 28 ms) (hL391 : ∀ (sh : List Sh) (x0 : Nat) (x1 : Int32) (x2 : Int32) (x3 : Int32) (h : Hp), L391 sh x0 x1 x2 x3 h → G w E 5 391 [(0, rv w.2.2.2 x0), (1, Value.int x1), (2, Value.int x2), (3, Value.int x3)] [] sh h 28 ms) (hL399 : ∀ (sh : List Sh) (x0 : Nat) (x1 : Int32) (x2 : Int32) (x3 : Int32) (x4 : Int32) (h : Hp), L399 sh x0 x1 x2 x3 x4 h → G w E 5 399 [(0, rv w.2.2.2 x0), (1, Value.int x1), (2, Value.int x2), (3, Value.int x3), (4, Value.int x4)] [] sh h 28 ms) (hL440 : ∀ (sh : List Sh) (x0 : Nat) (x1 : Int32) (x2 : Int32) (h : Hp), L440 sh x0 x1 x2 h → G w E 5 440 [(0, rv w.2.2.2 x0), (1, Value.int x1), (2, Value.int x2)] [] sh h 28 ms) (hL448 : ∀ (sh : List Sh) (x0 : Nat) (x1 : Int32) (x2 : Int32) (x3 : Int32) (h : Hp), L448 sh x0 x1 x2 x3 h → G w E 5 448 [(0, rv w.2.2.2 x0), (1, Value.int x1), (2, Value.int x2), (3, Value.int x3)] [] sh h 28 ms) (hL479 : ∀ (sh : List Sh) (x0 : Nat) (x1 : Int32) (x2 : Int32) (h : Hp), L479 sh x0 x1 x2 h → G w E 5 479 [(0, rv w.2.2.2 x0), (1, Value.int x1), (2, Value.int x2)] [] sh h 28 ms) (hV : V_X12_init_352 w sh x0 x1 x2 x3 h ms L306 L332 L352 L384 L391 L399 L440 L448 L479 RET) : G w E 5 352 [(0, rv w.2.2.2 x0), (1, Value.int x1), (2, Value.int x2), (3, Value.int x3)] [] sh h 28 ms := by
  unfold V_X12_init_352 at hV
  refine g_iload_n (pc := 352) X 3 rfl rfl dX12_init_352 ?_
  refine g_bipush (pc := 353) (v := (18 : Int32)) X dX12_init_353 (by decide) ?_
  refine g_icmp_gt (pc := 355) X 376 dX12_init_355 (by decide) (fun c1 => ?_) (fun c1 => ?_)
  · have hV := hV.1 c1
    refine g_iinc (pc := 376) X 2 (v := (1 : Int32)) (rest := [(0, rv w.2.2.2 x0), (1, Value.int x1), (3, Value.int x3)]) rfl (by decide) rfl (by decide) dX12_init_376 (fun y2 e3 => ?_)
    have hV := hV y2 e3
    refine g_goto (pc := 379) X 332 dX12_init_379 (by decide) ?_
    refine g_lv [1, 2, 0] rfl ?_
    exact hL332 sh x0 x1 y2 h hV
  · have hV := hV.2 c1
    refine g_aload_n (pc := 358) X 0 rfl rfl dX12_init_358 ?_
    refine g_iload_n (pc := 359) X 1 rfl rfl dX12_init_359 ?_
    refine g_iconst (pc := 360) (v := (3 : Int32)) X dX12_init_360 (by decide) ?_
    refine g_iload_n (pc := 361) X 3 rfl rfl dX12_init_361 ?_
    refine g_iload_n (pc := 362) X 2 rfl rfl dX12_init_362 ?_
    refine g_iconst (pc := 363) (v := (0 : Int32)) X dX12_init_363 (by decide) ?_
    refine g_iconst (pc := 364) (v := (0 : Int32)) X dX12_init_364 (by decide) ?_
    refine g_iconst (pc := 365) (v := (0 : Int32)) X dX12_init_365 (by decide) ?_
    obtain ⟨q4, hV⟩ := hV
    obtain ⟨P5, t6, hV⟩ := hV
    refine g_cVI (pc := 366) X (As := [Value.int x1, Value.int (3 : Int32), Value.int x3, Value.int x2, Value.int (0 : Int32), Value.int (0 : Int32), Value.int (0 : Int32)]) ml_X12_110 rfl q4 t6 (by rw [hR]; exact ⟨Nat.le_of_ble_eq_true rfl, Nat.le_of_ble_eq_true rfl, Nat.le_of_ble_eq_true rfl, Nat.le_refl _⟩) rfl rfl (Nat.zero_le _) dX12_init_366 (fun v9 h8 p7 => ?_)
    have hV := hV v9 h8 p7
    refine g_istore_n (pc := 369) X (i := 1) (rest := [(0, rv w.2.2.2 x0), (2, Value.int x2), (3, Value.int x3)]) rfl (by decide) (by simp [flt1, flt2, rv_cat, cat_int, cat_long]) dX12_init_369 (fun y11 e12 => ?_)
    have hV := hV y11 e12
    refine g_iinc (pc := 370) X 3 (v := (1 : Int32)) (rest := [(1, Value.int y11), (0, rv w.2.2.2 x0), (2, Value.int x2)]) rfl (by decide) rfl (by decide) dX12_init_370 (fun y13 e14 => ?_)
    have hV := hV y13 e14
    refine g_goto (pc := 373) X 352 dX12_init_373 (by decide) ?_
    refine g_lv [2, 1, 3, 0] rfl ?_
    exact hL352 sh x0 y11 x2 y13 h8 hV
set_option maxRecDepth 20000 in
def V_X12_init_332 (w : Wd) (sh : List Sh) (x0 : Nat) (x1 : Int32) (x2 : Int32) (h : Hp) (ms : Nat) (L306 : List Sh → Nat → Int32 → Int32 → Hp → Prop) (L332 : List Sh → Nat → Int32 → Int32 → Hp → Prop) (L352 : List Sh → Nat → Int32 → Int32 → Int32 → Hp → Prop) (L384 : List Sh → Nat → Int32 → Int32 → Hp → Prop) (L391 : List Sh → Nat → Int32 → Int32 → Int32 → Hp → Prop) (L399 : List Sh → Nat → Int32 → Int32 → Int32 → Int32 → Hp → Prop) (L440 : List Sh → Nat → Int32 → Int32 → Hp → Prop) (L448 : List Sh → Nat → Int32 → Int32 → Int32 → Hp → Prop) (L479 : List Sh → Nat → Int32 → Int32 → Hp → Prop) (RET : List Sh → Hp → Prop) : Prop :=
  (((8 : Int32) < x2) → (∀ y2 : Int32, y2 = (0 : Int32) → (L384 sh x0 x1 y2 h))) ∧ ((¬ (8 : Int32) < x2) → (shAt sh x0 = some (.inr 12) ∧ (∃ P5 : Int32 → Hp → Prop, C_X12_code w sh x0 x1 (3 : Int32) (0 : Int32) x2 (0 : Int32) (0 : Int32) (0 : Int32) h P5 ∧ (∀ (v9 : Int32) (h8 : Hp), P5 v9 h8 → (∀ y11 : Int32, y11 = v9 → (∀ y13 : Int32, y13 = (4 : Int32) → (L352 sh x0 y11 x2 y13 h8)))))))
set_option maxRecDepth 20000 in
set_option maxHeartbeats 8000000 in
theorem W_X12_init_332 {w : Wd} {E : GE} {sh : List Sh} {x0 : Nat} {x1 : Int32} {x2 : Int32} {h : Hp} {ms n0 : Nat} {L306 : List Sh → Nat → Int32 → Int32 → Hp → Prop} {L332 : List Sh → Nat → Int32 → Int32 → Hp → Prop} {L352 : List Sh → Nat → Int32 → Int32 → Int32 → Hp → Prop} {L384 : List Sh → Nat → Int32 → Int32 → Hp → Prop} {L391 : List Sh → Nat → Int32 → Int32 → Int32 → Hp → Prop} {L399 : List Sh → Nat → Int32 → Int32 → Int32 → Int32 → Hp → Prop} {L440 : List Sh → Nat → Int32 → Int32 → Hp → Prop} {L448 : List Sh → Nat → Int32 → Int32 → Int32 → Hp → Prop} {L479 : List Sh → Nat → Int32 → Int32 → Hp → Prop} {RET : List Sh → Hp → Prop} (X : Cx w E cX12_init 5 RX12) (Tt : Rt w E none n0 28 ms (fun q sh9 h9 => q = none ∧ RET sh9 h9)) (hR : gR E = { frames := 2, cells := 28, slots := ms, locals := 47 }) (hin : (gme E).name = "<init>") (hL306 : ∀ (sh : List Sh) (x0 : Nat) (x1 : Int32) (x2 : Int32) (h : Hp), L306 sh x0 x1 x2 h → G w E 5 306 [(0, rv w.2.2.2 x0), (1, Value.int x1), (2, Value.int x2)] [] sh h 28 ms) (hL332 : ∀ (sh : List Sh) (x0 : Nat) (x1 : Int32) (x2 : Int32) (h : Hp), L332 sh x0 x1 x2 h → G w E 5 332 [(0, rv w.2.2.2 x0), (1, Value.int x1), (2, Value.int x2)] [] sh h 28 ms) (hL352 : ∀ (sh : List Sh) (x0 : Nat) (x1 : Int32) (x2 : Int32) (x3 : Int32) (h : Hp), L352 sh x0 x1 x2 x3 h → G w E 5 352 [(0, rv w.2.2.2 x0), (1, Value.int x1), (2, Value.int x2), (3, Value.int x3)] [] sh h 28 ms) (hL384 : ∀ (sh : List Sh) (x0 : Nat) (x1 : Int32) (x2 : Int32) (h : Hp), L384 sh x0 x1 x2 h → G w E 5 384 [(0, rv w.2.2.2 x0), (1, Value.int x1), (2, Value.int x2)] [] sh h 28 ms) (hL391 : ∀ (sh : List Sh) (x0 : Nat) (x1 : Int32) (x2 : Int32) (x3 : Int32) (h : Hp), L391 sh x0 x1 x2 x3 h → G w E 5 391 [(0, rv w.2.2.2 x0), (1, Value.int x1), (2, Value.int x2), (3, Value.int x3)] [] sh h 28 ms) (hL399 : ∀ (sh : List Sh) (x0 : Nat) (x1 : Int32) (x2 : Int32) (x3 : Int32) (x4 : Int32) (h : Hp), L399 sh x0 x1 x2 x3 x4 h → G w E 5 399 [(0, rv w.2.2.2 x0), (1, Value.int x1), (2, Value.int x2), (3, Value.int x3), (4, Value.int x4)] [] sh h 28 ms) (hL440 : ∀ (sh : List Sh) (x0 : Nat) (x1 : Int32) (x2 : Int32) (h : Hp), L440 sh x0 x1 x2 h → G w E 5 440 [(0, rv w.2.2.2 x0), (1, Value.int x1), (2, Value.int x2)] [] sh h 28 ms) (hL448 : ∀ (sh : List Sh) (x0 : Nat) (x1 : Int32) (x2 : Int32) (x3 : Int32) (h : Hp), L448 sh x0 x1 x2 x3 h → G w E 5 448 [(0, rv w.2.2.2 x0), (1, Value.int x1), (2, Value.int x2), (3, Value.int x3)] [] sh h 28 ms) (hL479 : ∀ (sh : List Sh) (x0 : Nat) (x1 : Int32) (x2 : Int32) (h : Hp), L479 sh x0 x1 x2 h → G w E 5 479 [(0, rv w.2.2.2 x0), (1, Value.int x1), (2, Value.int x2)] [] sh h 28 ms) (hV : V_X12_init_332 w sh x0 x1 x2 h ms L306 L332 L352 L384 L391 L399 L440 L448 L479 RET) : G w E 5 332 [(0, rv w.2.2.2 x0), (1, Value.int x1), (2, Value.int x2)] [] sh h 28 ms := by
  unfold V_X12_init_332 at hV
  refine g_iload_n (pc := 332) X 2 rfl rfl dX12_init_332 ?_
  refine g_bipush (pc := 333) (v := (8 : Int32)) X dX12_init_333 (by decide) ?_
  refine g_icmp_gt (pc := 335) X 382 dX12_init_335 (by decide) (fun c1 => ?_) (fun c1 => ?_)
  · have hV := hV.1 c1
    refine g_iconst (pc := 382) (v := (0 : Int32)) X dX12_init_382 (by decide) ?_
    refine g_istore_n (pc := 383) X (i := 2) (rest := [(0, rv w.2.2.2 x0), (1, Value.int x1)]) rfl (by decide) rfl dX12_init_383 (fun y2 e3 => ?_)
    have hV := hV y2 e3
    refine g_lv [1, 2, 0] rfl ?_
    exact hL384 sh x0 x1 y2 h hV
  · have hV := hV.2 c1
    refine g_aload_n (pc := 338) X 0 rfl rfl dX12_init_338 ?_
    refine g_iload_n (pc := 339) X 1 rfl rfl dX12_init_339 ?_
    refine g_iconst (pc := 340) (v := (3 : Int32)) X dX12_init_340 (by decide) ?_
    refine g_iconst (pc := 341) (v := (0 : Int32)) X dX12_init_341 (by decide) ?_
    refine g_iload_n (pc := 342) X 2 rfl rfl dX12_init_342 ?_
    refine g_iconst (pc := 343) (v := (0 : Int32)) X dX12_init_343 (by decide) ?_
    refine g_iconst (pc := 344) (v := (0 : Int32)) X dX12_init_344 (by decide) ?_
    refine g_iconst (pc := 345) (v := (0 : Int32)) X dX12_init_345 (by decide) ?_
    obtain ⟨q4, hV⟩ := hV
    obtain ⟨P5, t6, hV⟩ := hV
    refine g_cVI (pc := 346) X (As := [Value.int x1, Value.int (3 : Int32), Value.int (0 : Int32), Value.int x2, Value.int (0 : Int32), Value.int (0 : Int32), Value.int (0 : Int32)]) ml_X12_110 rfl q4 t6 (by rw [hR]; exact ⟨Nat.le_of_ble_eq_true rfl, Nat.le_of_ble_eq_true rfl, Nat.le_of_ble_eq_true rfl, Nat.le_refl _⟩) rfl rfl (Nat.zero_le _) dX12_init_346 (fun v9 h8 p7 => ?_)
    have hV := hV v9 h8 p7
    refine g_istore_n (pc := 349) X (i := 1) (rest := [(0, rv w.2.2.2 x0), (2, Value.int x2)]) rfl (by decide) (by simp [flt1, flt2, rv_cat, cat_int, cat_long]) dX12_init_349 (fun y11 e12 => ?_)
    have hV := hV y11 e12
    refine g_iconst (pc := 350) (v := (4 : Int32)) X dX12_init_350 (by decide) ?_
    refine g_istore_n (pc := 351) X (i := 3) (rest := [(1, Value.int y11), (0, rv w.2.2.2 x0), (2, Value.int x2)]) rfl (by decide) rfl dX12_init_351 (fun y13 e14 => ?_)
    have hV := hV y13 e14
    refine g_lv [2, 1, 3, 0] rfl ?_
    exact hL352 sh x0 y11 x2 y13 h8 hV
set_option maxRecDepth 20000 in
def V_X12_init_306 (w : Wd) (sh : List Sh) (x0 : Nat) (x1 : Int32) (x2 : Int32) (h : Hp) (ms : Nat) (L306 : List Sh → Nat → Int32 → Int32 → Hp → Prop) (L332 : List Sh → Nat → Int32 → Int32 → Hp → Prop) (L352 : List Sh → Nat → Int32 → Int32 → Int32 → Hp → Prop) (L384 : List Sh → Nat → Int32 → Int32 → Hp → Prop) (L391 : List Sh → Nat → Int32 → Int32 → Int32 → Hp → Prop) (L399 : List Sh → Nat → Int32 → Int32 → Int32 → Int32 → Hp → Prop) (L440 : List Sh → Nat → Int32 → Int32 → Hp → Prop) (L448 : List Sh → Nat → Int32 → Int32 → Int32 → Hp → Prop) (L479 : List Sh → Nat → Int32 → Int32 → Hp → Prop) (RET : List Sh → Hp → Prop) : Prop :=
  (((17 : Int32) < x2) → (∀ y2 : Int32, y2 = (0 : Int32) → (L332 sh x0 x1 y2 h))) ∧ ((¬ (17 : Int32) < x2) → (shAt sh x0 = some (.inr 12) ∧ (∃ P5 : Int32 → Hp → Prop, C_X12_code w sh x0 x1 (1 : Int32) x2 (0 : Int32) (0 : Int32) (0 : Int32) (0 : Int32) h P5 ∧ (∀ (v9 : Int32) (h8 : Hp), P5 v9 h8 → (∀ y11 : Int32, y11 = v9 → (∀ y13 : Int32, y13 = x2 + (1 : Int32) → (L306 sh x0 y11 y13 h8)))))))
set_option maxRecDepth 20000 in
set_option maxHeartbeats 8000000 in
theorem W_X12_init_306 {w : Wd} {E : GE} {sh : List Sh} {x0 : Nat} {x1 : Int32} {x2 : Int32} {h : Hp} {ms n0 : Nat} {L306 : List Sh → Nat → Int32 → Int32 → Hp → Prop} {L332 : List Sh → Nat → Int32 → Int32 → Hp → Prop} {L352 : List Sh → Nat → Int32 → Int32 → Int32 → Hp → Prop} {L384 : List Sh → Nat → Int32 → Int32 → Hp → Prop} {L391 : List Sh → Nat → Int32 → Int32 → Int32 → Hp → Prop} {L399 : List Sh → Nat → Int32 → Int32 → Int32 → Int32 → Hp → Prop} {L440 : List Sh → Nat → Int32 → Int32 → Hp → Prop} {L448 : List Sh → Nat → Int32 → Int32 → Int32 → Hp → Prop} {L479 : List Sh → Nat → Int32 → Int32 → Hp → Prop} {RET : List Sh → Hp → Prop} (X : Cx w E cX12_init 5 RX12) (Tt : Rt w E none n0 28 ms (fun q sh9 h9 => q = none ∧ RET sh9 h9)) (hR : gR E = { frames := 2, cells := 28, slots := ms, locals := 47 }) (hin : (gme E).name = "<init>") (hL306 : ∀ (sh : List Sh) (x0 : Nat) (x1 : Int32) (x2 : Int32) (h : Hp), L306 sh x0 x1 x2 h → G w E 5 306 [(0, rv w.2.2.2 x0), (1, Value.int x1), (2, Value.int x2)] [] sh h 28 ms) (hL332 : ∀ (sh : List Sh) (x0 : Nat) (x1 : Int32) (x2 : Int32) (h : Hp), L332 sh x0 x1 x2 h → G w E 5 332 [(0, rv w.2.2.2 x0), (1, Value.int x1), (2, Value.int x2)] [] sh h 28 ms) (hL352 : ∀ (sh : List Sh) (x0 : Nat) (x1 : Int32) (x2 : Int32) (x3 : Int32) (h : Hp), L352 sh x0 x1 x2 x3 h → G w E 5 352 [(0, rv w.2.2.2 x0), (1, Value.int x1), (2, Value.int x2), (3, Value.int x3)] [] sh h 28 ms) (hL384 : ∀ (sh : List Sh) (x0 : Nat) (x1 : Int32) (x2 : Int32) (h : Hp), L384 sh x0 x1 x2 h → G w E 5 384 [(0, rv w.2.2.2 x0), (1, Value.int x1), (2, Value.int x2)] [] sh h 28 ms) (hL391 : ∀ (sh : List Sh) (x0 : Nat) (x1 : Int32) (x2 : Int32) (x3 : Int32) (h : Hp), L391 sh x0 x1 x2 x3 h → G w E 5 391 [(0, rv w.2.2.2 x0), (1, Value.int x1), (2, Value.int x2), (3, Value.int x3)] [] sh h 28 ms) (hL399 : ∀ (sh : List Sh) (x0 : Nat) (x1 : Int32) (x2 : Int32) (x3 : Int32) (x4 : Int32) (h : Hp), L399 sh x0 x1 x2 x3 x4 h → G w E 5 399 [(0, rv w.2.2.2 x0), (1, Value.int x1), (2, Value.int x2), (3, Value.int x3), (4, Value.int x4)] [] sh h 28 ms) (hL440 : ∀ (sh : List Sh) (x0 : Nat) (x1 : Int32) (x2 : Int32) (h : Hp), L440 sh x0 x1 x2 h → G w E 5 440 [(0, rv w.2.2.2 x0), (1, Value.int x1), (2, Value.int x2)] [] sh h 28 ms) (hL448 : ∀ (sh : List Sh) (x0 : Nat) (x1 : Int32) (x2 : Int32) (x3 : Int32) (h : Hp), L448 sh x0 x1 x2 x3 h → G w E 5 448 [(0, rv w.2.2.2 x0), (1, Value.int x1), (2, Value.int x2), (3, Value.int x3)] [] sh h 28 ms) (hL479 : ∀ (sh : List Sh) (x0 : Nat) (x1 : Int32) (x2 : Int32) (h : Hp), L479 sh x0 x1 x2 h → G w E 5 479 [(0, rv w.2.2.2 x0), (1, Value.int x1), (2, Value.int x2)] [] sh h 28 ms) (hV : V_X12_init_306 w sh x0 x1 x2 h ms L306 L332 L352 L384 L391 L399 L440 L448 L479 RET) : G w E 5 306 [(0, rv w.2.2.2 x0), (1, Value.int x1), (2, Value.int x2)] [] sh h 28 ms := by
  unfold V_X12_init_306 at hV
  refine g_iload_n (pc := 306) X 2 rfl rfl dX12_init_306 ?_
  refine g_bipush (pc := 307) (v := (17 : Int32)) X dX12_init_307 (by decide) ?_
  refine g_icmp_gt (pc := 309) X 330 dX12_init_309 (by decide) (fun c1 => ?_) (fun c1 => ?_)
  · have hV := hV.1 c1
    refine g_iconst (pc := 330) (v := (0 : Int32)) X dX12_init_330 (by decide) ?_
    refine g_istore_n (pc := 331) X (i := 2) (rest := [(0, rv w.2.2.2 x0), (1, Value.int x1)]) rfl (by decide) rfl dX12_init_331 (fun y2 e3 => ?_)
    have hV := hV y2 e3
    refine g_lv [1, 2, 0] rfl ?_
    exact hL332 sh x0 x1 y2 h hV
  · have hV := hV.2 c1
    refine g_aload_n (pc := 312) X 0 rfl rfl dX12_init_312 ?_
    refine g_iload_n (pc := 313) X 1 rfl rfl dX12_init_313 ?_
    refine g_iconst (pc := 314) (v := (1 : Int32)) X dX12_init_314 (by decide) ?_
    refine g_iload_n (pc := 315) X 2 rfl rfl dX12_init_315 ?_
    refine g_iconst (pc := 316) (v := (0 : Int32)) X dX12_init_316 (by decide) ?_
    refine g_iconst (pc := 317) (v := (0 : Int32)) X dX12_init_317 (by decide) ?_
    refine g_iconst (pc := 318) (v := (0 : Int32)) X dX12_init_318 (by decide) ?_
    refine g_iconst (pc := 319) (v := (0 : Int32)) X dX12_init_319 (by decide) ?_
    obtain ⟨q4, hV⟩ := hV
    obtain ⟨P5, t6, hV⟩ := hV
    refine g_cVI (pc := 320) X (As := [Value.int x1, Value.int (1 : Int32), Value.int x2, Value.int (0 : Int32), Value.int (0 : Int32), Value.int (0 : Int32), Value.int (0 : Int32)]) ml_X12_110 rfl q4 t6 (by rw [hR]; exact ⟨Nat.le_of_ble_eq_true rfl, Nat.le_of_ble_eq_true rfl, Nat.le_of_ble_eq_true rfl, Nat.le_refl _⟩) rfl rfl (Nat.zero_le _) dX12_init_320 (fun v9 h8 p7 => ?_)
    have hV := hV v9 h8 p7
    refine g_istore_n (pc := 323) X (i := 1) (rest := [(0, rv w.2.2.2 x0), (2, Value.int x2)]) rfl (by decide) (by simp [flt1, flt2, rv_cat, cat_int, cat_long]) dX12_init_323 (fun y11 e12 => ?_)
    have hV := hV y11 e12
    refine g_iinc (pc := 324) X 2 (v := (1 : Int32)) (rest := [(1, Value.int y11), (0, rv w.2.2.2 x0)]) rfl (by decide) rfl (by decide) dX12_init_324 (fun y13 e14 => ?_)
    have hV := hV y13 e14
    refine g_goto (pc := 327) X 306 dX12_init_327 (by decide) ?_
    refine g_lv [2, 1, 0] rfl ?_
    exact hL306 sh x0 y11 y13 h8 hV
set_option maxRecDepth 20000 in
def V_X12_init_0 (w : Wd) (sh : List Sh) (x0 : Nat) (h : Hp) (ms : Nat) (L306 : List Sh → Nat → Int32 → Int32 → Hp → Prop) (L332 : List Sh → Nat → Int32 → Int32 → Hp → Prop) (L352 : List Sh → Nat → Int32 → Int32 → Int32 → Hp → Prop) (L384 : List Sh → Nat → Int32 → Int32 → Hp → Prop) (L391 : List Sh → Nat → Int32 → Int32 → Int32 → Hp → Prop) (L399 : List Sh → Nat → Int32 → Int32 → Int32 → Int32 → Hp → Prop) (L440 : List Sh → Nat → Int32 → Int32 → Hp → Prop) (L448 : List Sh → Nat → Int32 → Int32 → Int32 → Hp → Prop) (L479 : List Sh → Nat → Int32 → Int32 → Hp → Prop) (RET : List Sh → Hp → Prop) : Prop :=
  shAt sh x0 = some (.inr 12) ∧ (∃ n2 : Nat, (¬ (8000 : Int32) < 0 ∧ (8000 : Int32).toNatClampNeg = n2 ∧ n2 * 8 ≤ 536870912 ∧ (∀ k, h.1 (sh.length + 1) k = 0 ∧ h.2.2 (sh.length + 1) k = 0) ∧ 0 + n2 ≤ ms) ∧ (∀ (sh4 : List Sh) (r6 : Nat), sh4 = sh ++ [.inl (0, n2)] → r6 = sh.length + 1 → (shAt sh4 x0 = some (.inr 12) ∧ (∀ h9 : Hp, h9 = wR h x0 0 r6 → (∃ n11 : Nat, (¬ (8000 : Int32) < 0 ∧ (8000 : Int32).toNatClampNeg = n11 ∧ n11 * 8 ≤ 536870912 ∧ (∀ k, h9.1 (sh4.length + 1) k = 0 ∧ h9.2.2 (sh4.length + 1) k = 0) ∧ 0 + n2 + n11 ≤ ms) ∧ (∀ (sh13 : List Sh) (r15 : Nat), sh13 = sh4 ++ [.inl (0, n11)] → r15 = sh4.length + 1 → (shAt sh13 x0 = some (.inr 12) ∧ (∀ h18 : Hp, h18 = wR h9 x0 2 r15 → (∃ n20 : Nat, (¬ (4000 : Int32) < 0 ∧ (4000 : Int32).toNatClampNeg = n20 ∧ n20 * 8 ≤ 536870912 ∧ (∀ k, h18.1 (sh13.length + 1) k = 0 ∧ h18.2.2 (sh13.length + 1) k = 0) ∧ 0 + n2 + n11 + n20 ≤ ms) ∧ (∀ (sh22 : List Sh) (r24 : Nat), sh22 = sh13 ++ [.inl (0, n20)] → r24 = sh13.length + 1 → (shAt sh22 x0 = some (.inr 12) ∧ (∀ h27 : Hp, h27 = wR h18 x0 4 r24 → (∀ h29 : Hp, h29 = wI h27 x0 8 (-1 : Int32) → (∃ n31 : Nat, (¬ (6144 : Int32) < 0 ∧ (6144 : Int32).toNatClampNeg = n31 ∧ n31 * 8 ≤ 536870912 ∧ (∀ k, h29.1 (sh22.length + 1) k = 0 ∧ h29.2.2 (sh22.length + 1) k = 0) ∧ 0 + n2 + n11 + n20 + n31 ≤ ms) ∧ (∀ (sh33 : List Sh) (r35 : Nat), sh33 = sh22 ++ [.inl (1, n31)] → r35 = sh22.length + 1 → (shAt sh33 x0 = some (.inr 12) ∧ (∀ h38 : Hp, h38 = wR h29 x0 9 r35 → (∃ n40 : Nat, (¬ (4 : Int32) < 0 ∧ (4 : Int32).toNatClampNeg = n40 ∧ n40 * 8 ≤ 536870912 ∧ (∀ k, h38.1 (sh33.length + 1) k = 0 ∧ h38.2.2 (sh33.length + 1) k = 0) ∧ 0 + n2 + n11 + n20 + n31 + n40 ≤ ms) ∧ (∀ (sh42 : List Sh) (r44 : Nat), sh42 = sh33 ++ [.inl (1, n40)] → r44 = sh33.length + 1 → (shAt sh42 x0 = some (.inr 12) ∧ (∀ h47 : Hp, h47 = wR h38 x0 10 r44 → (∃ n49 : Nat, (¬ (4 : Int32) < 0 ∧ (4 : Int32).toNatClampNeg = n49 ∧ n49 * 8 ≤ 536870912 ∧ (∀ k, h47.1 (sh42.length + 1) k = 0 ∧ h47.2.2 (sh42.length + 1) k = 0) ∧ 0 + n2 + n11 + n20 + n31 + n40 + n49 ≤ ms) ∧ (∀ (sh51 : List Sh) (r53 : Nat), sh51 = sh42 ++ [.inl (1, n49)] → r53 = sh42.length + 1 → (shAt sh51 x0 = some (.inr 12) ∧ (∀ h56 : Hp, h56 = wR h47 x0 11 r53 → (∃ n58 : Nat, (¬ (1536 : Int32) < 0 ∧ (1536 : Int32).toNatClampNeg = n58 ∧ n58 * 8 ≤ 536870912 ∧ (∀ k, h56.1 (sh51.length + 1) k = 0 ∧ h56.2.2 (sh51.length + 1) k = 0) ∧ 0 + n2 + n11 + n20 + n31 + n40 + n49 + n58 ≤ ms) ∧ (∀ (sh60 : List Sh) (r62 : Nat), sh60 = sh51 ++ [.inl (0, n58)] → r62 = sh51.length + 1 → (shAt sh60 x0 = some (.inr 12) ∧ (∀ h65 : Hp, h65 = wR h56 x0 12 r62 → (∀ h67 : Hp, h67 = wR h65 x0 13 (h65.2.1 x0 0) → (∀ h69 : Hp, h69 = wR h67 x0 16 (h67.2.1 x0 4) → (∃ n71 : Nat, (¬ (8000 : Int32) < 0 ∧ (8000 : Int32).toNatClampNeg = n71 ∧ n71 * 8 ≤ 536870912 ∧ (∀ k, h69.1 (sh60.length + 1) k = 0 ∧ h69.2.2 (sh60.length + 1) k = 0) ∧ 0 + n2 + n11 + n20 + n31 + n40 + n49 + n58 + n71 ≤ ms) ∧ (∀ (sh73 : List Sh) (r75 : Nat), sh73 = sh60 ++ [.inl (0, n71)] → r75 = sh60.length + 1 → (shAt sh73 x0 = some (.inr 12) ∧ (∀ h78 : Hp, h78 = wR h69 x0 20 r75 → (∃ n80 : Nat, (¬ (8000 : Int32) < 0 ∧ (8000 : Int32).toNatClampNeg = n80 ∧ n80 * 8 ≤ 536870912 ∧ (∀ k, h78.1 (sh73.length + 1) k = 0 ∧ h78.2.2 (sh73.length + 1) k = 0) ∧ 0 + n2 + n11 + n20 + n31 + n40 + n49 + n58 + n71 + n80 ≤ ms) ∧ (∀ (sh82 : List Sh) (r84 : Nat), sh82 = sh73 ++ [.inl (0, n80)] → r84 = sh73.length + 1 → (shAt sh82 x0 = some (.inr 12) ∧ (∀ h87 : Hp, h87 = wR h78 x0 21 r84 → (∀ h89 : Hp, h89 = wR h87 x0 22 (h87.2.1 x0 20) → (∃ n91 : Nat, (¬ (16000 : Int32) < 0 ∧ (16000 : Int32).toNatClampNeg = n91 ∧ n91 * 8 ≤ 536870912 ∧ (∀ k, h89.1 (sh82.length + 1) k = 0 ∧ h89.2.2 (sh82.length + 1) k = 0) ∧ 0 + n2 + n11 + n20 + n31 + n40 + n49 + n58 + n71 + n80 + n91 ≤ ms) ∧ (∀ (sh93 : List Sh) (r95 : Nat), sh93 = sh82 ++ [.inl (0, n91)] → r95 = sh82.length + 1 → (shAt sh93 x0 = some (.inr 12) ∧ (∀ h98 : Hp, h98 = wR h89 x0 24 r95 → (∃ n100 : Nat, (¬ (32 : Int32) < 0 ∧ (32 : Int32).toNatClampNeg = n100 ∧ n100 * 8 ≤ 536870912 ∧ (∀ k, h98.1 (sh93.length + 1) k = 0 ∧ h98.2.2 (sh93.length + 1) k = 0) ∧ 0 + n2 + n11 + n20 + n31 + n40 + n49 + n58 + n71 + n80 + n91 + n100 ≤ ms) ∧ (∀ (sh102 : List Sh) (r104 : Nat), sh102 = sh93 ++ [.inl (2, n100)] → r104 = sh93.length + 1 → (shAt sh102 x0 = some (.inr 12) ∧ (∀ h107 : Hp, h107 = wR h98 x0 27 r104 → (∃ n109 : Nat, (¬ (4096 : Int32) < 0 ∧ (4096 : Int32).toNatClampNeg = n109 ∧ n109 * 8 ≤ 536870912 ∧ (∀ k, h107.1 (sh102.length + 1) k = 0 ∧ h107.2.2 (sh102.length + 1) k = 0) ∧ 0 + n2 + n11 + n20 + n31 + n40 + n49 + n58 + n71 + n80 + n91 + n100 + n109 ≤ ms) ∧ (∀ (sh111 : List Sh) (r113 : Nat), sh111 = sh102 ++ [.inl (2, n109)] → r113 = sh102.length + 1 → (shAt sh111 x0 = some (.inr 12) ∧ (∀ h116 : Hp, h116 = wR h107 x0 28 r113 → (∃ n118 : Nat, (¬ (8 : Int32) < 0 ∧ (8 : Int32).toNatClampNeg = n118 ∧ n118 * 8 ≤ 536870912 ∧ (∀ k, h116.1 (sh111.length + 1) k = 0 ∧ h116.2.2 (sh111.length + 1) k = 0) ∧ 0 + n2 + n11 + n20 + n31 + n40 + n49 + n58 + n71 + n80 + n91 + n100 + n109 + n118 ≤ ms) ∧ (∀ (sh120 : List Sh) (r122 : Nat), sh120 = sh111 ++ [.inl (1, n118)] → r122 = sh111.length + 1 → (shAt sh120 x0 = some (.inr 12) ∧ (∀ h125 : Hp, h125 = wR h116 x0 30 r122 → (∃ n127 : Nat, (¬ (2000 : Int32) < 0 ∧ (2000 : Int32).toNatClampNeg = n127 ∧ n127 * 8 ≤ 536870912 ∧ (∀ k, h125.1 (sh120.length + 1) k = 0 ∧ h125.2.2 (sh120.length + 1) k = 0) ∧ 0 + n2 + n11 + n20 + n31 + n40 + n49 + n58 + n71 + n80 + n91 + n100 + n109 + n118 + n127 ≤ ms) ∧ (∀ (sh129 : List Sh) (r131 : Nat), sh129 = sh120 ++ [.inl (1, n127)] → r131 = sh120.length + 1 → (shAt sh129 x0 = some (.inr 12) ∧ (∀ h134 : Hp, h134 = wR h125 x0 32 r131 → (∃ n136 : Nat, (¬ (2000 : Int32) < 0 ∧ (2000 : Int32).toNatClampNeg = n136 ∧ n136 * 8 ≤ 536870912 ∧ (∀ k, h134.1 (sh129.length + 1) k = 0 ∧ h134.2.2 (sh129.length + 1) k = 0) ∧ 0 + n2 + n11 + n20 + n31 + n40 + n49 + n58 + n71 + n80 + n91 + n100 + n109 + n118 + n127 + n136 ≤ ms) ∧ (∀ (sh138 : List Sh) (r140 : Nat), sh138 = sh129 ++ [.inl (1, n136)] → r140 = sh129.length + 1 → (shAt sh138 x0 = some (.inr 12) ∧ (∀ h143 : Hp, h143 = wR h134 x0 33 r140 → (∃ n145 : Nat, (¬ (2000 : Int32) < 0 ∧ (2000 : Int32).toNatClampNeg = n145 ∧ n145 * 8 ≤ 536870912 ∧ (∀ k, h143.1 (sh138.length + 1) k = 0 ∧ h143.2.2 (sh138.length + 1) k = 0) ∧ 0 + n2 + n11 + n20 + n31 + n40 + n49 + n58 + n71 + n80 + n91 + n100 + n109 + n118 + n127 + n136 + n145 ≤ ms) ∧ (∀ (sh147 : List Sh) (r149 : Nat), sh147 = sh138 ++ [.inl (1, n145)] → r149 = sh138.length + 1 → (shAt sh147 x0 = some (.inr 12) ∧ (∀ h152 : Hp, h152 = wR h143 x0 34 r149 → (∃ n154 : Nat, (¬ (2000 : Int32) < 0 ∧ (2000 : Int32).toNatClampNeg = n154 ∧ n154 * 8 ≤ 536870912 ∧ (∀ k, h152.1 (sh147.length + 1) k = 0 ∧ h152.2.2 (sh147.length + 1) k = 0) ∧ 0 + n2 + n11 + n20 + n31 + n40 + n49 + n58 + n71 + n80 + n91 + n100 + n109 + n118 + n127 + n136 + n145 + n154 ≤ ms) ∧ (∀ (sh156 : List Sh) (r158 : Nat), sh156 = sh147 ++ [.inl (1, n154)] → r158 = sh147.length + 1 → (shAt sh156 x0 = some (.inr 12) ∧ (∀ h161 : Hp, h161 = wR h152 x0 35 r158 → (∃ n163 : Nat, (¬ (40000 : Int32) < 0 ∧ (40000 : Int32).toNatClampNeg = n163 ∧ n163 * 8 ≤ 536870912 ∧ (∀ k, h161.1 (sh156.length + 1) k = 0 ∧ h161.2.2 (sh156.length + 1) k = 0) ∧ 0 + n2 + n11 + n20 + n31 + n40 + n49 + n58 + n71 + n80 + n91 + n100 + n109 + n118 + n127 + n136 + n145 + n154 + n163 ≤ ms) ∧ (∀ (sh165 : List Sh) (r167 : Nat), sh165 = sh156 ++ [.inl (0, n163)] → r167 = sh156.length + 1 → (shAt sh165 x0 = some (.inr 12) ∧ (∀ h170 : Hp, h170 = wR h161 x0 42 r167 → (∃ n172 : Nat, (¬ (40000 : Int32) < 0 ∧ (40000 : Int32).toNatClampNeg = n172 ∧ n172 * 8 ≤ 536870912 ∧ (∀ k, h170.1 (sh165.length + 1) k = 0 ∧ h170.2.2 (sh165.length + 1) k = 0) ∧ 0 + n2 + n11 + n20 + n31 + n40 + n49 + n58 + n71 + n80 + n91 + n100 + n109 + n118 + n127 + n136 + n145 + n154 + n163 + n172 ≤ ms) ∧ (∀ (sh174 : List Sh) (r176 : Nat), sh174 = sh165 ++ [.inl (0, n172)] → r176 = sh165.length + 1 → (shAt sh174 x0 = some (.inr 12) ∧ (∀ h179 : Hp, h179 = wR h170 x0 44 r176 → (∃ n181 : Nat, (¬ (1536 : Int32) < 0 ∧ (1536 : Int32).toNatClampNeg = n181 ∧ n181 * 8 ≤ 536870912 ∧ (∀ k, h179.1 (sh174.length + 1) k = 0 ∧ h179.2.2 (sh174.length + 1) k = 0) ∧ 0 + n2 + n11 + n20 + n31 + n40 + n49 + n58 + n71 + n80 + n91 + n100 + n109 + n118 + n127 + n136 + n145 + n154 + n163 + n172 + n181 ≤ ms) ∧ (∀ (sh183 : List Sh) (r185 : Nat), sh183 = sh174 ++ [.inl (0, n181)] → r185 = sh174.length + 1 → (shAt sh183 x0 = some (.inr 12) ∧ (∀ h188 : Hp, h188 = wR h179 x0 46 r185 → (∃ n190 : Nat, (¬ (30000 : Int32) < 0 ∧ (30000 : Int32).toNatClampNeg = n190 ∧ n190 * 8 ≤ 536870912 ∧ (∀ k, h188.1 (sh183.length + 1) k = 0 ∧ h188.2.2 (sh183.length + 1) k = 0) ∧ 0 + n2 + n11 + n20 + n31 + n40 + n49 + n58 + n71 + n80 + n91 + n100 + n109 + n118 + n127 + n136 + n145 + n154 + n163 + n172 + n181 + n190 ≤ ms) ∧ (∀ (sh192 : List Sh) (r194 : Nat), sh192 = sh183 ++ [.inl (0, n190)] → r194 = sh183.length + 1 → (shAt sh192 x0 = some (.inr 12) ∧ (∀ h197 : Hp, h197 = wR h188 x0 47 r194 → (∃ n199 : Nat, (¬ (2100 : Int32) < 0 ∧ (2100 : Int32).toNatClampNeg = n199 ∧ n199 * 8 ≤ 536870912 ∧ (∀ k, h197.1 (sh192.length + 1) k = 0 ∧ h197.2.2 (sh192.length + 1) k = 0) ∧ 0 + n2 + n11 + n20 + n31 + n40 + n49 + n58 + n71 + n80 + n91 + n100 + n109 + n118 + n127 + n136 + n145 + n154 + n163 + n172 + n181 + n190 + n199 ≤ ms) ∧ (∀ (sh201 : List Sh) (r203 : Nat), sh201 = sh192 ++ [.inl (1, n199)] → r203 = sh192.length + 1 → (shAt sh201 x0 = some (.inr 12) ∧ (∀ h206 : Hp, h206 = wR h197 x0 52 r203 → (∃ n208 : Nat, (¬ (2100 : Int32) < 0 ∧ (2100 : Int32).toNatClampNeg = n208 ∧ n208 * 8 ≤ 536870912 ∧ (∀ k, h206.1 (sh201.length + 1) k = 0 ∧ h206.2.2 (sh201.length + 1) k = 0) ∧ 0 + n2 + n11 + n20 + n31 + n40 + n49 + n58 + n71 + n80 + n91 + n100 + n109 + n118 + n127 + n136 + n145 + n154 + n163 + n172 + n181 + n190 + n199 + n208 ≤ ms) ∧ (∀ (sh210 : List Sh) (r212 : Nat), sh210 = sh201 ++ [.inl (1, n208)] → r212 = sh201.length + 1 → (shAt sh210 x0 = some (.inr 12) ∧ (∀ h215 : Hp, h215 = wR h206 x0 53 r212 → (∃ n217 : Nat, (¬ (2100 : Int32) < 0 ∧ (2100 : Int32).toNatClampNeg = n217 ∧ n217 * 8 ≤ 536870912 ∧ (∀ k, h215.1 (sh210.length + 1) k = 0 ∧ h215.2.2 (sh210.length + 1) k = 0) ∧ 0 + n2 + n11 + n20 + n31 + n40 + n49 + n58 + n71 + n80 + n91 + n100 + n109 + n118 + n127 + n136 + n145 + n154 + n163 + n172 + n181 + n190 + n199 + n208 + n217 ≤ ms) ∧ (∀ (sh219 : List Sh) (r221 : Nat), sh219 = sh210 ++ [.inl (1, n217)] → r221 = sh210.length + 1 → (shAt sh219 x0 = some (.inr 12) ∧ (∀ h224 : Hp, h224 = wR h215 x0 54 r221 → (∃ n226 : Nat, (¬ (2100 : Int32) < 0 ∧ (2100 : Int32).toNatClampNeg = n226 ∧ n226 * 8 ≤ 536870912 ∧ (∀ k, h224.1 (sh219.length + 1) k = 0 ∧ h224.2.2 (sh219.length + 1) k = 0) ∧ 0 + n2 + n11 + n20 + n31 + n40 + n49 + n58 + n71 + n80 + n91 + n100 + n109 + n118 + n127 + n136 + n145 + n154 + n163 + n172 + n181 + n190 + n199 + n208 + n217 + n226 ≤ ms) ∧ (∀ (sh228 : List Sh) (r230 : Nat), sh228 = sh219 ++ [.inl (1, n226)] → r230 = sh219.length + 1 → (shAt sh228 x0 = some (.inr 12) ∧ (∀ h233 : Hp, h233 = wR h224 x0 55 r230 → (∃ n235 : Nat, (¬ (32 : Int32) < 0 ∧ (32 : Int32).toNatClampNeg = n235 ∧ n235 * 8 ≤ 536870912 ∧ (∀ k, h233.1 (sh228.length + 1) k = 0 ∧ h233.2.2 (sh228.length + 1) k = 0) ∧ 0 + n2 + n11 + n20 + n31 + n40 + n49 + n58 + n71 + n80 + n91 + n100 + n109 + n118 + n127 + n136 + n145 + n154 + n163 + n172 + n181 + n190 + n199 + n208 + n217 + n226 + n235 ≤ ms) ∧ (∀ (sh237 : List Sh) (r239 : Nat), sh237 = sh228 ++ [.inl (1, n235)] → r239 = sh228.length + 1 → (shAt sh237 x0 = some (.inr 12) ∧ (∀ h242 : Hp, h242 = wR h233 x0 56 r239 → (∃ n244 : Nat, (¬ (4096 : Int32) < 0 ∧ (4096 : Int32).toNatClampNeg = n244 ∧ n244 * 8 ≤ 536870912 ∧ (∀ k, h242.1 (sh237.length + 1) k = 0 ∧ h242.2.2 (sh237.length + 1) k = 0) ∧ 0 + n2 + n11 + n20 + n31 + n40 + n49 + n58 + n71 + n80 + n91 + n100 + n109 + n118 + n127 + n136 + n145 + n154 + n163 + n172 + n181 + n190 + n199 + n208 + n217 + n226 + n235 + n244 ≤ ms) ∧ (∀ (sh246 : List Sh) (r248 : Nat), sh246 = sh237 ++ [.inl (1, n244)] → r248 = sh237.length + 1 → (shAt sh246 x0 = some (.inr 12) ∧ (∀ h251 : Hp, h251 = wR h242 x0 57 r248 → (∃ n253 : Nat, (¬ (16000 : Int32) < 0 ∧ (16000 : Int32).toNatClampNeg = n253 ∧ n253 * 8 ≤ 536870912 ∧ (∀ k, h251.1 (sh246.length + 1) k = 0 ∧ h251.2.2 (sh246.length + 1) k = 0) ∧ 0 + n2 + n11 + n20 + n31 + n40 + n49 + n58 + n71 + n80 + n91 + n100 + n109 + n118 + n127 + n136 + n145 + n154 + n163 + n172 + n181 + n190 + n199 + n208 + n217 + n226 + n235 + n244 + n253 ≤ ms) ∧ (∀ (sh255 : List Sh) (r257 : Nat), sh255 = sh246 ++ [.inl (0, n253)] → r257 = sh246.length + 1 → (shAt sh255 x0 = some (.inr 12) ∧ (∀ h260 : Hp, h260 = wR h251 x0 58 r257 → (∃ n263 : Nat, shAt sh255 (h260.2.1 x0 10) = some (.inl (1, n263)) ∧ (vp_in (0 : Int32) n263 ∧ (∀ h265 : Hp, h265 = wI h260 (h260.2.1 x0 10) (0 : Int32).toNatClampNeg (4 : Int32) → (∃ n268 : Nat, shAt sh255 (h265.2.1 x0 11) = some (.inl (1, n268)) ∧ (vp_in (0 : Int32) n268 ∧ (∀ h270 : Hp, h270 = wI h265 (h265.2.1 x0 11) (0 : Int32).toNatClampNeg (3 : Int32) → (∀ y272 : Int32, y272 = (0 : Int32) → (∃ P274 : Int32 → Hp → Prop, C_X12_code w sh255 x0 y272 (2 : Int32) (0 : Int32) (0 : Int32) (0 : Int32) (0 : Int32) (0 : Int32) h270 P274 ∧ (0 + n2 + n11 + n20 + n31 + n40 + n49 + n58 + n71 + n80 + n91 + n100 + n109 + n118 + n127 + n136 + n145 + n154 + n163 + n172 + n181 + n190 + n199 + n208 + n217 + n226 + n235 + n244 + n253 ≤ ms ∧ (∀ (v278 : Int32) (h277 : Hp), P274 v278 h277 → (∀ y280 : Int32, y280 = v278 → (∀ y282 : Int32, y282 = (0 : Int32) → (0 + n2 + n11 + n20 + n31 + n40 + n49 + n58 + n71 + n80 + n91 + n100 + n109 + n118 + n127 + n136 + n145 + n154 + n163 + n172 + n181 + n190 + n199 + n208 + n217 + n226 + n235 + n244 + n253 = ms ∧ (L306 sh255 x0 y280 y282 h277))))))))))))))))))))))))))))))))))))))))))))))))))))))))))))))))))))))))))))))))))))))))))))))))))))))))))))))))))))))))))))))))))
set_option maxRecDepth 20000 in
set_option maxHeartbeats 8000000 in
theorem W_X12_init_0 {w : Wd} {E : GE} {sh : List Sh} {x0 : Nat} {h : Hp} {ms n0 : Nat} {L306 : List Sh → Nat → Int32 → Int32 → Hp → Prop} {L332 : List Sh → Nat → Int32 → Int32 → Hp → Prop} {L352 : List Sh → Nat → Int32 → Int32 → Int32 → Hp → Prop} {L384 : List Sh → Nat → Int32 → Int32 → Hp → Prop} {L391 : List Sh → Nat → Int32 → Int32 → Int32 → Hp → Prop} {L399 : List Sh → Nat → Int32 → Int32 → Int32 → Int32 → Hp → Prop} {L440 : List Sh → Nat → Int32 → Int32 → Hp → Prop} {L448 : List Sh → Nat → Int32 → Int32 → Int32 → Hp → Prop} {L479 : List Sh → Nat → Int32 → Int32 → Hp → Prop} {RET : List Sh → Hp → Prop} (X : Cx w E cX12_init 5 RX12) (Tt : Rt w E none n0 28 ms (fun q sh9 h9 => q = none ∧ RET sh9 h9)) (hR : gR E = { frames := 2, cells := 28, slots := ms, locals := 47 }) (hin : (gme E).name = "<init>") (hL306 : ∀ (sh : List Sh) (x0 : Nat) (x1 : Int32) (x2 : Int32) (h : Hp), L306 sh x0 x1 x2 h → G w E 5 306 [(0, rv w.2.2.2 x0), (1, Value.int x1), (2, Value.int x2)] [] sh h 28 ms) (hL332 : ∀ (sh : List Sh) (x0 : Nat) (x1 : Int32) (x2 : Int32) (h : Hp), L332 sh x0 x1 x2 h → G w E 5 332 [(0, rv w.2.2.2 x0), (1, Value.int x1), (2, Value.int x2)] [] sh h 28 ms) (hL352 : ∀ (sh : List Sh) (x0 : Nat) (x1 : Int32) (x2 : Int32) (x3 : Int32) (h : Hp), L352 sh x0 x1 x2 x3 h → G w E 5 352 [(0, rv w.2.2.2 x0), (1, Value.int x1), (2, Value.int x2), (3, Value.int x3)] [] sh h 28 ms) (hL384 : ∀ (sh : List Sh) (x0 : Nat) (x1 : Int32) (x2 : Int32) (h : Hp), L384 sh x0 x1 x2 h → G w E 5 384 [(0, rv w.2.2.2 x0), (1, Value.int x1), (2, Value.int x2)] [] sh h 28 ms) (hL391 : ∀ (sh : List Sh) (x0 : Nat) (x1 : Int32) (x2 : Int32) (x3 : Int32) (h : Hp), L391 sh x0 x1 x2 x3 h → G w E 5 391 [(0, rv w.2.2.2 x0), (1, Value.int x1), (2, Value.int x2), (3, Value.int x3)] [] sh h 28 ms) (hL399 : ∀ (sh : List Sh) (x0 : Nat) (x1 : Int32) (x2 : Int32) (x3 : Int32) (x4 : Int32) (h : Hp), L399 sh x0 x1 x2 x3 x4 h → G w E 5 399 [(0, rv w.2.2.2 x0), (1, Value.int x1), (2, Value.int x2), (3, Value.int x3), (4, Value.int x4)] [] sh h 28 ms) (hL440 : ∀ (sh : List Sh) (x0 : Nat) (x1 : Int32) (x2 : Int32) (h : Hp), L440 sh x0 x1 x2 h → G w E 5 440 [(0, rv w.2.2.2 x0), (1, Value.int x1), (2, Value.int x2)] [] sh h 28 ms) (hL448 : ∀ (sh : List Sh) (x0 : Nat) (x1 : Int32) (x2 : Int32) (x3 : Int32) (h : Hp), L448 sh x0 x1 x2 x3 h → G w E 5 448 [(0, rv w.2.2.2 x0), (1, Value.int x1), (2, Value.int x2), (3, Value.int x3)] [] sh h 28 ms) (hL479 : ∀ (sh : List Sh) (x0 : Nat) (x1 : Int32) (x2 : Int32) (h : Hp), L479 sh x0 x1 x2 h → G w E 5 479 [(0, rv w.2.2.2 x0), (1, Value.int x1), (2, Value.int x2)] [] sh h 28 ms) (hV : V_X12_init_0 w sh x0 h ms L306 L332 L352 L384 L391 L399 L440 L448 L479 RET) : G w E 5 0 [(0, rv w.2.2.2 x0)] [] sh h 0 0 := by
  unfold V_X12_init_0 at hV
  refine g_aload_n (pc := 0) X 0 rfl rfl dX12_init_0 ?_
  obtain ⟨q1, hV⟩ := hV
  refine g_objInit (pc := 1) X wo_X12_1 wo_inst wo_code q1 (by rw [hR]; exact ⟨Nat.le_of_ble_eq_true rfl, by simp [rv_cat, cat_int, cat_long]⟩) dX12_init_1 ?_
  refine g_aload_n (pc := 4) X 0 rfl rfl dX12_init_4 ?_
  refine g_sipush (pc := 5) (v := (8000 : Int32)) X dX12_init_5 (by decide) ?_
  obtain ⟨n2, q3, hV⟩ := hV
  refine g_newarr (pc := 8) (at_ := .byte) X (Or.inl ⟨rfl, rfl⟩) wa_0 q3.1 q3.2.1 q3.2.2.1 q3.2.2.2.1 (by rw [hR]; exact ⟨Nat.le_of_ble_eq_true rfl, q3.2.2.2.2⟩) dX12_init_8 ?_
  obtain ⟨sh4, e5⟩ : ∃ z, z = sh ++ [Sum.inl (0, n2)] := ⟨_, rfl⟩
  obtain ⟨r6, e7⟩ : ∃ z, z = sh.length + 1 := ⟨_, rfl⟩
  rw [← e5, ← e7]
  have hV := hV sh4 r6 e5 e7
  obtain ⟨q8, hV⟩ := hV
  refine g_putFR (pc := 10) X ff_X12_7 hin q8 rfl dX12_init_10 (fun h9 e10 => ?_)
  have hV := hV h9 e10
  refine g_aload_n (pc := 13) X 0 rfl rfl dX12_init_13 ?_
  refine g_sipush (pc := 14) (v := (8000 : Int32)) X dX12_init_14 (by decide) ?_
  obtain ⟨n11, q12, hV⟩ := hV
  refine g_newarr (pc := 17) (at_ := .byte) X (Or.inl ⟨rfl, rfl⟩) wa_0 q12.1 q12.2.1 q12.2.2.1 q12.2.2.2.1 (by rw [hR]; exact ⟨Nat.le_of_ble_eq_true rfl, q12.2.2.2.2⟩) dX12_init_17 ?_
  obtain ⟨sh13, e14⟩ : ∃ z, z = sh4 ++ [Sum.inl (0, n11)] := ⟨_, rfl⟩
  obtain ⟨r15, e16⟩ : ∃ z, z = sh4.length + 1 := ⟨_, rfl⟩
  rw [← e14, ← e16]
  have hV := hV sh13 r15 e14 e16
  obtain ⟨q17, hV⟩ := hV
  refine g_putFR (pc := 19) X ff_X12_13 hin q17 rfl dX12_init_19 (fun h18 e19 => ?_)
  have hV := hV h18 e19
  refine g_aload_n (pc := 22) X 0 rfl rfl dX12_init_22 ?_
  refine g_sipush (pc := 23) (v := (4000 : Int32)) X dX12_init_23 (by decide) ?_
  obtain ⟨n20, q21, hV⟩ := hV
  refine g_newarr (pc := 26) (at_ := .byte) X (Or.inl ⟨rfl, rfl⟩) wa_0 q21.1 q21.2.1 q21.2.2.1 q21.2.2.2.1 (by rw [hR]; exact ⟨Nat.le_of_ble_eq_true rfl, q21.2.2.2.2⟩) dX12_init_26 ?_
  obtain ⟨sh22, e23⟩ : ∃ z, z = sh13 ++ [Sum.inl (0, n20)] := ⟨_, rfl⟩
  obtain ⟨r24, e25⟩ : ∃ z, z = sh13.length + 1 := ⟨_, rfl⟩
  rw [← e23, ← e25]
  have hV := hV sh22 r24 e23 e25
  obtain ⟨q26, hV⟩ := hV
  refine g_putFR (pc := 28) X ff_X12_16 hin q26 rfl dX12_init_28 (fun h27 e28 => ?_)
  have hV := hV h27 e28
  refine g_aload_n (pc := 31) X 0 rfl rfl dX12_init_31 ?_
  refine g_iconst (pc := 32) (v := (-1 : Int32)) X dX12_init_32 (by decide) ?_
  refine g_putI (pc := 33) X fl_X12_19 q26 rfl rfl dX12_init_33 (fun h29 e30 => ?_)
  have hV := hV h29 e30
  refine g_aload_n (pc := 36) X 0 rfl rfl dX12_init_36 ?_
  refine g_sipush (pc := 37) (v := (6144 : Int32)) X dX12_init_37 (by decide) ?_
  obtain ⟨n31, q32, hV⟩ := hV
  refine g_newarr (pc := 40) (at_ := .int) X (Or.inr (Or.inl ⟨rfl, rfl⟩)) wa_1 q32.1 q32.2.1 q32.2.2.1 q32.2.2.2.1 (by rw [hR]; exact ⟨Nat.le_of_ble_eq_true rfl, q32.2.2.2.2⟩) dX12_init_40 ?_
  obtain ⟨sh33, e34⟩ : ∃ z, z = sh22 ++ [Sum.inl (1, n31)] := ⟨_, rfl⟩
  obtain ⟨r35, e36⟩ : ∃ z, z = sh22.length + 1 := ⟨_, rfl⟩
  rw [← e34, ← e36]
  have hV := hV sh33 r35 e34 e36
  obtain ⟨q37, hV⟩ := hV
  refine g_putFR (pc := 42) X ff_X12_23 hin q37 rfl dX12_init_42 (fun h38 e39 => ?_)
  have hV := hV h38 e39
  refine g_aload_n (pc := 45) X 0 rfl rfl dX12_init_45 ?_
  refine g_iconst (pc := 46) (v := (4 : Int32)) X dX12_init_46 (by decide) ?_
  obtain ⟨n40, q41, hV⟩ := hV
  refine g_newarr (pc := 47) (at_ := .int) X (Or.inr (Or.inl ⟨rfl, rfl⟩)) wa_1 q41.1 q41.2.1 q41.2.2.1 q41.2.2.2.1 (by rw [hR]; exact ⟨Nat.le_of_ble_eq_true rfl, q41.2.2.2.2⟩) dX12_init_47 ?_
  obtain ⟨sh42, e43⟩ : ∃ z, z = sh33 ++ [Sum.inl (1, n40)] := ⟨_, rfl⟩
  obtain ⟨r44, e45⟩ : ∃ z, z = sh33.length + 1 := ⟨_, rfl⟩
  rw [← e43, ← e45]
  have hV := hV sh42 r44 e43 e45
  obtain ⟨q46, hV⟩ := hV
  refine g_putFR (pc := 49) X ff_X12_27 hin q46 rfl dX12_init_49 (fun h47 e48 => ?_)
  have hV := hV h47 e48
  refine g_aload_n (pc := 52) X 0 rfl rfl dX12_init_52 ?_
  refine g_iconst (pc := 53) (v := (4 : Int32)) X dX12_init_53 (by decide) ?_
  obtain ⟨n49, q50, hV⟩ := hV
  refine g_newarr (pc := 54) (at_ := .int) X (Or.inr (Or.inl ⟨rfl, rfl⟩)) wa_1 q50.1 q50.2.1 q50.2.2.1 q50.2.2.2.1 (by rw [hR]; exact ⟨Nat.le_of_ble_eq_true rfl, q50.2.2.2.2⟩) dX12_init_54 ?_
  obtain ⟨sh51, e52⟩ : ∃ z, z = sh42 ++ [Sum.inl (1, n49)] := ⟨_, rfl⟩
  obtain ⟨r53, e54⟩ : ∃ z, z = sh42.length + 1 := ⟨_, rfl⟩
  rw [← e52, ← e54]
  have hV := hV sh51 r53 e52 e54
  obtain ⟨q55, hV⟩ := hV
  refine g_putFR (pc := 56) X ff_X12_30 hin q55 rfl dX12_init_56 (fun h56 e57 => ?_)
  have hV := hV h56 e57
  refine g_aload_n (pc := 59) X 0 rfl rfl dX12_init_59 ?_
  refine g_sipush (pc := 60) (v := (1536 : Int32)) X dX12_init_60 (by decide) ?_
  obtain ⟨n58, q59, hV⟩ := hV
  refine g_newarr (pc := 63) (at_ := .byte) X (Or.inl ⟨rfl, rfl⟩) wa_0 q59.1 q59.2.1 q59.2.2.1 q59.2.2.2.1 (by rw [hR]; exact ⟨Nat.le_of_ble_eq_true rfl, q59.2.2.2.2⟩) dX12_init_63 ?_
  obtain ⟨sh60, e61⟩ : ∃ z, z = sh51 ++ [Sum.inl (0, n58)] := ⟨_, rfl⟩
  obtain ⟨r62, e63⟩ : ∃ z, z = sh51.length + 1 := ⟨_, rfl⟩
  rw [← e61, ← e63]
  have hV := hV sh60 r62 e61 e63
  obtain ⟨q64, hV⟩ := hV
  refine g_putFR (pc := 65) X ff_X12_33 hin q64 rfl dX12_init_65 (fun h65 e66 => ?_)
  have hV := hV h65 e66
  refine g_aload_n (pc := 68) X 0 rfl rfl dX12_init_68 ?_
  refine g_aload_n (pc := 69) X 0 rfl rfl dX12_init_69 ?_
  refine g_getR (pc := 70) X fl_X12_7 q64 dX12_init_70 ?_
  refine g_putR (pc := 73) X fl_X12_36 q64 rfl dX12_init_73 (fun h67 e68 => ?_)
  have hV := hV h67 e68
  refine g_aload_n (pc := 76) X 0 rfl rfl dX12_init_76 ?_
  refine g_aload_n (pc := 77) X 0 rfl rfl dX12_init_77 ?_
  refine g_getR (pc := 78) X fl_X12_16 q64 dX12_init_78 ?_
  refine g_putR (pc := 81) X fl_X12_39 q64 rfl dX12_init_81 (fun h69 e70 => ?_)
  have hV := hV h69 e70
  refine g_aload_n (pc := 84) X 0 rfl rfl dX12_init_84 ?_
  refine g_sipush (pc := 85) (v := (8000 : Int32)) X dX12_init_85 (by decide) ?_
  obtain ⟨n71, q72, hV⟩ := hV
  refine g_newarr (pc := 88) (at_ := .byte) X (Or.inl ⟨rfl, rfl⟩) wa_0 q72.1 q72.2.1 q72.2.2.1 q72.2.2.2.1 (by rw [hR]; exact ⟨Nat.le_of_ble_eq_true rfl, q72.2.2.2.2⟩) dX12_init_88 ?_
  obtain ⟨sh73, e74⟩ : ∃ z, z = sh60 ++ [Sum.inl (0, n71)] := ⟨_, rfl⟩
  obtain ⟨r75, e76⟩ : ∃ z, z = sh60.length + 1 := ⟨_, rfl⟩
  rw [← e74, ← e76]
  have hV := hV sh73 r75 e74 e76
  obtain ⟨q77, hV⟩ := hV
  refine g_putFR (pc := 90) X ff_X12_42 hin q77 rfl dX12_init_90 (fun h78 e79 => ?_)
  have hV := hV h78 e79
  refine g_aload_n (pc := 93) X 0 rfl rfl dX12_init_93 ?_
  refine g_sipush (pc := 94) (v := (8000 : Int32)) X dX12_init_94 (by decide) ?_
  obtain ⟨n80, q81, hV⟩ := hV
  refine g_newarr (pc := 97) (at_ := .byte) X (Or.inl ⟨rfl, rfl⟩) wa_0 q81.1 q81.2.1 q81.2.2.1 q81.2.2.2.1 (by rw [hR]; exact ⟨Nat.le_of_ble_eq_true rfl, q81.2.2.2.2⟩) dX12_init_97 ?_
  obtain ⟨sh82, e83⟩ : ∃ z, z = sh73 ++ [Sum.inl (0, n80)] := ⟨_, rfl⟩
  obtain ⟨r84, e85⟩ : ∃ z, z = sh73.length + 1 := ⟨_, rfl⟩
  rw [← e83, ← e85]
  have hV := hV sh82 r84 e83 e85
  obtain ⟨q86, hV⟩ := hV
  refine g_putFR (pc := 99) X ff_X12_45 hin q86 rfl dX12_init_99 (fun h87 e88 => ?_)
  have hV := hV h87 e88
  refine g_aload_n (pc := 102) X 0 rfl rfl dX12_init_102 ?_
  refine g_aload_n (pc := 103) X 0 rfl rfl dX12_init_103 ?_
  refine g_getR (pc := 104) X fl_X12_42 q86 dX12_init_104 ?_
  refine g_putR (pc := 107) X fl_X12_48 q86 rfl dX12_init_107 (fun h89 e90 => ?_)
  have hV := hV h89 e90
  refine g_aload_n (pc := 110) X 0 rfl rfl dX12_init_110 ?_
  refine g_sipush (pc := 111) (v := (16000 : Int32)) X dX12_init_111 (by decide) ?_
  obtain ⟨n91, q92, hV⟩ := hV
  refine g_newarr (pc := 114) (at_ := .byte) X (Or.inl ⟨rfl, rfl⟩) wa_0 q92.1 q92.2.1 q92.2.2.1 q92.2.2.2.1 (by rw [hR]; exact ⟨Nat.le_of_ble_eq_true rfl, q92.2.2.2.2⟩) dX12_init_114 ?_
  obtain ⟨sh93, e94⟩ : ∃ z, z = sh82 ++ [Sum.inl (0, n91)] := ⟨_, rfl⟩
  obtain ⟨r95, e96⟩ : ∃ z, z = sh82.length + 1 := ⟨_, rfl⟩
  rw [← e94, ← e96]
  have hV := hV sh93 r95 e94 e96
  obtain ⟨q97, hV⟩ := hV
  refine g_putFR (pc := 116) X ff_X12_51 hin q97 rfl dX12_init_116 (fun h98 e99 => ?_)
  have hV := hV h98 e99
  refine g_aload_n (pc := 119) X 0 rfl rfl dX12_init_119 ?_
  refine g_bipush (pc := 120) (v := (32 : Int32)) X dX12_init_120 (by decide) ?_
  obtain ⟨n100, q101, hV⟩ := hV
  refine g_newarr (pc := 122) (at_ := .long) X (Or.inr (Or.inr ⟨rfl, rfl⟩)) wa_2 q101.1 q101.2.1 q101.2.2.1 q101.2.2.2.1 (by rw [hR]; exact ⟨Nat.le_of_ble_eq_true rfl, q101.2.2.2.2⟩) dX12_init_122 ?_
  obtain ⟨sh102, e103⟩ : ∃ z, z = sh93 ++ [Sum.inl (2, n100)] := ⟨_, rfl⟩
  obtain ⟨r104, e105⟩ : ∃ z, z = sh93.length + 1 := ⟨_, rfl⟩
  rw [← e103, ← e105]
  have hV := hV sh102 r104 e103 e105
  obtain ⟨q106, hV⟩ := hV
  refine g_putFR (pc := 124) X ff_X12_54 hin q106 rfl dX12_init_124 (fun h107 e108 => ?_)
  have hV := hV h107 e108
  refine g_aload_n (pc := 127) X 0 rfl rfl dX12_init_127 ?_
  refine g_sipush (pc := 128) (v := (4096 : Int32)) X dX12_init_128 (by decide) ?_
  obtain ⟨n109, q110, hV⟩ := hV
  refine g_newarr (pc := 131) (at_ := .long) X (Or.inr (Or.inr ⟨rfl, rfl⟩)) wa_2 q110.1 q110.2.1 q110.2.2.1 q110.2.2.2.1 (by rw [hR]; exact ⟨Nat.le_of_ble_eq_true rfl, q110.2.2.2.2⟩) dX12_init_131 ?_
  obtain ⟨sh111, e112⟩ : ∃ z, z = sh102 ++ [Sum.inl (2, n109)] := ⟨_, rfl⟩
  obtain ⟨r113, e114⟩ : ∃ z, z = sh102.length + 1 := ⟨_, rfl⟩
  rw [← e112, ← e114]
  have hV := hV sh111 r113 e112 e114
  obtain ⟨q115, hV⟩ := hV
  refine g_putFR (pc := 133) X ff_X12_58 hin q115 rfl dX12_init_133 (fun h116 e117 => ?_)
  have hV := hV h116 e117
  refine g_aload_n (pc := 136) X 0 rfl rfl dX12_init_136 ?_
  refine g_bipush (pc := 137) (v := (8 : Int32)) X dX12_init_137 (by decide) ?_
  obtain ⟨n118, q119, hV⟩ := hV
  refine g_newarr (pc := 139) (at_ := .int) X (Or.inr (Or.inl ⟨rfl, rfl⟩)) wa_1 q119.1 q119.2.1 q119.2.2.1 q119.2.2.2.1 (by rw [hR]; exact ⟨Nat.le_of_ble_eq_true rfl, q119.2.2.2.2⟩) dX12_init_139 ?_
  obtain ⟨sh120, e121⟩ : ∃ z, z = sh111 ++ [Sum.inl (1, n118)] := ⟨_, rfl⟩
  obtain ⟨r122, e123⟩ : ∃ z, z = sh111.length + 1 := ⟨_, rfl⟩
  rw [← e121, ← e123]
  have hV := hV sh120 r122 e121 e123
  obtain ⟨q124, hV⟩ := hV
  refine g_putFR (pc := 141) X ff_X12_61 hin q124 rfl dX12_init_141 (fun h125 e126 => ?_)
  have hV := hV h125 e126
  refine g_aload_n (pc := 144) X 0 rfl rfl dX12_init_144 ?_
  refine g_sipush (pc := 145) (v := (2000 : Int32)) X dX12_init_145 (by decide) ?_
  obtain ⟨n127, q128, hV⟩ := hV
  refine g_newarr (pc := 148) (at_ := .int) X (Or.inr (Or.inl ⟨rfl, rfl⟩)) wa_1 q128.1 q128.2.1 q128.2.2.1 q128.2.2.2.1 (by rw [hR]; exact ⟨Nat.le_of_ble_eq_true rfl, q128.2.2.2.2⟩) dX12_init_148 ?_
  obtain ⟨sh129, e130⟩ : ∃ z, z = sh120 ++ [Sum.inl (1, n127)] := ⟨_, rfl⟩
  obtain ⟨r131, e132⟩ : ∃ z, z = sh120.length + 1 := ⟨_, rfl⟩
  rw [← e130, ← e132]
  have hV := hV sh129 r131 e130 e132
  obtain ⟨q133, hV⟩ := hV
  refine g_putFR (pc := 150) X ff_X12_64 hin q133 rfl dX12_init_150 (fun h134 e135 => ?_)
  have hV := hV h134 e135
  refine g_aload_n (pc := 153) X 0 rfl rfl dX12_init_153 ?_
  refine g_sipush (pc := 154) (v := (2000 : Int32)) X dX12_init_154 (by decide) ?_
  obtain ⟨n136, q137, hV⟩ := hV
  refine g_newarr (pc := 157) (at_ := .int) X (Or.inr (Or.inl ⟨rfl, rfl⟩)) wa_1 q137.1 q137.2.1 q137.2.2.1 q137.2.2.2.1 (by rw [hR]; exact ⟨Nat.le_of_ble_eq_true rfl, q137.2.2.2.2⟩) dX12_init_157 ?_
  obtain ⟨sh138, e139⟩ : ∃ z, z = sh129 ++ [Sum.inl (1, n136)] := ⟨_, rfl⟩
  obtain ⟨r140, e141⟩ : ∃ z, z = sh129.length + 1 := ⟨_, rfl⟩
  rw [← e139, ← e141]
  have hV := hV sh138 r140 e139 e141
  obtain ⟨q142, hV⟩ := hV
  refine g_putFR (pc := 159) X ff_X12_67 hin q142 rfl dX12_init_159 (fun h143 e144 => ?_)
  have hV := hV h143 e144
  refine g_aload_n (pc := 162) X 0 rfl rfl dX12_init_162 ?_
  refine g_sipush (pc := 163) (v := (2000 : Int32)) X dX12_init_163 (by decide) ?_
  obtain ⟨n145, q146, hV⟩ := hV
  refine g_newarr (pc := 166) (at_ := .int) X (Or.inr (Or.inl ⟨rfl, rfl⟩)) wa_1 q146.1 q146.2.1 q146.2.2.1 q146.2.2.2.1 (by rw [hR]; exact ⟨Nat.le_of_ble_eq_true rfl, q146.2.2.2.2⟩) dX12_init_166 ?_
  obtain ⟨sh147, e148⟩ : ∃ z, z = sh138 ++ [Sum.inl (1, n145)] := ⟨_, rfl⟩
  obtain ⟨r149, e150⟩ : ∃ z, z = sh138.length + 1 := ⟨_, rfl⟩
  rw [← e148, ← e150]
  have hV := hV sh147 r149 e148 e150
  obtain ⟨q151, hV⟩ := hV
  refine g_putFR (pc := 168) X ff_X12_70 hin q151 rfl dX12_init_168 (fun h152 e153 => ?_)
  have hV := hV h152 e153
  refine g_aload_n (pc := 171) X 0 rfl rfl dX12_init_171 ?_
  refine g_sipush (pc := 172) (v := (2000 : Int32)) X dX12_init_172 (by decide) ?_
  obtain ⟨n154, q155, hV⟩ := hV
  refine g_newarr (pc := 175) (at_ := .int) X (Or.inr (Or.inl ⟨rfl, rfl⟩)) wa_1 q155.1 q155.2.1 q155.2.2.1 q155.2.2.2.1 (by rw [hR]; exact ⟨Nat.le_of_ble_eq_true rfl, q155.2.2.2.2⟩) dX12_init_175 ?_
  obtain ⟨sh156, e157⟩ : ∃ z, z = sh147 ++ [Sum.inl (1, n154)] := ⟨_, rfl⟩
  obtain ⟨r158, e159⟩ : ∃ z, z = sh147.length + 1 := ⟨_, rfl⟩
  rw [← e157, ← e159]
  have hV := hV sh156 r158 e157 e159
  obtain ⟨q160, hV⟩ := hV
  refine g_putFR (pc := 177) X ff_X12_73 hin q160 rfl dX12_init_177 (fun h161 e162 => ?_)
  have hV := hV h161 e162
  refine g_aload_n (pc := 180) X 0 rfl rfl dX12_init_180 ?_
  refine g_ldc (pc := 181) X kc_X12_76 dX12_init_181 ?_
  obtain ⟨n163, q164, hV⟩ := hV
  refine g_newarr (pc := 183) (at_ := .byte) X (Or.inl ⟨rfl, rfl⟩) wa_0 q164.1 q164.2.1 q164.2.2.1 q164.2.2.2.1 (by rw [hR]; exact ⟨Nat.le_of_ble_eq_true rfl, q164.2.2.2.2⟩) dX12_init_183 ?_
  obtain ⟨sh165, e166⟩ : ∃ z, z = sh156 ++ [Sum.inl (0, n163)] := ⟨_, rfl⟩
  obtain ⟨r167, e168⟩ : ∃ z, z = sh156.length + 1 := ⟨_, rfl⟩
  rw [← e166, ← e168]
  have hV := hV sh165 r167 e166 e168
  obtain ⟨q169, hV⟩ := hV
  refine g_putFR (pc := 185) X ff_X12_77 hin q169 rfl dX12_init_185 (fun h170 e171 => ?_)
  have hV := hV h170 e171
  refine g_aload_n (pc := 188) X 0 rfl rfl dX12_init_188 ?_
  refine g_ldc (pc := 189) X kc_X12_76 dX12_init_189 ?_
  obtain ⟨n172, q173, hV⟩ := hV
  refine g_newarr (pc := 191) (at_ := .byte) X (Or.inl ⟨rfl, rfl⟩) wa_0 q173.1 q173.2.1 q173.2.2.1 q173.2.2.2.1 (by rw [hR]; exact ⟨Nat.le_of_ble_eq_true rfl, q173.2.2.2.2⟩) dX12_init_191 ?_
  obtain ⟨sh174, e175⟩ : ∃ z, z = sh165 ++ [Sum.inl (0, n172)] := ⟨_, rfl⟩
  obtain ⟨r176, e177⟩ : ∃ z, z = sh165.length + 1 := ⟨_, rfl⟩
  rw [← e175, ← e177]
  have hV := hV sh174 r176 e175 e177
  obtain ⟨q178, hV⟩ := hV
  refine g_putFR (pc := 193) X ff_X12_80 hin q178 rfl dX12_init_193 (fun h179 e180 => ?_)
  have hV := hV h179 e180
  refine g_aload_n (pc := 196) X 0 rfl rfl dX12_init_196 ?_
  refine g_sipush (pc := 197) (v := (1536 : Int32)) X dX12_init_197 (by decide) ?_
  obtain ⟨n181, q182, hV⟩ := hV
  refine g_newarr (pc := 200) (at_ := .byte) X (Or.inl ⟨rfl, rfl⟩) wa_0 q182.1 q182.2.1 q182.2.2.1 q182.2.2.2.1 (by rw [hR]; exact ⟨Nat.le_of_ble_eq_true rfl, q182.2.2.2.2⟩) dX12_init_200 ?_
  obtain ⟨sh183, e184⟩ : ∃ z, z = sh174 ++ [Sum.inl (0, n181)] := ⟨_, rfl⟩
  obtain ⟨r185, e186⟩ : ∃ z, z = sh174.length + 1 := ⟨_, rfl⟩
  rw [← e184, ← e186]
  have hV := hV sh183 r185 e184 e186
  obtain ⟨q187, hV⟩ := hV
  refine g_putFR (pc := 202) X ff_X12_83 hin q187 rfl dX12_init_202 (fun h188 e189 => ?_)
  have hV := hV h188 e189
  refine g_aload_n (pc := 205) X 0 rfl rfl dX12_init_205 ?_
  refine g_sipush (pc := 206) (v := (30000 : Int32)) X dX12_init_206 (by decide) ?_
  obtain ⟨n190, q191, hV⟩ := hV
  refine g_newarr (pc := 209) (at_ := .byte) X (Or.inl ⟨rfl, rfl⟩) wa_0 q191.1 q191.2.1 q191.2.2.1 q191.2.2.2.1 (by rw [hR]; exact ⟨Nat.le_of_ble_eq_true rfl, q191.2.2.2.2⟩) dX12_init_209 ?_
  obtain ⟨sh192, e193⟩ : ∃ z, z = sh183 ++ [Sum.inl (0, n190)] := ⟨_, rfl⟩
  obtain ⟨r194, e195⟩ : ∃ z, z = sh183.length + 1 := ⟨_, rfl⟩
  rw [← e193, ← e195]
  have hV := hV sh192 r194 e193 e195
  obtain ⟨q196, hV⟩ := hV
  refine g_putFR (pc := 211) X ff_X12_86 hin q196 rfl dX12_init_211 (fun h197 e198 => ?_)
  have hV := hV h197 e198
  refine g_aload_n (pc := 214) X 0 rfl rfl dX12_init_214 ?_
  refine g_sipush (pc := 215) (v := (2100 : Int32)) X dX12_init_215 (by decide) ?_
  obtain ⟨n199, q200, hV⟩ := hV
  refine g_newarr (pc := 218) (at_ := .int) X (Or.inr (Or.inl ⟨rfl, rfl⟩)) wa_1 q200.1 q200.2.1 q200.2.2.1 q200.2.2.2.1 (by rw [hR]; exact ⟨Nat.le_of_ble_eq_true rfl, q200.2.2.2.2⟩) dX12_init_218 ?_
  obtain ⟨sh201, e202⟩ : ∃ z, z = sh192 ++ [Sum.inl (1, n199)] := ⟨_, rfl⟩
  obtain ⟨r203, e204⟩ : ∃ z, z = sh192.length + 1 := ⟨_, rfl⟩
  rw [← e202, ← e204]
  have hV := hV sh201 r203 e202 e204
  obtain ⟨q205, hV⟩ := hV
  refine g_putFR (pc := 220) X ff_X12_89 hin q205 rfl dX12_init_220 (fun h206 e207 => ?_)
  have hV := hV h206 e207
  refine g_aload_n (pc := 223) X 0 rfl rfl dX12_init_223 ?_
  refine g_sipush (pc := 224) (v := (2100 : Int32)) X dX12_init_224 (by decide) ?_
  obtain ⟨n208, q209, hV⟩ := hV
  refine g_newarr (pc := 227) (at_ := .int) X (Or.inr (Or.inl ⟨rfl, rfl⟩)) wa_1 q209.1 q209.2.1 q209.2.2.1 q209.2.2.2.1 (by rw [hR]; exact ⟨Nat.le_of_ble_eq_true rfl, q209.2.2.2.2⟩) dX12_init_227 ?_
  obtain ⟨sh210, e211⟩ : ∃ z, z = sh201 ++ [Sum.inl (1, n208)] := ⟨_, rfl⟩
  obtain ⟨r212, e213⟩ : ∃ z, z = sh201.length + 1 := ⟨_, rfl⟩
  rw [← e211, ← e213]
  have hV := hV sh210 r212 e211 e213
  obtain ⟨q214, hV⟩ := hV
  refine g_putFR (pc := 229) X ff_X12_92 hin q214 rfl dX12_init_229 (fun h215 e216 => ?_)
  have hV := hV h215 e216
  refine g_aload_n (pc := 232) X 0 rfl rfl dX12_init_232 ?_
  refine g_sipush (pc := 233) (v := (2100 : Int32)) X dX12_init_233 (by decide) ?_
  obtain ⟨n217, q218, hV⟩ := hV
  refine g_newarr (pc := 236) (at_ := .int) X (Or.inr (Or.inl ⟨rfl, rfl⟩)) wa_1 q218.1 q218.2.1 q218.2.2.1 q218.2.2.2.1 (by rw [hR]; exact ⟨Nat.le_of_ble_eq_true rfl, q218.2.2.2.2⟩) dX12_init_236 ?_
  obtain ⟨sh219, e220⟩ : ∃ z, z = sh210 ++ [Sum.inl (1, n217)] := ⟨_, rfl⟩
  obtain ⟨r221, e222⟩ : ∃ z, z = sh210.length + 1 := ⟨_, rfl⟩
  rw [← e220, ← e222]
  have hV := hV sh219 r221 e220 e222
  obtain ⟨q223, hV⟩ := hV
  refine g_putFR (pc := 238) X ff_X12_95 hin q223 rfl dX12_init_238 (fun h224 e225 => ?_)
  have hV := hV h224 e225
  refine g_aload_n (pc := 241) X 0 rfl rfl dX12_init_241 ?_
  refine g_sipush (pc := 242) (v := (2100 : Int32)) X dX12_init_242 (by decide) ?_
  obtain ⟨n226, q227, hV⟩ := hV
  refine g_newarr (pc := 245) (at_ := .int) X (Or.inr (Or.inl ⟨rfl, rfl⟩)) wa_1 q227.1 q227.2.1 q227.2.2.1 q227.2.2.2.1 (by rw [hR]; exact ⟨Nat.le_of_ble_eq_true rfl, q227.2.2.2.2⟩) dX12_init_245 ?_
  obtain ⟨sh228, e229⟩ : ∃ z, z = sh219 ++ [Sum.inl (1, n226)] := ⟨_, rfl⟩
  obtain ⟨r230, e231⟩ : ∃ z, z = sh219.length + 1 := ⟨_, rfl⟩
  rw [← e229, ← e231]
  have hV := hV sh228 r230 e229 e231
  obtain ⟨q232, hV⟩ := hV
  refine g_putFR (pc := 247) X ff_X12_98 hin q232 rfl dX12_init_247 (fun h233 e234 => ?_)
  have hV := hV h233 e234
  refine g_aload_n (pc := 250) X 0 rfl rfl dX12_init_250 ?_
  refine g_bipush (pc := 251) (v := (32 : Int32)) X dX12_init_251 (by decide) ?_
  obtain ⟨n235, q236, hV⟩ := hV
  refine g_newarr (pc := 253) (at_ := .int) X (Or.inr (Or.inl ⟨rfl, rfl⟩)) wa_1 q236.1 q236.2.1 q236.2.2.1 q236.2.2.2.1 (by rw [hR]; exact ⟨Nat.le_of_ble_eq_true rfl, q236.2.2.2.2⟩) dX12_init_253 ?_
  obtain ⟨sh237, e238⟩ : ∃ z, z = sh228 ++ [Sum.inl (1, n235)] := ⟨_, rfl⟩
  obtain ⟨r239, e240⟩ : ∃ z, z = sh228.length + 1 := ⟨_, rfl⟩
  rw [← e238, ← e240]
  have hV := hV sh237 r239 e238 e240
  obtain ⟨q241, hV⟩ := hV
  refine g_putFR (pc := 255) X ff_X12_101 hin q241 rfl dX12_init_255 (fun h242 e243 => ?_)
  have hV := hV h242 e243
  refine g_aload_n (pc := 258) X 0 rfl rfl dX12_init_258 ?_
  refine g_sipush (pc := 259) (v := (4096 : Int32)) X dX12_init_259 (by decide) ?_
  obtain ⟨n244, q245, hV⟩ := hV
  refine g_newarr (pc := 262) (at_ := .int) X (Or.inr (Or.inl ⟨rfl, rfl⟩)) wa_1 q245.1 q245.2.1 q245.2.2.1 q245.2.2.2.1 (by rw [hR]; exact ⟨Nat.le_of_ble_eq_true rfl, q245.2.2.2.2⟩) dX12_init_262 ?_
  obtain ⟨sh246, e247⟩ : ∃ z, z = sh237 ++ [Sum.inl (1, n244)] := ⟨_, rfl⟩
  obtain ⟨r248, e249⟩ : ∃ z, z = sh237.length + 1 := ⟨_, rfl⟩
  rw [← e247, ← e249]
  have hV := hV sh246 r248 e247 e249
  obtain ⟨q250, hV⟩ := hV
  refine g_putFR (pc := 264) X ff_X12_104 hin q250 rfl dX12_init_264 (fun h251 e252 => ?_)
  have hV := hV h251 e252
  refine g_aload_n (pc := 267) X 0 rfl rfl dX12_init_267 ?_
  refine g_sipush (pc := 268) (v := (16000 : Int32)) X dX12_init_268 (by decide) ?_
  obtain ⟨n253, q254, hV⟩ := hV
  refine g_newarr (pc := 271) (at_ := .byte) X (Or.inl ⟨rfl, rfl⟩) wa_0 q254.1 q254.2.1 q254.2.2.1 q254.2.2.2.1 (by rw [hR]; exact ⟨Nat.le_of_ble_eq_true rfl, q254.2.2.2.2⟩) dX12_init_271 ?_
  obtain ⟨sh255, e256⟩ : ∃ z, z = sh246 ++ [Sum.inl (0, n253)] := ⟨_, rfl⟩
  obtain ⟨r257, e258⟩ : ∃ z, z = sh246.length + 1 := ⟨_, rfl⟩
  rw [← e256, ← e258]
  have hV := hV sh255 r257 e256 e258
  obtain ⟨q259, hV⟩ := hV
  refine g_putFR (pc := 273) X ff_X12_107 hin q259 rfl dX12_init_273 (fun h260 e261 => ?_)
  have hV := hV h260 e261
  refine g_aload_n (pc := 276) X 0 rfl rfl dX12_init_276 ?_
  refine g_getR (pc := 277) X fl_X12_27 q259 dX12_init_277 ?_
  refine g_iconst (pc := 280) (v := (0 : Int32)) X dX12_init_280 (by decide) ?_
  refine g_iconst (pc := 281) (v := (4 : Int32)) X dX12_init_281 (by decide) ?_
  obtain ⟨n263, q262, hV⟩ := hV
  obtain ⟨q264, hV⟩ := hV
  refine g_iast (pc := 282) X q262 q264 dX12_init_282 (fun h265 e266 => ?_)
  have hV := hV h265 e266
  refine g_aload_n (pc := 283) X 0 rfl rfl dX12_init_283 ?_
  refine g_getR (pc := 284) X fl_X12_30 q259 dX12_init_284 ?_
  refine g_iconst (pc := 287) (v := (0 : Int32)) X dX12_init_287 (by decide) ?_
  refine g_iconst (pc := 288) (v := (3 : Int32)) X dX12_init_288 (by decide) ?_
  obtain ⟨n268, q267, hV⟩ := hV
  obtain ⟨q269, hV⟩ := hV
  refine g_iast (pc := 289) X q267 q269 dX12_init_289 (fun h270 e271 => ?_)
  have hV := hV h270 e271
  refine g_iconst (pc := 290) (v := (0 : Int32)) X dX12_init_290 (by decide) ?_
  refine g_istore_n (pc := 291) X (i := 1) (rest := [(0, rv w.2.2.2 x0)]) rfl (by decide) (by simp [flt1, flt2, rv_cat, cat_int, cat_long]) dX12_init_291 (fun y272 e273 => ?_)
  have hV := hV y272 e273
  refine g_aload_n (pc := 292) X 1 rfl rfl dX12_init_292 ?_
  refine g_iload_n (pc := 293) X 0 rfl rfl dX12_init_293 ?_
  refine g_iconst (pc := 294) (v := (2 : Int32)) X dX12_init_294 (by decide) ?_
  refine g_iconst (pc := 295) (v := (0 : Int32)) X dX12_init_295 (by decide) ?_
  refine g_iconst (pc := 296) (v := (0 : Int32)) X dX12_init_296 (by decide) ?_
  refine g_iconst (pc := 297) (v := (0 : Int32)) X dX12_init_297 (by decide) ?_
  refine g_iconst (pc := 298) (v := (0 : Int32)) X dX12_init_298 (by decide) ?_
  refine g_iconst (pc := 299) (v := (0 : Int32)) X dX12_init_299 (by decide) ?_
  obtain ⟨P274, t275, q279, hV⟩ := hV
  refine g_cVI (pc := 300) X (As := [Value.int y272, Value.int (2 : Int32), Value.int (0 : Int32), Value.int (0 : Int32), Value.int (0 : Int32), Value.int (0 : Int32), Value.int (0 : Int32)]) ml_X12_110 rfl q259 t275 (by rw [hR]; exact ⟨Nat.le_of_ble_eq_true rfl, Nat.le_of_ble_eq_true rfl, Nat.le_of_ble_eq_true rfl, q279⟩) rfl rfl (Nat.zero_le _) dX12_init_300 (fun v278 h277 p276 => ?_)
  have hV := hV v278 h277 p276
  refine g_istore_n (pc := 303) X (i := 1) (rest := [(0, rv w.2.2.2 x0)]) rfl (by decide) (by simp [flt1, flt2, rv_cat, cat_int, cat_long]) dX12_init_303 (fun y280 e281 => ?_)
  have hV := hV y280 e281
  refine g_iconst (pc := 304) (v := (0 : Int32)) X dX12_init_304 (by decide) ?_
  refine g_istore_n (pc := 305) X (i := 2) (rest := [(1, Value.int y280), (0, rv w.2.2.2 x0)]) rfl (by decide) rfl dX12_init_305 (fun y282 e283 => ?_)
  have hV := hV y282 e283
  obtain ⟨q284, hV⟩ := hV
  rw [q284]
  refine g_lv [2, 1, 0] rfl ?_
  exact hL306 sh255 x0 y280 y282 h277 hV
def C_X12_init (w : Wd) (sh : List Sh) (x0 : Nat) (h : Hp) (ms : Nat) (RET : List Sh → Hp → Prop) : Prop := Ct w yX12_init (.code yX12_init cX12_init 5 none) 2 47 28 ms [rv w.2.2.2 x0] sh h (fun q sh9 h9 => q = none ∧ RET sh9 h9)
set_option maxRecDepth 20000 in
theorem K_X12_init {w : Wd} {sh : List Sh} {x0 : Nat} {h : Hp} {ms : Nat} {RET : List Sh → Hp → Prop} {α : Type} {r : α → α → Prop} (wf : WellFounded r) (I306 : α → List Sh → Nat → Int32 → Int32 → Hp → Prop) (I332 : α → List Sh → Nat → Int32 → Int32 → Hp → Prop) (I352 : α → List Sh → Nat → Int32 → Int32 → Int32 → Hp → Prop) (I384 : α → List Sh → Nat → Int32 → Int32 → Hp → Prop) (I391 : α → List Sh → Nat → Int32 → Int32 → Int32 → Hp → Prop) (I399 : α → List Sh → Nat → Int32 → Int32 → Int32 → Int32 → Hp → Prop) (I440 : α → List Sh → Nat → Int32 → Int32 → Hp → Prop) (I448 : α → List Sh → Nat → Int32 → Int32 → Int32 → Hp → Prop) (I479 : α → List Sh → Nat → Int32 → Int32 → Hp → Prop) (hE : V_X12_init_0 w sh x0 h ms (fun sh x0 x1 x2 h => ∃ a, I306 a sh x0 x1 x2 h) (fun sh x0 x1 x2 h => ∃ a, I332 a sh x0 x1 x2 h) (fun sh x0 x1 x2 x3 h => ∃ a, I352 a sh x0 x1 x2 x3 h) (fun sh x0 x1 x2 h => ∃ a, I384 a sh x0 x1 x2 h) (fun sh x0 x1 x2 x3 h => ∃ a, I391 a sh x0 x1 x2 x3 h) (fun sh x0 x1 x2 x3 x4 h => ∃ a, I399 a sh x0 x1 x2 x3 x4 h) (fun sh x0 x1 x2 h => ∃ a, I440 a sh x0 x1 x2 h) (fun sh x0 x1 x2 x3 h => ∃ a, I448 a sh x0 x1 x2 x3 h) (fun sh x0 x1 x2 h => ∃ a, I479 a sh x0 x1 x2 h) RET) (h306 : ∀ (b : α) (sh : List Sh) (x0 : Nat) (x1 : Int32) (x2 : Int32) (h : Hp), I306 b sh x0 x1 x2 h → V_X12_init_306 w sh x0 x1 x2 h ms (fun sh x0 x1 x2 h => ∃ a, r a b ∧ I306 a sh x0 x1 x2 h) (fun sh x0 x1 x2 h => ∃ a, r a b ∧ I332 a sh x0 x1 x2 h) (fun sh x0 x1 x2 x3 h => ∃ a, r a b ∧ I352 a sh x0 x1 x2 x3 h) (fun sh x0 x1 x2 h => ∃ a, r a b ∧ I384 a sh x0 x1 x2 h) (fun sh x0 x1 x2 x3 h => ∃ a, r a b ∧ I391 a sh x0 x1 x2 x3 h) (fun sh x0 x1 x2 x3 x4 h => ∃ a, r a b ∧ I399 a sh x0 x1 x2 x3 x4 h) (fun sh x0 x1 x2 h => ∃ a, r a b ∧ I440 a sh x0 x1 x2 h) (fun sh x0 x1 x2 x3 h => ∃ a, r a b ∧ I448 a sh x0 x1 x2 x3 h) (fun sh x0 x1 x2 h => ∃ a, r a b ∧ I479 a sh x0 x1 x2 h) RET) (h332 : ∀ (b : α) (sh : List Sh) (x0 : Nat) (x1 : Int32) (x2 : Int32) (h : Hp), I332 b sh x0 x1 x2 h → V_X12_init_332 w sh x0 x1 x2 h ms (fun sh x0 x1 x2 h => ∃ a, r a b ∧ I306 a sh x0 x1 x2 h) (fun sh x0 x1 x2 h => ∃ a, r a b ∧ I332 a sh x0 x1 x2 h) (fun sh x0 x1 x2 x3 h => ∃ a, r a b ∧ I352 a sh x0 x1 x2 x3 h) (fun sh x0 x1 x2 h => ∃ a, r a b ∧ I384 a sh x0 x1 x2 h) (fun sh x0 x1 x2 x3 h => ∃ a, r a b ∧ I391 a sh x0 x1 x2 x3 h) (fun sh x0 x1 x2 x3 x4 h => ∃ a, r a b ∧ I399 a sh x0 x1 x2 x3 x4 h) (fun sh x0 x1 x2 h => ∃ a, r a b ∧ I440 a sh x0 x1 x2 h) (fun sh x0 x1 x2 x3 h => ∃ a, r a b ∧ I448 a sh x0 x1 x2 x3 h) (fun sh x0 x1 x2 h => ∃ a, r a b ∧ I479 a sh x0 x1 x2 h) RET) (h352 : ∀ (b : α) (sh : List Sh) (x0 : Nat) (x1 : Int32) (x2 : Int32) (x3 : Int32) (h : Hp), I352 b sh x0 x1 x2 x3 h → V_X12_init_352 w sh x0 x1 x2 x3 h ms (fun sh x0 x1 x2 h => ∃ a, r a b ∧ I306 a sh x0 x1 x2 h) (fun sh x0 x1 x2 h => ∃ a, r a b ∧ I332 a sh x0 x1 x2 h) (fun sh x0 x1 x2 x3 h => ∃ a, r a b ∧ I352 a sh x0 x1 x2 x3 h) (fun sh x0 x1 x2 h => ∃ a, r a b ∧ I384 a sh x0 x1 x2 h) (fun sh x0 x1 x2 x3 h => ∃ a, r a b ∧ I391 a sh x0 x1 x2 x3 h) (fun sh x0 x1 x2 x3 x4 h => ∃ a, r a b ∧ I399 a sh x0 x1 x2 x3 x4 h) (fun sh x0 x1 x2 h => ∃ a, r a b ∧ I440 a sh x0 x1 x2 h) (fun sh x0 x1 x2 x3 h => ∃ a, r a b ∧ I448 a sh x0 x1 x2 x3 h) (fun sh x0 x1 x2 h => ∃ a, r a b ∧ I479 a sh x0 x1 x2 h) RET) (h384 : ∀ (b : α) (sh : List Sh) (x0 : Nat) (x1 : Int32) (x2 : Int32) (h : Hp), I384 b sh x0 x1 x2 h → V_X12_init_384 w sh x0 x1 x2 h ms (fun sh x0 x1 x2 h => ∃ a, r a b ∧ I306 a sh x0 x1 x2 h) (fun sh x0 x1 x2 h => ∃ a, r a b ∧ I332 a sh x0 x1 x2 h) (fun sh x0 x1 x2 x3 h => ∃ a, r a b ∧ I352 a sh x0 x1 x2 x3 h) (fun sh x0 x1 x2 h => ∃ a, r a b ∧ I384 a sh x0 x1 x2 h) (fun sh x0 x1 x2 x3 h => ∃ a, r a b ∧ I391 a sh x0 x1 x2 x3 h) (fun sh x0 x1 x2 x3 x4 h => ∃ a, r a b ∧ I399 a sh x0 x1 x2 x3 x4 h) (fun sh x0 x1 x2 h => ∃ a, r a b ∧ I440 a sh x0 x1 x2 h) (fun sh x0 x1 x2 x3 h => ∃ a, r a b ∧ I448 a sh x0 x1 x2 x3 h) (fun sh x0 x1 x2 h => ∃ a, r a b ∧ I479 a sh x0 x1 x2 h) RET) (h391 : ∀ (b : α) (sh : List Sh) (x0 : Nat) (x1 : Int32) (x2 : Int32) (x3 : Int32) (h : Hp), I391 b sh x0 x1 x2 x3 h → V_X12_init_391 w sh x0 x1 x2 x3 h ms (fun sh x0 x1 x2 h => ∃ a, r a b ∧ I306 a sh x0 x1 x2 h) (fun sh x0 x1 x2 h => ∃ a, r a b ∧ I332 a sh x0 x1 x2 h) (fun sh x0 x1 x2 x3 h => ∃ a, r a b ∧ I352 a sh x0 x1 x2 x3 h) (fun sh x0 x1 x2 h => ∃ a, r a b ∧ I384 a sh x0 x1 x2 h) (fun sh x0 x1 x2 x3 h => ∃ a, r a b ∧ I391 a sh x0 x1 x2 x3 h) (fun sh x0 x1 x2 x3 x4 h => ∃ a, r a b ∧ I399 a sh x0 x1 x2 x3 x4 h) (fun sh x0 x1 x2 h => ∃ a, r a b ∧ I440 a sh x0 x1 x2 h) (fun sh x0 x1 x2 x3 h => ∃ a, r a b ∧ I448 a sh x0 x1 x2 x3 h) (fun sh x0 x1 x2 h => ∃ a, r a b ∧ I479 a sh x0 x1 x2 h) RET) (h399 : ∀ (b : α) (sh : List Sh) (x0 : Nat) (x1 : Int32) (x2 : Int32) (x3 : Int32) (x4 : Int32) (h : Hp), I399 b sh x0 x1 x2 x3 x4 h → V_X12_init_399 w sh x0 x1 x2 x3 x4 h ms (fun sh x0 x1 x2 h => ∃ a, r a b ∧ I306 a sh x0 x1 x2 h) (fun sh x0 x1 x2 h => ∃ a, r a b ∧ I332 a sh x0 x1 x2 h) (fun sh x0 x1 x2 x3 h => ∃ a, r a b ∧ I352 a sh x0 x1 x2 x3 h) (fun sh x0 x1 x2 h => ∃ a, r a b ∧ I384 a sh x0 x1 x2 h) (fun sh x0 x1 x2 x3 h => ∃ a, r a b ∧ I391 a sh x0 x1 x2 x3 h) (fun sh x0 x1 x2 x3 x4 h => ∃ a, r a b ∧ I399 a sh x0 x1 x2 x3 x4 h) (fun sh x0 x1 x2 h => ∃ a, r a b ∧ I440 a sh x0 x1 x2 h) (fun sh x0 x1 x2 x3 h => ∃ a, r a b ∧ I448 a sh x0 x1 x2 x3 h) (fun sh x0 x1 x2 h => ∃ a, r a b ∧ I479 a sh x0 x1 x2 h) RET) (h440 : ∀ (b : α) (sh : List Sh) (x0 : Nat) (x1 : Int32) (x2 : Int32) (h : Hp), I440 b sh x0 x1 x2 h → V_X12_init_440 w sh x0 x1 x2 h ms (fun sh x0 x1 x2 h => ∃ a, r a b ∧ I306 a sh x0 x1 x2 h) (fun sh x0 x1 x2 h => ∃ a, r a b ∧ I332 a sh x0 x1 x2 h) (fun sh x0 x1 x2 x3 h => ∃ a, r a b ∧ I352 a sh x0 x1 x2 x3 h) (fun sh x0 x1 x2 h => ∃ a, r a b ∧ I384 a sh x0 x1 x2 h) (fun sh x0 x1 x2 x3 h => ∃ a, r a b ∧ I391 a sh x0 x1 x2 x3 h) (fun sh x0 x1 x2 x3 x4 h => ∃ a, r a b ∧ I399 a sh x0 x1 x2 x3 x4 h) (fun sh x0 x1 x2 h => ∃ a, r a b ∧ I440 a sh x0 x1 x2 h) (fun sh x0 x1 x2 x3 h => ∃ a, r a b ∧ I448 a sh x0 x1 x2 x3 h) (fun sh x0 x1 x2 h => ∃ a, r a b ∧ I479 a sh x0 x1 x2 h) RET) (h448 : ∀ (b : α) (sh : List Sh) (x0 : Nat) (x1 : Int32) (x2 : Int32) (x3 : Int32) (h : Hp), I448 b sh x0 x1 x2 x3 h → V_X12_init_448 w sh x0 x1 x2 x3 h ms (fun sh x0 x1 x2 h => ∃ a, r a b ∧ I306 a sh x0 x1 x2 h) (fun sh x0 x1 x2 h => ∃ a, r a b ∧ I332 a sh x0 x1 x2 h) (fun sh x0 x1 x2 x3 h => ∃ a, r a b ∧ I352 a sh x0 x1 x2 x3 h) (fun sh x0 x1 x2 h => ∃ a, r a b ∧ I384 a sh x0 x1 x2 h) (fun sh x0 x1 x2 x3 h => ∃ a, r a b ∧ I391 a sh x0 x1 x2 x3 h) (fun sh x0 x1 x2 x3 x4 h => ∃ a, r a b ∧ I399 a sh x0 x1 x2 x3 x4 h) (fun sh x0 x1 x2 h => ∃ a, r a b ∧ I440 a sh x0 x1 x2 h) (fun sh x0 x1 x2 x3 h => ∃ a, r a b ∧ I448 a sh x0 x1 x2 x3 h) (fun sh x0 x1 x2 h => ∃ a, r a b ∧ I479 a sh x0 x1 x2 h) RET) (h479 : ∀ (b : α) (sh : List Sh) (x0 : Nat) (x1 : Int32) (x2 : Int32) (h : Hp), I479 b sh x0 x1 x2 h → V_X12_init_479 w sh x0 x1 x2 h ms (fun sh x0 x1 x2 h => ∃ a, r a b ∧ I306 a sh x0 x1 x2 h) (fun sh x0 x1 x2 h => ∃ a, r a b ∧ I332 a sh x0 x1 x2 h) (fun sh x0 x1 x2 x3 h => ∃ a, r a b ∧ I352 a sh x0 x1 x2 x3 h) (fun sh x0 x1 x2 h => ∃ a, r a b ∧ I384 a sh x0 x1 x2 h) (fun sh x0 x1 x2 x3 h => ∃ a, r a b ∧ I391 a sh x0 x1 x2 x3 h) (fun sh x0 x1 x2 x3 x4 h => ∃ a, r a b ∧ I399 a sh x0 x1 x2 x3 x4 h) (fun sh x0 x1 x2 h => ∃ a, r a b ∧ I440 a sh x0 x1 x2 h) (fun sh x0 x1 x2 x3 h => ∃ a, r a b ∧ I448 a sh x0 x1 x2 x3 h) (fun sh x0 x1 x2 h => ∃ a, r a b ∧ I479 a sh x0 x1 x2 h) RET) : C_X12_init w sh x0 h ms RET :=
  Ct_of (by decide +kernel) (by simp [lg_sl, rv_cat, cat_int, cat_long]) (fun E X Tt hR hin => by
    have key : ∀ a : α, (∀ (sh : List Sh) (x0 : Nat) (x1 : Int32) (x2 : Int32) (h : Hp), I306 a sh x0 x1 x2 h → G w E 5 306 [(0, rv w.2.2.2 x0), (1, Value.int x1), (2, Value.int x2)] [] sh h 28 ms) ∧ (∀ (sh : List Sh) (x0 : Nat) (x1 : Int32) (x2 : Int32) (h : Hp), I332 a sh x0 x1 x2 h → G w E 5 332 [(0, rv w.2.2.2 x0), (1, Value.int x1), (2, Value.int x2)] [] sh h 28 ms) ∧ (∀ (sh : List Sh) (x0 : Nat) (x1 : Int32) (x2 : Int32) (x3 : Int32) (h : Hp), I352 a sh x0 x1 x2 x3 h → G w E 5 352 [(0, rv w.2.2.2 x0), (1, Value.int x1), (2, Value.int x2), (3, Value.int x3)] [] sh h 28 ms) ∧ (∀ (sh : List Sh) (x0 : Nat) (x1 : Int32) (x2 : Int32) (h : Hp), I384 a sh x0 x1 x2 h → G w E 5 384 [(0, rv w.2.2.2 x0), (1, Value.int x1), (2, Value.int x2)] [] sh h 28 ms) ∧ (∀ (sh : List Sh) (x0 : Nat) (x1 : Int32) (x2 : Int32) (x3 : Int32) (h : Hp), I391 a sh x0 x1 x2 x3 h → G w E 5 391 [(0, rv w.2.2.2 x0), (1, Value.int x1), (2, Value.int x2), (3, Value.int x3)] [] sh h 28 ms) ∧ (∀ (sh : List Sh) (x0 : Nat) (x1 : Int32) (x2 : Int32) (x3 : Int32) (x4 : Int32) (h : Hp), I399 a sh x0 x1 x2 x3 x4 h → G w E 5 399 [(0, rv w.2.2.2 x0), (1, Value.int x1), (2, Value.int x2), (3, Value.int x3), (4, Value.int x4)] [] sh h 28 ms) ∧ (∀ (sh : List Sh) (x0 : Nat) (x1 : Int32) (x2 : Int32) (h : Hp), I440 a sh x0 x1 x2 h → G w E 5 440 [(0, rv w.2.2.2 x0), (1, Value.int x1), (2, Value.int x2)] [] sh h 28 ms) ∧ (∀ (sh : List Sh) (x0 : Nat) (x1 : Int32) (x2 : Int32) (x3 : Int32) (h : Hp), I448 a sh x0 x1 x2 x3 h → G w E 5 448 [(0, rv w.2.2.2 x0), (1, Value.int x1), (2, Value.int x2), (3, Value.int x3)] [] sh h 28 ms) ∧ (∀ (sh : List Sh) (x0 : Nat) (x1 : Int32) (x2 : Int32) (h : Hp), I479 a sh x0 x1 x2 h → G w E 5 479 [(0, rv w.2.2.2 x0), (1, Value.int x1), (2, Value.int x2)] [] sh h 28 ms) := by
      intro a
      induction a using wf.induction with
      | _ a ih =>
        exact ⟨(fun sh x0 x1 x2 h hi => W_X12_init_306 X Tt hR hin (fun sh x0 x1 x2 h hx => by obtain ⟨a2, ha, hi⟩ := hx; exact ((ih a2 ha)).1 sh x0 x1 x2 h hi) (fun sh x0 x1 x2 h hx => by obtain ⟨a2, ha, hi⟩ := hx; exact (((ih a2 ha)).2).1 sh x0 x1 x2 h hi) (fun sh x0 x1 x2 x3 h hx => by obtain ⟨a2, ha, hi⟩ := hx; exact ((((ih a2 ha)).2).2).1 sh x0 x1 x2 x3 h hi) (fun sh x0 x1 x2 h hx => by obtain ⟨a2, ha, hi⟩ := hx; exact (((((ih a2 ha)).2).2).2).1 sh x0 x1 x2 h hi) (fun sh x0 x1 x2 x3 h hx => by obtain ⟨a2, ha, hi⟩ := hx; exact ((((((ih a2 ha)).2).2).2).2).1 sh x0 x1 x2 x3 h hi) (fun sh x0 x1 x2 x3 x4 h hx => by obtain ⟨a2, ha, hi⟩ := hx; exact (((((((ih a2 ha)).2).2).2).2).2).1 sh x0 x1 x2 x3 x4 h hi) (fun sh x0 x1 x2 h hx => by obtain ⟨a2, ha, hi⟩ := hx; exact ((((((((ih a2 ha)).2).2).2).2).2).2).1 sh x0 x1 x2 h hi) (fun sh x0 x1 x2 x3 h hx => by obtain ⟨a2, ha, hi⟩ := hx; exact (((((((((ih a2 ha)).2).2).2).2).2).2).2).1 sh x0 x1 x2 x3 h hi) (fun sh x0 x1 x2 h hx => by obtain ⟨a2, ha, hi⟩ := hx; exact (((((((((ih a2 ha)).2).2).2).2).2).2).2).2 sh x0 x1 x2 h hi) (h306 a sh x0 x1 x2 h hi)), (fun sh x0 x1 x2 h hi => W_X12_init_332 X Tt hR hin (fun sh x0 x1 x2 h hx => by obtain ⟨a2, ha, hi⟩ := hx; exact ((ih a2 ha)).1 sh x0 x1 x2 h hi) (fun sh x0 x1 x2 h hx => by obtain ⟨a2, ha, hi⟩ := hx; exact (((ih a2 ha)).2).1 sh x0 x1 x2 h hi) (fun sh x0 x1 x2 x3 h hx => by obtain ⟨a2, ha, hi⟩ := hx; exact ((((ih a2 ha)).2).2).1 sh x0 x1 x2 x3 h hi) (fun sh x0 x1 x2 h hx => by obtain ⟨a2, ha, hi⟩ := hx; exact (((((ih a2 ha)).2).2).2).1 sh x0 x1 x2 h hi) (fun sh x0 x1 x2 x3 h hx => by obtain ⟨a2, ha, hi⟩ := hx; exact ((((((ih a2 ha)).2).2).2).2).1 sh x0 x1 x2 x3 h hi) (fun sh x0 x1 x2 x3 x4 h hx => by obtain ⟨a2, ha, hi⟩ := hx; exact (((((((ih a2 ha)).2).2).2).2).2).1 sh x0 x1 x2 x3 x4 h hi) (fun sh x0 x1 x2 h hx => by obtain ⟨a2, ha, hi⟩ := hx; exact ((((((((ih a2 ha)).2).2).2).2).2).2).1 sh x0 x1 x2 h hi) (fun sh x0 x1 x2 x3 h hx => by obtain ⟨a2, ha, hi⟩ := hx; exact (((((((((ih a2 ha)).2).2).2).2).2).2).2).1 sh x0 x1 x2 x3 h hi) (fun sh x0 x1 x2 h hx => by obtain ⟨a2, ha, hi⟩ := hx; exact (((((((((ih a2 ha)).2).2).2).2).2).2).2).2 sh x0 x1 x2 h hi) (h332 a sh x0 x1 x2 h hi)), (fun sh x0 x1 x2 x3 h hi => W_X12_init_352 X Tt hR hin (fun sh x0 x1 x2 h hx => by obtain ⟨a2, ha, hi⟩ := hx; exact ((ih a2 ha)).1 sh x0 x1 x2 h hi) (fun sh x0 x1 x2 h hx => by obtain ⟨a2, ha, hi⟩ := hx; exact (((ih a2 ha)).2).1 sh x0 x1 x2 h hi) (fun sh x0 x1 x2 x3 h hx => by obtain ⟨a2, ha, hi⟩ := hx; exact ((((ih a2 ha)).2).2).1 sh x0 x1 x2 x3 h hi) (fun sh x0 x1 x2 h hx => by obtain ⟨a2, ha, hi⟩ := hx; exact (((((ih a2 ha)).2).2).2).1 sh x0 x1 x2 h hi) (fun sh x0 x1 x2 x3 h hx => by obtain ⟨a2, ha, hi⟩ := hx; exact ((((((ih a2 ha)).2).2).2).2).1 sh x0 x1 x2 x3 h hi) (fun sh x0 x1 x2 x3 x4 h hx => by obtain ⟨a2, ha, hi⟩ := hx; exact (((((((ih a2 ha)).2).2).2).2).2).1 sh x0 x1 x2 x3 x4 h hi) (fun sh x0 x1 x2 h hx => by obtain ⟨a2, ha, hi⟩ := hx; exact ((((((((ih a2 ha)).2).2).2).2).2).2).1 sh x0 x1 x2 h hi) (fun sh x0 x1 x2 x3 h hx => by obtain ⟨a2, ha, hi⟩ := hx; exact (((((((((ih a2 ha)).2).2).2).2).2).2).2).1 sh x0 x1 x2 x3 h hi) (fun sh x0 x1 x2 h hx => by obtain ⟨a2, ha, hi⟩ := hx; exact (((((((((ih a2 ha)).2).2).2).2).2).2).2).2 sh x0 x1 x2 h hi) (h352 a sh x0 x1 x2 x3 h hi)), (fun sh x0 x1 x2 h hi => W_X12_init_384 X Tt hR hin (fun sh x0 x1 x2 h hx => by obtain ⟨a2, ha, hi⟩ := hx; exact ((ih a2 ha)).1 sh x0 x1 x2 h hi) (fun sh x0 x1 x2 h hx => by obtain ⟨a2, ha, hi⟩ := hx; exact (((ih a2 ha)).2).1 sh x0 x1 x2 h hi) (fun sh x0 x1 x2 x3 h hx => by obtain ⟨a2, ha, hi⟩ := hx; exact ((((ih a2 ha)).2).2).1 sh x0 x1 x2 x3 h hi) (fun sh x0 x1 x2 h hx => by obtain ⟨a2, ha, hi⟩ := hx; exact (((((ih a2 ha)).2).2).2).1 sh x0 x1 x2 h hi) (fun sh x0 x1 x2 x3 h hx => by obtain ⟨a2, ha, hi⟩ := hx; exact ((((((ih a2 ha)).2).2).2).2).1 sh x0 x1 x2 x3 h hi) (fun sh x0 x1 x2 x3 x4 h hx => by obtain ⟨a2, ha, hi⟩ := hx; exact (((((((ih a2 ha)).2).2).2).2).2).1 sh x0 x1 x2 x3 x4 h hi) (fun sh x0 x1 x2 h hx => by obtain ⟨a2, ha, hi⟩ := hx; exact ((((((((ih a2 ha)).2).2).2).2).2).2).1 sh x0 x1 x2 h hi) (fun sh x0 x1 x2 x3 h hx => by obtain ⟨a2, ha, hi⟩ := hx; exact (((((((((ih a2 ha)).2).2).2).2).2).2).2).1 sh x0 x1 x2 x3 h hi) (fun sh x0 x1 x2 h hx => by obtain ⟨a2, ha, hi⟩ := hx; exact (((((((((ih a2 ha)).2).2).2).2).2).2).2).2 sh x0 x1 x2 h hi) (h384 a sh x0 x1 x2 h hi)), (fun sh x0 x1 x2 x3 h hi => W_X12_init_391 X Tt hR hin (fun sh x0 x1 x2 h hx => by obtain ⟨a2, ha, hi⟩ := hx; exact ((ih a2 ha)).1 sh x0 x1 x2 h hi) (fun sh x0 x1 x2 h hx => by obtain ⟨a2, ha, hi⟩ := hx; exact (((ih a2 ha)).2).1 sh x0 x1 x2 h hi) (fun sh x0 x1 x2 x3 h hx => by obtain ⟨a2, ha, hi⟩ := hx; exact ((((ih a2 ha)).2).2).1 sh x0 x1 x2 x3 h hi) (fun sh x0 x1 x2 h hx => by obtain ⟨a2, ha, hi⟩ := hx; exact (((((ih a2 ha)).2).2).2).1 sh x0 x1 x2 h hi) (fun sh x0 x1 x2 x3 h hx => by obtain ⟨a2, ha, hi⟩ := hx; exact ((((((ih a2 ha)).2).2).2).2).1 sh x0 x1 x2 x3 h hi) (fun sh x0 x1 x2 x3 x4 h hx => by obtain ⟨a2, ha, hi⟩ := hx; exact (((((((ih a2 ha)).2).2).2).2).2).1 sh x0 x1 x2 x3 x4 h hi) (fun sh x0 x1 x2 h hx => by obtain ⟨a2, ha, hi⟩ := hx; exact ((((((((ih a2 ha)).2).2).2).2).2).2).1 sh x0 x1 x2 h hi) (fun sh x0 x1 x2 x3 h hx => by obtain ⟨a2, ha, hi⟩ := hx; exact (((((((((ih a2 ha)).2).2).2).2).2).2).2).1 sh x0 x1 x2 x3 h hi) (fun sh x0 x1 x2 h hx => by obtain ⟨a2, ha, hi⟩ := hx; exact (((((((((ih a2 ha)).2).2).2).2).2).2).2).2 sh x0 x1 x2 h hi) (h391 a sh x0 x1 x2 x3 h hi)), (fun sh x0 x1 x2 x3 x4 h hi => W_X12_init_399 X Tt hR hin (fun sh x0 x1 x2 h hx => by obtain ⟨a2, ha, hi⟩ := hx; exact ((ih a2 ha)).1 sh x0 x1 x2 h hi) (fun sh x0 x1 x2 h hx => by obtain ⟨a2, ha, hi⟩ := hx; exact (((ih a2 ha)).2).1 sh x0 x1 x2 h hi) (fun sh x0 x1 x2 x3 h hx => by obtain ⟨a2, ha, hi⟩ := hx; exact ((((ih a2 ha)).2).2).1 sh x0 x1 x2 x3 h hi) (fun sh x0 x1 x2 h hx => by obtain ⟨a2, ha, hi⟩ := hx; exact (((((ih a2 ha)).2).2).2).1 sh x0 x1 x2 h hi) (fun sh x0 x1 x2 x3 h hx => by obtain ⟨a2, ha, hi⟩ := hx; exact ((((((ih a2 ha)).2).2).2).2).1 sh x0 x1 x2 x3 h hi) (fun sh x0 x1 x2 x3 x4 h hx => by obtain ⟨a2, ha, hi⟩ := hx; exact (((((((ih a2 ha)).2).2).2).2).2).1 sh x0 x1 x2 x3 x4 h hi) (fun sh x0 x1 x2 h hx => by obtain ⟨a2, ha, hi⟩ := hx; exact ((((((((ih a2 ha)).2).2).2).2).2).2).1 sh x0 x1 x2 h hi) (fun sh x0 x1 x2 x3 h hx => by obtain ⟨a2, ha, hi⟩ := hx; exact (((((((((ih a2 ha)).2).2).2).2).2).2).2).1 sh x0 x1 x2 x3 h hi) (fun sh x0 x1 x2 h hx => by obtain ⟨a2, ha, hi⟩ := hx; exact (((((((((ih a2 ha)).2).2).2).2).2).2).2).2 sh x0 x1 x2 h hi) (h399 a sh x0 x1 x2 x3 x4 h hi)), (fun sh x0 x1 x2 h hi => W_X12_init_440 X Tt hR hin (fun sh x0 x1 x2 h hx => by obtain ⟨a2, ha, hi⟩ := hx; exact ((ih a2 ha)).1 sh x0 x1 x2 h hi) (fun sh x0 x1 x2 h hx => by obtain ⟨a2, ha, hi⟩ := hx; exact (((ih a2 ha)).2).1 sh x0 x1 x2 h hi) (fun sh x0 x1 x2 x3 h hx => by obtain ⟨a2, ha, hi⟩ := hx; exact ((((ih a2 ha)).2).2).1 sh x0 x1 x2 x3 h hi) (fun sh x0 x1 x2 h hx => by obtain ⟨a2, ha, hi⟩ := hx; exact (((((ih a2 ha)).2).2).2).1 sh x0 x1 x2 h hi) (fun sh x0 x1 x2 x3 h hx => by obtain ⟨a2, ha, hi⟩ := hx; exact ((((((ih a2 ha)).2).2).2).2).1 sh x0 x1 x2 x3 h hi) (fun sh x0 x1 x2 x3 x4 h hx => by obtain ⟨a2, ha, hi⟩ := hx; exact (((((((ih a2 ha)).2).2).2).2).2).1 sh x0 x1 x2 x3 x4 h hi) (fun sh x0 x1 x2 h hx => by obtain ⟨a2, ha, hi⟩ := hx; exact ((((((((ih a2 ha)).2).2).2).2).2).2).1 sh x0 x1 x2 h hi) (fun sh x0 x1 x2 x3 h hx => by obtain ⟨a2, ha, hi⟩ := hx; exact (((((((((ih a2 ha)).2).2).2).2).2).2).2).1 sh x0 x1 x2 x3 h hi) (fun sh x0 x1 x2 h hx => by obtain ⟨a2, ha, hi⟩ := hx; exact (((((((((ih a2 ha)).2).2).2).2).2).2).2).2 sh x0 x1 x2 h hi) (h440 a sh x0 x1 x2 h hi)), (fun sh x0 x1 x2 x3 h hi => W_X12_init_448 X Tt hR hin (fun sh x0 x1 x2 h hx => by obtain ⟨a2, ha, hi⟩ := hx; exact ((ih a2 ha)).1 sh x0 x1 x2 h hi) (fun sh x0 x1 x2 h hx => by obtain ⟨a2, ha, hi⟩ := hx; exact (((ih a2 ha)).2).1 sh x0 x1 x2 h hi) (fun sh x0 x1 x2 x3 h hx => by obtain ⟨a2, ha, hi⟩ := hx; exact ((((ih a2 ha)).2).2).1 sh x0 x1 x2 x3 h hi) (fun sh x0 x1 x2 h hx => by obtain ⟨a2, ha, hi⟩ := hx; exact (((((ih a2 ha)).2).2).2).1 sh x0 x1 x2 h hi) (fun sh x0 x1 x2 x3 h hx => by obtain ⟨a2, ha, hi⟩ := hx; exact ((((((ih a2 ha)).2).2).2).2).1 sh x0 x1 x2 x3 h hi) (fun sh x0 x1 x2 x3 x4 h hx => by obtain ⟨a2, ha, hi⟩ := hx; exact (((((((ih a2 ha)).2).2).2).2).2).1 sh x0 x1 x2 x3 x4 h hi) (fun sh x0 x1 x2 h hx => by obtain ⟨a2, ha, hi⟩ := hx; exact ((((((((ih a2 ha)).2).2).2).2).2).2).1 sh x0 x1 x2 h hi) (fun sh x0 x1 x2 x3 h hx => by obtain ⟨a2, ha, hi⟩ := hx; exact (((((((((ih a2 ha)).2).2).2).2).2).2).2).1 sh x0 x1 x2 x3 h hi) (fun sh x0 x1 x2 h hx => by obtain ⟨a2, ha, hi⟩ := hx; exact (((((((((ih a2 ha)).2).2).2).2).2).2).2).2 sh x0 x1 x2 h hi) (h448 a sh x0 x1 x2 x3 h hi)), (fun sh x0 x1 x2 h hi => W_X12_init_479 X Tt hR hin (fun sh x0 x1 x2 h hx => by obtain ⟨a2, ha, hi⟩ := hx; exact ((ih a2 ha)).1 sh x0 x1 x2 h hi) (fun sh x0 x1 x2 h hx => by obtain ⟨a2, ha, hi⟩ := hx; exact (((ih a2 ha)).2).1 sh x0 x1 x2 h hi) (fun sh x0 x1 x2 x3 h hx => by obtain ⟨a2, ha, hi⟩ := hx; exact ((((ih a2 ha)).2).2).1 sh x0 x1 x2 x3 h hi) (fun sh x0 x1 x2 h hx => by obtain ⟨a2, ha, hi⟩ := hx; exact (((((ih a2 ha)).2).2).2).1 sh x0 x1 x2 h hi) (fun sh x0 x1 x2 x3 h hx => by obtain ⟨a2, ha, hi⟩ := hx; exact ((((((ih a2 ha)).2).2).2).2).1 sh x0 x1 x2 x3 h hi) (fun sh x0 x1 x2 x3 x4 h hx => by obtain ⟨a2, ha, hi⟩ := hx; exact (((((((ih a2 ha)).2).2).2).2).2).1 sh x0 x1 x2 x3 x4 h hi) (fun sh x0 x1 x2 h hx => by obtain ⟨a2, ha, hi⟩ := hx; exact ((((((((ih a2 ha)).2).2).2).2).2).2).1 sh x0 x1 x2 h hi) (fun sh x0 x1 x2 x3 h hx => by obtain ⟨a2, ha, hi⟩ := hx; exact (((((((((ih a2 ha)).2).2).2).2).2).2).2).1 sh x0 x1 x2 x3 h hi) (fun sh x0 x1 x2 h hx => by obtain ⟨a2, ha, hi⟩ := hx; exact (((((((((ih a2 ha)).2).2).2).2).2).2).2).2 sh x0 x1 x2 h hi) (h479 a sh x0 x1 x2 h hi))⟩
    rw [show lv_args 0 [rv w.2.2.2 x0] = [(0, rv w.2.2.2 x0)] from by simp [lv_args, rv_cat, cat_int, cat_long]]
    refine g_lv [0] rfl ?_
    exact W_X12_init_0 X Tt hR hin (fun sh x0 x1 x2 h hx => by obtain ⟨a2, hi⟩ := hx; exact ((key a2)).1 sh x0 x1 x2 h hi) (fun sh x0 x1 x2 h hx => by obtain ⟨a2, hi⟩ := hx; exact (((key a2)).2).1 sh x0 x1 x2 h hi) (fun sh x0 x1 x2 x3 h hx => by obtain ⟨a2, hi⟩ := hx; exact ((((key a2)).2).2).1 sh x0 x1 x2 x3 h hi) (fun sh x0 x1 x2 h hx => by obtain ⟨a2, hi⟩ := hx; exact (((((key a2)).2).2).2).1 sh x0 x1 x2 h hi) (fun sh x0 x1 x2 x3 h hx => by obtain ⟨a2, hi⟩ := hx; exact ((((((key a2)).2).2).2).2).1 sh x0 x1 x2 x3 h hi) (fun sh x0 x1 x2 x3 x4 h hx => by obtain ⟨a2, hi⟩ := hx; exact (((((((key a2)).2).2).2).2).2).1 sh x0 x1 x2 x3 x4 h hi) (fun sh x0 x1 x2 h hx => by obtain ⟨a2, hi⟩ := hx; exact ((((((((key a2)).2).2).2).2).2).2).1 sh x0 x1 x2 h hi) (fun sh x0 x1 x2 x3 h hx => by obtain ⟨a2, hi⟩ := hx; exact (((((((((key a2)).2).2).2).2).2).2).2).1 sh x0 x1 x2 x3 h hi) (fun sh x0 x1 x2 h hx => by obtain ⟨a2, hi⟩ := hx; exact (((((((((key a2)).2).2).2).2).2).2).2).2 sh x0 x1 x2 h hi) hE)
