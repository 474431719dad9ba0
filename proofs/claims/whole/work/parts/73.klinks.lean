/-! ===== links of makers ===== -/
set_option maxRecDepth 100000 in
theorem lk_objI : Cond.instanceMethod Lib.objectInit ∈ jj_tb := jj_mem (List.mem_of_getElem? (i := 70) (by decide +kernel)) (by decide +kernel)
set_option maxRecDepth 100000 in
theorem lk_objC : Cond.code Lib.objectInit ⟨#[0xb1]⟩ 1 none ∈ jj_tb := jj_mem (List.mem_of_getElem? (i := 71) rfl) rfl
set_option maxRecDepth 100000 in
theorem lk_arrI : Cond.arrayClass .int ∈ jj_tb := jj_mem (List.mem_of_getElem? (i := 110) (by decide +kernel)) (by decide +kernel)
set_option maxRecDepth 100000 in
theorem lk_arrJ : Cond.arrayClass .long ∈ jj_tb := jj_mem (List.mem_of_getElem? (i := 109) (by decide +kernel)) (by decide +kernel)
set_option maxRecDepth 100000 in
theorem lk_arrZ : Cond.arrayClass .boolean ∈ jj_tb := jj_mem (List.mem_of_getElem? (i := 739) (by decide +kernel)) (by decide +kernel)
set_option maxRecDepth 100000 in
theorem lkO_0 : Cond.methodLink RX0 3 Lib.objectInit ∈ jj_tb := jj_mem (List.mem_of_getElem? (i := 157) (by decide +kernel)) (by decide +kernel)
set_option maxRecDepth 100000 in
theorem lkt_0 : Cond.instantiable RX0 11 ∈ jj_tb := jj_mem (List.mem_of_getElem? (i := 153) (by decide +kernel)) (by decide +kernel)
set_option maxRecDepth 100000 in
theorem lkn_0 : Cond.initialized RX0 ∈ jj_tb := jj_mem (List.mem_of_getElem? (i := 56) (by decide +kernel)) (by decide +kernel)
set_option maxRecDepth 100000 in
theorem lkO_1 : Cond.methodLink RX1 3 Lib.objectInit ∈ jj_tb := jj_mem (List.mem_of_getElem? (i := 219) (by decide +kernel)) (by decide +kernel)
set_option maxRecDepth 100000 in
theorem lkt_1 : Cond.instantiable RX1 5 ∈ jj_tb := jj_mem (List.mem_of_getElem? (i := 215) (by decide +kernel)) (by decide +kernel)
set_option maxRecDepth 100000 in
theorem lkn_1 : Cond.initialized RX1 ∈ jj_tb := jj_mem (List.mem_of_getElem? (i := 58) (by decide +kernel)) (by decide +kernel)
set_option maxRecDepth 100000 in
theorem lkO_2 : Cond.methodLink RX2 5 Lib.objectInit ∈ jj_tb := jj_mem (List.mem_of_getElem? (i := 202) (by decide +kernel)) (by decide +kernel)
set_option maxRecDepth 100000 in
theorem lkt_2 : Cond.instantiable RX2 3 ∈ jj_tb := jj_mem (List.mem_of_getElem? (i := 198) (by decide +kernel)) (by decide +kernel)
set_option maxRecDepth 100000 in
theorem lkn_2 : Cond.initialized RX2 ∈ jj_tb := jj_mem (List.mem_of_getElem? (i := 57) (by decide +kernel)) (by decide +kernel)
set_option maxRecDepth 100000 in
theorem lkO_3 : Cond.methodLink RX3 3 Lib.objectInit ∈ jj_tb := jj_mem (List.mem_of_getElem? (i := 116) (by decide +kernel)) (by decide +kernel)
set_option maxRecDepth 100000 in
theorem lkt_3 : Cond.instantiable RX3 7 ∈ jj_tb := jj_mem (List.mem_of_getElem? (i := 112) (by decide +kernel)) (by decide +kernel)
set_option maxRecDepth 100000 in
theorem lkn_3 : Cond.initialized RX3 ∈ jj_tb := jj_mem (List.mem_of_getElem? (i := 55) (by decide +kernel)) (by decide +kernel)
set_option maxRecDepth 100000 in
theorem lkO_4 : Cond.methodLink RX4 3 Lib.objectInit ∈ jj_tb := jj_mem (List.mem_of_getElem? (i := 247) (by decide +kernel)) (by decide +kernel)
set_option maxRecDepth 100000 in
theorem lkt_4 : Cond.instantiable RX4 4 ∈ jj_tb := jj_mem (List.mem_of_getElem? (i := 243) (by decide +kernel)) (by decide +kernel)
set_option maxRecDepth 100000 in
theorem lkn_4 : Cond.initialized RX4 ∈ jj_tb := jj_mem (List.mem_of_getElem? (i := 59) (by decide +kernel)) (by decide +kernel)
set_option maxRecDepth 100000 in
theorem lkO_5 : Cond.methodLink RX5 3 Lib.objectInit ∈ jj_tb := jj_mem (List.mem_of_getElem? (i := 77) (by decide +kernel)) (by decide +kernel)
set_option maxRecDepth 100000 in
theorem lkt_5 : Cond.instantiable RX5 8 ∈ jj_tb := jj_mem (List.mem_of_getElem? (i := 73) (by decide +kernel)) (by decide +kernel)
set_option maxRecDepth 100000 in
theorem lkn_5 : Cond.initialized RX5 ∈ jj_tb := jj_mem (List.mem_of_getElem? (i := 54) (by decide +kernel)) (by decide +kernel)
set_option maxRecDepth 100000 in
theorem lkO_6 : Cond.methodLink RX6 1 Lib.objectInit ∈ jj_tb := jj_mem (List.mem_of_getElem? (i := 69) (by decide +kernel)) (by decide +kernel)
set_option maxRecDepth 100000 in
theorem lkt_6 : Cond.instantiable RX6 9 ∈ jj_tb := jj_mem (List.mem_of_getElem? (i := 65) (by decide +kernel)) (by decide +kernel)
set_option maxRecDepth 100000 in
theorem lkn_6 : Cond.initialized RX6 ∈ jj_tb := jj_mem (List.mem_of_getElem? (i := 53) (by decide +kernel)) (by decide +kernel)
set_option maxRecDepth 100000 in
theorem lkO_7 : Cond.methodLink RX7 1 Lib.objectInit ∈ jj_tb := jj_mem (List.mem_of_getElem? (i := 671) (by decide +kernel)) (by decide +kernel)
set_option maxRecDepth 100000 in
theorem lkt_7 : Cond.instantiable RX7 22 ∈ jj_tb := jj_mem (List.mem_of_getElem? (i := 667) (by decide +kernel)) (by decide +kernel)
set_option maxRecDepth 100000 in
theorem lkn_7 : Cond.initialized RX7 ∈ jj_tb := jj_mem (List.mem_of_getElem? (i := 60) (by decide +kernel)) (by decide +kernel)
set_option maxRecDepth 100000 in
theorem lkc_6_7 : Cond.classLink RX6 7 RX5 ∈ jj_tb := jj_mem (List.mem_of_getElem? (i := 72) (by decide +kernel)) (by decide +kernel)
set_option maxRecDepth 100000 in
theorem lkc_6_10 : Cond.classLink RX6 10 RX3 ∈ jj_tb := jj_mem (List.mem_of_getElem? (i := 111) (by decide +kernel)) (by decide +kernel)
set_option maxRecDepth 100000 in
theorem lkc_6_19 : Cond.classLink RX6 19 RX0 ∈ jj_tb := jj_mem (List.mem_of_getElem? (i := 152) (by decide +kernel)) (by decide +kernel)
set_option maxRecDepth 100000 in
theorem lkc_6_31 : Cond.classLink RX6 31 RX2 ∈ jj_tb := jj_mem (List.mem_of_getElem? (i := 197) (by decide +kernel)) (by decide +kernel)
set_option maxRecDepth 100000 in
theorem lkc_6_38 : Cond.classLink RX6 38 RX1 ∈ jj_tb := jj_mem (List.mem_of_getElem? (i := 214) (by decide +kernel)) (by decide +kernel)
set_option maxRecDepth 100000 in
theorem lkc_6_45 : Cond.classLink RX6 45 RX4 ∈ jj_tb := jj_mem (List.mem_of_getElem? (i := 241) (by decide +kernel)) (by decide +kernel)
set_option maxRecDepth 100000 in
theorem lkc_5_11 : Cond.classLink RX5 11 ("[" ++ (FieldType.array .long).toString) ∈ jj_tb := jj_mem (List.mem_of_getElem? (i := 78) (by decide +kernel)) (by decide +kernel)
set_option maxRecDepth 100000 in
theorem lkc_2_13 : Cond.classLink RX2 13 ("[" ++ (FieldType.array .long).toString) ∈ jj_tb := jj_mem (List.mem_of_getElem? (i := 203) (by decide +kernel)) (by decide +kernel)
set_option maxRecDepth 100000 in
theorem lkc_L_7 : Cond.classLink RL 7 RX6 ∈ jj_tb := jj_mem (List.mem_of_getElem? (i := 64) (by decide +kernel)) (by decide +kernel)
set_option maxRecDepth 100000 in
theorem lkc_L_10 : Cond.classLink RL 10 RX7 ∈ jj_tb := jj_mem (List.mem_of_getElem? (i := 666) (by decide +kernel)) (by decide +kernel)
set_option maxRecDepth 100000 in
theorem lkm_L_9 : Cond.methodLink RL 9 yX6_init ∈ jj_tb := jj_mem (List.mem_of_getElem? (i := 66) (by decide +kernel)) (by decide +kernel)
set_option maxRecDepth 100000 in
theorem lkm_L_12 : Cond.methodLink RL 12 yX7_init ∈ jj_tb := jj_mem (List.mem_of_getElem? (i := 668) (by decide +kernel)) (by decide +kernel)
set_option maxRecDepth 100000 in
theorem lkm_6_21 : Cond.methodLink RX6 21 yX0_init ∈ jj_tb := jj_mem (List.mem_of_getElem? (i := 154) (by decide +kernel)) (by decide +kernel)
abbrev kX0 : kn_M := (yX0_init, cX0_init, 2, 1, 12, 5, 774)
set_option maxRecDepth 100000 in
theorem kI_0 : kn_I kX0 1 := ⟨jj_mem (List.mem_of_getElem? (i := 155) (by decide +kernel)) (by decide +kernel), lkn_0, jj_mem (List.mem_of_getElem? (i := 156) rfl) rfl, rfl, by decide +kernel, by decide +kernel, by decide +kernel⟩
abbrev kX1 : kn_M := (yX1_init, cX1_init, 1, 1, 12, 0, 0)
set_option maxRecDepth 100000 in
theorem kI_1 : kn_I kX1 0 := ⟨jj_mem (List.mem_of_getElem? (i := 217) (by decide +kernel)) (by decide +kernel), lkn_1, jj_mem (List.mem_of_getElem? (i := 218) rfl) rfl, rfl, by decide +kernel, by decide +kernel, by decide +kernel⟩
abbrev kX2 : kn_M := (yX2_init, cX2_init, 1, 1, 12, 12, 130)
set_option maxRecDepth 100000 in
theorem kI_2 : kn_I kX2 0 := ⟨jj_mem (List.mem_of_getElem? (i := 200) (by decide +kernel)) (by decide +kernel), lkn_2, jj_mem (List.mem_of_getElem? (i := 201) rfl) rfl, rfl, by decide +kernel, by decide +kernel, by decide +kernel⟩
abbrev kX3 : kn_M := (yX3_init, cX3_init, 1, 1, 12, 6, 65)
set_option maxRecDepth 100000 in
theorem kI_3 : kn_I kX3 0 := ⟨jj_mem (List.mem_of_getElem? (i := 114) (by decide +kernel)) (by decide +kernel), lkn_3, jj_mem (List.mem_of_getElem? (i := 115) rfl) rfl, rfl, by decide +kernel, by decide +kernel, by decide +kernel⟩
abbrev kX4 : kn_M := (yX4_init, cX4_init, 1, 1, 12, 1, 40)
set_option maxRecDepth 100000 in
theorem kI_4 : kn_I kX4 0 := ⟨jj_mem (List.mem_of_getElem? (i := 245) (by decide +kernel)) (by decide +kernel), lkn_4, jj_mem (List.mem_of_getElem? (i := 246) rfl) rfl, rfl, by decide +kernel, by decide +kernel, by decide +kernel⟩
abbrev kX5 : kn_M := (yX5_init, cX5_init, 1, 1, 12, 14, 928)
set_option maxRecDepth 100000 in
theorem kI_5 : kn_I kX5 0 := ⟨jj_mem (List.mem_of_getElem? (i := 75) (by decide +kernel)) (by decide +kernel), lkn_5, jj_mem (List.mem_of_getElem? (i := 76) rfl) rfl, rfl, by decide +kernel, by decide +kernel, by decide +kernel⟩
abbrev kX6 : kn_M := (yX6_init, cX6_init, 3, 2, 33, 57, 2896)
set_option maxRecDepth 100000 in
theorem kI_6 : kn_I kX6 0 := ⟨jj_mem (List.mem_of_getElem? (i := 67) (by decide +kernel)) (by decide +kernel), lkn_6, jj_mem (List.mem_of_getElem? (i := 68) rfl) rfl, rfl, by decide +kernel, by decide +kernel, by decide +kernel⟩
abbrev kX7 : kn_M := (yX7_init, cX7_init, 2, 1, 12, 14, 3435)
set_option maxRecDepth 100000 in
theorem kI_7 : kn_I kX7 0 := ⟨jj_mem (List.mem_of_getElem? (i := 669) (by decide +kernel)) (by decide +kernel), lkn_7, jj_mem (List.mem_of_getElem? (i := 670) rfl) rfl, rfl, by decide +kernel, by decide +kernel, by decide +kernel⟩
