/-! the words that constructors need -/
def R_law : String := "BreathSoldLaw"
set_option maxRecDepth 20000 in
theorem kb_oi : Cond.instanceMethod objectInit ∈ gw_tb := gw_in (List.mem_append_right _ (List.mem_append_left _ (List.mem_of_getElem? (i := 23) rfl))) rfl
set_option maxRecDepth 20000 in
theorem kb_oc : Cond.code objectInit ⟨#[0xb1]⟩ 1 none ∈ gw_tb := gw_in (List.mem_append_right _ (List.mem_append_left _ (List.mem_of_getElem? (i := 24) rfl))) rfl
set_option maxRecDepth 20000 in
theorem kb_ai : Cond.arrayClass .int ∈ gw_tb := gw_in (List.mem_append_right _ (List.mem_append_left _ (List.mem_of_getElem? (i := 51) rfl))) rfl
set_option maxRecDepth 20000 in
theorem kb_ab : Cond.arrayClass .boolean ∈ gw_tb := gw_in (List.mem_append_right _ (List.mem_append_right _ (List.mem_append_right _ (List.mem_append_right _ (List.mem_append_left _ (List.mem_of_getElem? (i := 176) rfl)))))) rfl
set_option maxRecDepth 20000 in
theorem kn_X0 : Cond.instantiable RX0 5 ∈ gw_tb ∧ Cond.initialized RX0 ∈ gw_tb := ⟨gw_in (List.mem_append_right _ (List.mem_append_left _ (List.mem_of_getElem? (i := 91) rfl))) rfl, gw_in (List.mem_append_right _ (List.mem_append_left _ (List.mem_of_getElem? (i := 6) rfl))) rfl⟩
abbrev mX0_init : gw_M := (yX0_init, cX0_init, 1, none)
set_option maxRecDepth 20000 in
theorem moX0_init : gw_mo mX0_init 0 := ⟨gw_in (List.mem_append_right _ (List.mem_append_left _ (List.mem_of_getElem? (i := 94) rfl))) rfl, gw_in (List.mem_append_right _ (List.mem_append_left _ (List.mem_of_getElem? (i := 6) rfl))) rfl, by decide +kernel, by decide⟩
set_option maxRecDepth 20000 in
theorem miX0_init : Cond.instanceMethod yX0_init ∈ gw_tb := gw_in (List.mem_append_right _ (List.mem_append_left _ (List.mem_of_getElem? (i := 93) rfl))) rfl
set_option maxRecDepth 20000 in
theorem kn_X1 : Cond.instantiable RX1 3 ∈ gw_tb ∧ Cond.initialized RX1 ∈ gw_tb := ⟨gw_in (List.mem_append_right _ (List.mem_append_left _ (List.mem_of_getElem? (i := 198) rfl))) rfl, gw_in (List.mem_append_right _ (List.mem_append_left _ (List.mem_of_getElem? (i := 9) rfl))) rfl⟩
abbrev mX1_init : gw_M := (yX1_init, cX1_init, 1, none)
set_option maxRecDepth 20000 in
theorem moX1_init : gw_mo mX1_init 0 := ⟨gw_in (List.mem_append_right _ (List.mem_append_left _ (List.mem_of_getElem? (i := 201) rfl))) rfl, gw_in (List.mem_append_right _ (List.mem_append_left _ (List.mem_of_getElem? (i := 9) rfl))) rfl, by decide +kernel, by decide⟩
set_option maxRecDepth 20000 in
theorem miX1_init : Cond.instanceMethod yX1_init ∈ gw_tb := gw_in (List.mem_append_right _ (List.mem_append_left _ (List.mem_of_getElem? (i := 200) rfl))) rfl
set_option maxRecDepth 20000 in
theorem kn_X2 : Cond.instantiable RX2 6 ∈ gw_tb ∧ Cond.initialized RX2 ∈ gw_tb := ⟨gw_in (List.mem_append_right _ (List.mem_append_left _ (List.mem_of_getElem? (i := 146) rfl))) rfl, gw_in (List.mem_append_right _ (List.mem_append_left _ (List.mem_of_getElem? (i := 7) rfl))) rfl⟩
abbrev mX2_init : gw_M := (yX2_init, cX2_init, 1, none)
set_option maxRecDepth 20000 in
theorem moX2_init : gw_mo mX2_init 0 := ⟨gw_in (List.mem_append_right _ (List.mem_append_left _ (List.mem_of_getElem? (i := 149) rfl))) rfl, gw_in (List.mem_append_right _ (List.mem_append_left _ (List.mem_of_getElem? (i := 7) rfl))) rfl, by decide +kernel, by decide⟩
set_option maxRecDepth 20000 in
theorem miX2_init : Cond.instanceMethod yX2_init ∈ gw_tb := gw_in (List.mem_append_right _ (List.mem_append_left _ (List.mem_of_getElem? (i := 148) rfl))) rfl
set_option maxRecDepth 20000 in
theorem kn_X3 : Cond.instantiable RX3 13 ∈ gw_tb ∧ Cond.initialized RX3 ∈ gw_tb := ⟨gw_in (List.mem_append_right _ (List.mem_append_left _ (List.mem_of_getElem? (i := 222) rfl))) rfl, gw_in (List.mem_append_right _ (List.mem_append_left _ (List.mem_of_getElem? (i := 11) rfl))) rfl⟩
abbrev mX3_init : gw_M := (yX3_init, cX3_init, 1, none)
set_option maxRecDepth 20000 in
theorem moX3_init : gw_mo mX3_init 0 := ⟨gw_in (List.mem_append_right _ (List.mem_append_left _ (List.mem_of_getElem? (i := 225) rfl))) rfl, gw_in (List.mem_append_right _ (List.mem_append_left _ (List.mem_of_getElem? (i := 11) rfl))) rfl, by decide +kernel, by decide⟩
set_option maxRecDepth 20000 in
theorem miX3_init : Cond.instanceMethod yX3_init ∈ gw_tb := gw_in (List.mem_append_right _ (List.mem_append_left _ (List.mem_of_getElem? (i := 224) rfl))) rfl
set_option maxRecDepth 20000 in
theorem kn_X4 : Cond.instantiable RX4 5 ∈ gw_tb ∧ Cond.initialized RX4 ∈ gw_tb := ⟨gw_in (List.mem_append_right _ (List.mem_append_left _ (List.mem_of_getElem? (i := 59) rfl))) rfl, gw_in (List.mem_append_right _ (List.mem_append_left _ (List.mem_of_getElem? (i := 5) rfl))) rfl⟩
abbrev mX4_init : gw_M := (yX4_init, cX4_init, 1, none)
set_option maxRecDepth 20000 in
theorem moX4_init : gw_mo mX4_init 0 := ⟨gw_in (List.mem_append_right _ (List.mem_append_left _ (List.mem_of_getElem? (i := 62) rfl))) rfl, gw_in (List.mem_append_right _ (List.mem_append_left _ (List.mem_of_getElem? (i := 5) rfl))) rfl, by decide +kernel, by decide⟩
set_option maxRecDepth 20000 in
theorem miX4_init : Cond.instanceMethod yX4_init ∈ gw_tb := gw_in (List.mem_append_right _ (List.mem_append_left _ (List.mem_of_getElem? (i := 61) rfl))) rfl
set_option maxRecDepth 20000 in
theorem kn_X5 : Cond.instantiable RX5 3 ∈ gw_tb ∧ Cond.initialized RX5 ∈ gw_tb := ⟨gw_in (List.mem_append_right _ (List.mem_append_left _ (List.mem_of_getElem? (i := 26) rfl))) rfl, gw_in (List.mem_append_right _ (List.mem_append_left _ (List.mem_of_getElem? (i := 2) rfl))) rfl⟩
abbrev mX5_init : gw_M := (yX5_init, cX5_init, 2, none)
set_option maxRecDepth 20000 in
theorem moX5_init : gw_mo mX5_init 1 := ⟨gw_in (List.mem_append_right _ (List.mem_append_left _ (List.mem_of_getElem? (i := 29) rfl))) rfl, gw_in (List.mem_append_right _ (List.mem_append_left _ (List.mem_of_getElem? (i := 2) rfl))) rfl, by decide +kernel, by decide⟩
set_option maxRecDepth 20000 in
theorem miX5_init : Cond.instanceMethod yX5_init ∈ gw_tb := gw_in (List.mem_append_right _ (List.mem_append_left _ (List.mem_of_getElem? (i := 28) rfl))) rfl
set_option maxRecDepth 20000 in
theorem kn_X6 : Cond.instantiable RX6 5 ∈ gw_tb ∧ Cond.initialized RX6 ∈ gw_tb := ⟨gw_in (List.mem_append_right _ (List.mem_append_left _ (List.mem_of_getElem? (i := 53) rfl))) rfl, gw_in (List.mem_append_right _ (List.mem_append_left _ (List.mem_of_getElem? (i := 4) rfl))) rfl⟩
abbrev mX6_init : gw_M := (yX6_init, cX6_init, 1, none)
set_option maxRecDepth 20000 in
theorem moX6_init : gw_mo mX6_init 0 := ⟨gw_in (List.mem_append_right _ (List.mem_append_left _ (List.mem_of_getElem? (i := 56) rfl))) rfl, gw_in (List.mem_append_right _ (List.mem_append_left _ (List.mem_of_getElem? (i := 4) rfl))) rfl, by decide +kernel, by decide⟩
set_option maxRecDepth 20000 in
theorem miX6_init : Cond.instanceMethod yX6_init ∈ gw_tb := gw_in (List.mem_append_right _ (List.mem_append_left _ (List.mem_of_getElem? (i := 55) rfl))) rfl
set_option maxRecDepth 20000 in
theorem kn_X7 : Cond.instantiable RX7 4 ∈ gw_tb ∧ Cond.initialized RX7 ∈ gw_tb := ⟨gw_in (List.mem_append_right _ (List.mem_append_left _ (List.mem_of_getElem? (i := 175) rfl))) rfl, gw_in (List.mem_append_right _ (List.mem_append_left _ (List.mem_of_getElem? (i := 8) rfl))) rfl⟩
abbrev mX7_init : gw_M := (yX7_init, cX7_init, 1, none)
set_option maxRecDepth 20000 in
theorem moX7_init : gw_mo mX7_init 0 := ⟨gw_in (List.mem_append_right _ (List.mem_append_left _ (List.mem_of_getElem? (i := 178) rfl))) rfl, gw_in (List.mem_append_right _ (List.mem_append_left _ (List.mem_of_getElem? (i := 8) rfl))) rfl, by decide +kernel, by decide⟩
set_option maxRecDepth 20000 in
theorem miX7_init : Cond.instanceMethod yX7_init ∈ gw_tb := gw_in (List.mem_append_right _ (List.mem_append_left _ (List.mem_of_getElem? (i := 177) rfl))) rfl
set_option maxRecDepth 20000 in
theorem kn_X8 : Cond.instantiable RX8 14 ∈ gw_tb ∧ Cond.initialized RX8 ∈ gw_tb := ⟨gw_in (List.mem_append_right _ (List.mem_append_left _ (List.mem_of_getElem? (i := 18) rfl))) rfl, gw_in (List.mem_append_right _ (List.mem_append_left _ (List.mem_of_getElem? (i := 1) rfl))) rfl⟩
abbrev mX8_init : gw_M := (yX8_init, cX8_init, 2, none)
set_option maxRecDepth 20000 in
theorem moX8_init : gw_mo mX8_init 0 := ⟨gw_in (List.mem_append_right _ (List.mem_append_left _ (List.mem_of_getElem? (i := 21) rfl))) rfl, gw_in (List.mem_append_right _ (List.mem_append_left _ (List.mem_of_getElem? (i := 1) rfl))) rfl, by decide +kernel, by decide⟩
set_option maxRecDepth 20000 in
theorem miX8_init : Cond.instanceMethod yX8_init ∈ gw_tb := gw_in (List.mem_append_right _ (List.mem_append_left _ (List.mem_of_getElem? (i := 20) rfl))) rfl
set_option maxRecDepth 20000 in
theorem kn_X9 : Cond.instantiable RX9 47 ∈ gw_tb ∧ Cond.initialized RX9 ∈ gw_tb := ⟨gw_in (List.mem_append_right _ (List.mem_append_right _ (List.mem_append_right _ (List.mem_append_right _ (List.mem_append_left _ (List.mem_of_getElem? (i := 29) rfl)))))) rfl, gw_in (List.mem_append_right _ (List.mem_append_left _ (List.mem_of_getElem? (i := 12) rfl))) rfl⟩
abbrev mX9_init : gw_M := (yX9_init, cX9_init, 1, none)
set_option maxRecDepth 20000 in
theorem moX9_init : gw_mo mX9_init 0 := ⟨gw_in (List.mem_append_right _ (List.mem_append_right _ (List.mem_append_right _ (List.mem_append_right _ (List.mem_append_left _ (List.mem_of_getElem? (i := 32) rfl)))))) rfl, gw_in (List.mem_append_right _ (List.mem_append_left _ (List.mem_of_getElem? (i := 12) rfl))) rfl, by decide +kernel, by decide⟩
set_option maxRecDepth 20000 in
theorem miX9_init : Cond.instanceMethod yX9_init ∈ gw_tb := gw_in (List.mem_append_right _ (List.mem_append_right _ (List.mem_append_right _ (List.mem_append_right _ (List.mem_append_left _ (List.mem_of_getElem? (i := 31) rfl)))))) rfl
set_option maxRecDepth 20000 in
theorem kb_X8_1 : Cond.methodLink RX8 1 objectInit ∈ gw_tb := gw_in (List.mem_append_right _ (List.mem_append_left _ (List.mem_of_getElem? (i := 22) rfl))) rfl
set_option maxRecDepth 20000 in
theorem kb_X8_11 : Cond.methodLink RX8 11 yX5_init ∈ gw_tb := gw_in (List.mem_append_right _ (List.mem_append_left _ (List.mem_of_getElem? (i := 27) rfl))) rfl
set_option maxRecDepth 20000 in
theorem kb_X8_44 : Cond.methodLink RX8 44 yX1_init ∈ gw_tb := gw_in (List.mem_append_right _ (List.mem_append_left _ (List.mem_of_getElem? (i := 199) rfl))) rfl
set_option maxRecDepth 20000 in
theorem kb_X0_3 : Cond.methodLink RX0 3 objectInit ∈ gw_tb := gw_in (List.mem_append_right _ (List.mem_append_left _ (List.mem_of_getElem? (i := 95) rfl))) rfl
set_option maxRecDepth 20000 in
theorem kb_X1_3 : Cond.methodLink RX1 3 objectInit ∈ gw_tb := gw_in (List.mem_append_right _ (List.mem_append_left _ (List.mem_of_getElem? (i := 202) rfl))) rfl
set_option maxRecDepth 20000 in
theorem kb_X2_3 : Cond.methodLink RX2 3 objectInit ∈ gw_tb := gw_in (List.mem_append_right _ (List.mem_append_left _ (List.mem_of_getElem? (i := 150) rfl))) rfl
set_option maxRecDepth 20000 in
theorem kb_X3_3 : Cond.methodLink RX3 3 objectInit ∈ gw_tb := gw_in (List.mem_append_right _ (List.mem_append_left _ (List.mem_of_getElem? (i := 226) rfl))) rfl
set_option maxRecDepth 20000 in
theorem kb_X4_3 : Cond.methodLink RX4 3 objectInit ∈ gw_tb := gw_in (List.mem_append_right _ (List.mem_append_left _ (List.mem_of_getElem? (i := 63) rfl))) rfl
set_option maxRecDepth 20000 in
theorem kb_X5_3 : Cond.methodLink RX5 3 objectInit ∈ gw_tb := gw_in (List.mem_append_right _ (List.mem_append_left _ (List.mem_of_getElem? (i := 30) rfl))) rfl
set_option maxRecDepth 20000 in
theorem kb_X6_3 : Cond.methodLink RX6 3 objectInit ∈ gw_tb := gw_in (List.mem_append_right _ (List.mem_append_left _ (List.mem_of_getElem? (i := 57) rfl))) rfl
set_option maxRecDepth 20000 in
theorem kb_X7_3 : Cond.methodLink RX7 3 objectInit ∈ gw_tb := gw_in (List.mem_append_right _ (List.mem_append_left _ (List.mem_of_getElem? (i := 179) rfl))) rfl
set_option maxRecDepth 20000 in
theorem kb_L_9 : Cond.methodLink R_law 9 yX8_init ∈ gw_tb := gw_in (List.mem_append_right _ (List.mem_append_left _ (List.mem_of_getElem? (i := 19) rfl))) rfl
set_option maxRecDepth 20000 in
theorem kb_L_12 : Cond.methodLink R_law 12 yX9_init ∈ gw_tb := gw_in (List.mem_append_right _ (List.mem_append_right _ (List.mem_append_right _ (List.mem_append_right _ (List.mem_append_left _ (List.mem_of_getElem? (i := 30) rfl)))))) rfl
set_option maxRecDepth 20000 in
theorem kb_X9_1 : Cond.methodLink RX9 1 objectInit ∈ gw_tb := gw_in (List.mem_append_right _ (List.mem_append_right _ (List.mem_append_right _ (List.mem_append_right _ (List.mem_append_left _ (List.mem_of_getElem? (i := 33) rfl)))))) rfl
set_option maxRecDepth 20000 in
theorem kc_L_7 : Cond.classLink R_law 7 RX8 ∈ gw_tb := gw_in (List.mem_append_right _ (List.mem_append_left _ (List.mem_of_getElem? (i := 17) rfl))) rfl
set_option maxRecDepth 20000 in
theorem kc_X8_7 : Cond.classLink RX8 7 RX5 ∈ gw_tb := gw_in (List.mem_append_right _ (List.mem_append_left _ (List.mem_of_getElem? (i := 25) rfl))) rfl
set_option maxRecDepth 20000 in
theorem kc_X8_21 : Cond.classLink RX8 21 RX6 ∈ gw_tb := gw_in (List.mem_append_right _ (List.mem_append_left _ (List.mem_of_getElem? (i := 52) rfl))) rfl
set_option maxRecDepth 20000 in
theorem kc_X6_9 : Cond.classLink RX6 9 RX4 ∈ gw_tb := gw_in (List.mem_append_right _ (List.mem_append_left _ (List.mem_of_getElem? (i := 58) rfl))) rfl
set_option maxRecDepth 20000 in
theorem kc_X6_18 : Cond.classLink RX6 18 RX0 ∈ gw_tb := gw_in (List.mem_append_right _ (List.mem_append_left _ (List.mem_of_getElem? (i := 90) rfl))) rfl
set_option maxRecDepth 20000 in
theorem kc_X8_28 : Cond.classLink RX8 28 RX2 ∈ gw_tb := gw_in (List.mem_append_right _ (List.mem_append_left _ (List.mem_of_getElem? (i := 145) rfl))) rfl
set_option maxRecDepth 20000 in
theorem kc_X8_35 : Cond.classLink RX8 35 RX7 ∈ gw_tb := gw_in (List.mem_append_right _ (List.mem_append_left _ (List.mem_of_getElem? (i := 174) rfl))) rfl
set_option maxRecDepth 20000 in
theorem kc_X8_42 : Cond.classLink RX8 42 RX1 ∈ gw_tb := gw_in (List.mem_append_right _ (List.mem_append_left _ (List.mem_of_getElem? (i := 197) rfl))) rfl
set_option maxRecDepth 20000 in
theorem kc_X1_9 : Cond.classLink RX1 9 "[[I" ∈ gw_tb := gw_in (List.mem_append_right _ (List.mem_append_left _ (List.mem_of_getElem? (i := 203) rfl))) rfl
set_option maxRecDepth 20000 in
theorem kc_X8_49 : Cond.classLink RX8 49 RX3 ∈ gw_tb := gw_in (List.mem_append_right _ (List.mem_append_left _ (List.mem_of_getElem? (i := 221) rfl))) rfl
set_option maxRecDepth 20000 in
theorem kc_L_10 : Cond.classLink R_law 10 RX9 ∈ gw_tb := gw_in (List.mem_append_right _ (List.mem_append_right _ (List.mem_append_right _ (List.mem_append_right _ (List.mem_append_left _ (List.mem_of_getElem? (i := 28) rfl)))))) rfl
set_option maxRecDepth 20000 in
theorem kf_X0_9 : Cond.fieldLink RX0 9 (TX0 0).1 (TX0 0).2.1 (TX0 0).2.2.1 ∈ gw_tb := gw_in (List.mem_append_right _ (List.mem_append_left _ (List.mem_of_getElem? (i := 96) rfl))) rfl
set_option maxRecDepth 20000 in
theorem kf_X0_15 : Cond.fieldLink RX0 15 (TX0 1).1 (TX0 1).2.1 (TX0 1).2.2.1 ∈ gw_tb := gw_in (List.mem_append_right _ (List.mem_append_left _ (List.mem_of_getElem? (i := 99) rfl))) rfl
set_option maxRecDepth 20000 in
theorem kf_X0_18 : Cond.fieldLink RX0 18 (TX0 2).1 (TX0 2).2.1 (TX0 2).2.2.1 ∈ gw_tb := gw_in (List.mem_append_right _ (List.mem_append_left _ (List.mem_of_getElem? (i := 102) rfl))) rfl
set_option maxRecDepth 20000 in
theorem kf_X0_21 : Cond.fieldLink RX0 21 (TX0 3).1 (TX0 3).2.1 (TX0 3).2.2.1 ∈ gw_tb := gw_in (List.mem_append_right _ (List.mem_append_left _ (List.mem_of_getElem? (i := 105) rfl))) rfl
set_option maxRecDepth 20000 in
theorem kf_X0_24 : Cond.fieldLink RX0 24 (TX0 4).1 (TX0 4).2.1 (TX0 4).2.2.1 ∈ gw_tb := gw_in (List.mem_append_right _ (List.mem_append_left _ (List.mem_of_getElem? (i := 108) rfl))) rfl
set_option maxRecDepth 20000 in
theorem kf_X1_11 : Cond.fieldLink RX1 11 (TX1 0).1 (TX1 0).2.1 (TX1 0).2.2.1 ∈ gw_tb := gw_in (List.mem_append_right _ (List.mem_append_left _ (List.mem_of_getElem? (i := 208) rfl))) rfl
set_option maxRecDepth 20000 in
theorem kf_X1_16 : Cond.fieldLink RX1 16 (TX1 1).1 (TX1 1).2.1 (TX1 1).2.2.1 ∈ gw_tb := gw_in (List.mem_append_right _ (List.mem_append_left _ (List.mem_of_getElem? (i := 210) rfl))) rfl
set_option maxRecDepth 20000 in
theorem kf_X1_20 : Cond.fieldLink RX1 20 (TX1 2).1 (TX1 2).2.1 (TX1 2).2.2.1 ∈ gw_tb := gw_in (List.mem_append_right _ (List.mem_append_left _ (List.mem_of_getElem? (i := 212) rfl))) rfl
set_option maxRecDepth 20000 in
theorem kf_X2_9 : Cond.fieldLink RX2 9 (TX2 0).1 (TX2 0).2.1 (TX2 0).2.2.1 ∈ gw_tb := gw_in (List.mem_append_right _ (List.mem_append_left _ (List.mem_of_getElem? (i := 151) rfl))) rfl
set_option maxRecDepth 20000 in
theorem kf_X2_15 : Cond.fieldLink RX2 15 (TX2 1).1 (TX2 1).2.1 (TX2 1).2.2.1 ∈ gw_tb := gw_in (List.mem_append_right _ (List.mem_append_left _ (List.mem_of_getElem? (i := 153) rfl))) rfl
set_option maxRecDepth 20000 in
theorem kf_X2_18 : Cond.fieldLink RX2 18 (TX2 2).1 (TX2 2).2.1 (TX2 2).2.2.1 ∈ gw_tb := gw_in (List.mem_append_right _ (List.mem_append_left _ (List.mem_of_getElem? (i := 155) rfl))) rfl
set_option maxRecDepth 20000 in
theorem kf_X2_21 : Cond.fieldLink RX2 21 (TX2 3).1 (TX2 3).2.1 (TX2 3).2.2.1 ∈ gw_tb := gw_in (List.mem_append_right _ (List.mem_append_left _ (List.mem_of_getElem? (i := 156) rfl))) rfl
set_option maxRecDepth 20000 in
theorem kf_X2_24 : Cond.fieldLink RX2 24 (TX2 4).1 (TX2 4).2.1 (TX2 4).2.2.1 ∈ gw_tb := gw_in (List.mem_append_right _ (List.mem_append_left _ (List.mem_of_getElem? (i := 157) rfl))) rfl
set_option maxRecDepth 20000 in
theorem kf_X2_28 : Cond.fieldLink RX2 28 (TX2 5).1 (TX2 5).2.1 (TX2 5).2.2.1 ∈ gw_tb := gw_in (List.mem_append_right _ (List.mem_append_left _ (List.mem_of_getElem? (i := 159) rfl))) rfl
set_option maxRecDepth 20000 in
theorem kf_X3_9 : Cond.fieldLink RX3 9 (TX3 0).1 (TX3 0).2.1 (TX3 0).2.2.1 ∈ gw_tb := gw_in (List.mem_append_right _ (List.mem_append_left _ (List.mem_of_getElem? (i := 227) rfl))) rfl
set_option maxRecDepth 20000 in
theorem kf_X3_15 : Cond.fieldLink RX3 15 (TX3 1).1 (TX3 1).2.1 (TX3 1).2.2.1 ∈ gw_tb := gw_in (List.mem_append_right _ (List.mem_append_left _ (List.mem_of_getElem? (i := 228) rfl))) rfl
set_option maxRecDepth 20000 in
theorem kf_X3_18 : Cond.fieldLink RX3 18 (TX3 2).1 (TX3 2).2.1 (TX3 2).2.2.1 ∈ gw_tb := gw_in (List.mem_append_right _ (List.mem_append_left _ (List.mem_of_getElem? (i := 229) rfl))) rfl
set_option maxRecDepth 20000 in
theorem kf_X3_21 : Cond.fieldLink RX3 21 (TX3 3).1 (TX3 3).2.1 (TX3 3).2.2.1 ∈ gw_tb := gw_in (List.mem_append_right _ (List.mem_append_left _ (List.mem_of_getElem? (i := 230) rfl))) rfl
set_option maxRecDepth 20000 in
theorem kf_X3_24 : Cond.fieldLink RX3 24 (TX3 4).1 (TX3 4).2.1 (TX3 4).2.2.1 ∈ gw_tb := gw_in (List.mem_append_right _ (List.mem_append_left _ (List.mem_of_getElem? (i := 232) rfl))) rfl
set_option maxRecDepth 20000 in
theorem kf_X3_27 : Cond.fieldLink RX3 27 (TX3 5).1 (TX3 5).2.1 (TX3 5).2.2.1 ∈ gw_tb := gw_in (List.mem_append_right _ (List.mem_append_left _ (List.mem_of_getElem? (i := 234) rfl))) rfl
set_option maxRecDepth 20000 in
theorem kf_X3_30 : Cond.fieldLink RX3 30 (TX3 6).1 (TX3 6).2.1 (TX3 6).2.2.1 ∈ gw_tb := gw_in (List.mem_append_right _ (List.mem_append_left _ (List.mem_of_getElem? (i := 236) rfl))) rfl
set_option maxRecDepth 20000 in
theorem kf_X3_33 : Cond.fieldLink RX3 33 (TX3 7).1 (TX3 7).2.1 (TX3 7).2.2.1 ∈ gw_tb := gw_in (List.mem_append_right _ (List.mem_append_left _ (List.mem_of_getElem? (i := 238) rfl))) rfl
set_option maxRecDepth 20000 in
theorem kf_X3_37 : Cond.fieldLink RX3 37 (TX3 8).1 (TX3 8).2.1 (TX3 8).2.2.1 ∈ gw_tb := gw_in (List.mem_append_right _ (List.mem_append_right _ (List.mem_append_left _ (List.mem_of_getElem? (i := 1) rfl)))) rfl
set_option maxRecDepth 20000 in
theorem kf_X3_40 : Cond.fieldLink RX3 40 (TX3 9).1 (TX3 9).2.1 (TX3 9).2.2.1 ∈ gw_tb := gw_in (List.mem_append_right _ (List.mem_append_right _ (List.mem_append_left _ (List.mem_of_getElem? (i := 2) rfl)))) rfl
set_option maxRecDepth 20000 in
theorem kf_X3_43 : Cond.fieldLink RX3 43 (TX3 10).1 (TX3 10).2.1 (TX3 10).2.2.1 ∈ gw_tb := gw_in (List.mem_append_right _ (List.mem_append_right _ (List.mem_append_left _ (List.mem_of_getElem? (i := 3) rfl)))) rfl
set_option maxRecDepth 20000 in
theorem kf_X3_46 : Cond.fieldLink RX3 46 (TX3 11).1 (TX3 11).2.1 (TX3 11).2.2.1 ∈ gw_tb := gw_in (List.mem_append_right _ (List.mem_append_right _ (List.mem_append_left _ (List.mem_of_getElem? (i := 5) rfl)))) rfl
set_option maxRecDepth 20000 in
theorem kf_X3_49 : Cond.fieldLink RX3 49 (TX3 12).1 (TX3 12).2.1 (TX3 12).2.2.1 ∈ gw_tb := gw_in (List.mem_append_right _ (List.mem_append_right _ (List.mem_append_left _ (List.mem_of_getElem? (i := 7) rfl)))) rfl
set_option maxRecDepth 20000 in
theorem kf_X4_9 : Cond.fieldLink RX4 9 (TX4 0).1 (TX4 0).2.1 (TX4 0).2.2.1 ∈ gw_tb := gw_in (List.mem_append_right _ (List.mem_append_left _ (List.mem_of_getElem? (i := 64) rfl))) rfl
set_option maxRecDepth 20000 in
theorem kf_X4_15 : Cond.fieldLink RX4 15 (TX4 1).1 (TX4 1).2.1 (TX4 1).2.2.1 ∈ gw_tb := gw_in (List.mem_append_right _ (List.mem_append_left _ (List.mem_of_getElem? (i := 67) rfl))) rfl
set_option maxRecDepth 20000 in
theorem kf_X4_18 : Cond.fieldLink RX4 18 (TX4 2).1 (TX4 2).2.1 (TX4 2).2.2.1 ∈ gw_tb := gw_in (List.mem_append_right _ (List.mem_append_left _ (List.mem_of_getElem? (i := 70) rfl))) rfl
set_option maxRecDepth 20000 in
theorem kf_X4_21 : Cond.fieldLink RX4 21 (TX4 3).1 (TX4 3).2.1 (TX4 3).2.2.1 ∈ gw_tb := gw_in (List.mem_append_right _ (List.mem_append_left _ (List.mem_of_getElem? (i := 73) rfl))) rfl
set_option maxRecDepth 20000 in
theorem kf_X4_25 : Cond.fieldLink RX4 25 (TX4 4).1 (TX4 4).2.1 (TX4 4).2.2.1 ∈ gw_tb := gw_in (List.mem_append_right _ (List.mem_append_left _ (List.mem_of_getElem? (i := 76) rfl))) rfl
set_option maxRecDepth 20000 in
theorem kf_X5_9 : Cond.fieldLink RX5 9 (TX5 0).1 (TX5 0).2.1 (TX5 0).2.2.1 ∈ gw_tb := gw_in (List.mem_append_right _ (List.mem_append_left _ (List.mem_of_getElem? (i := 34) rfl))) rfl
set_option maxRecDepth 20000 in
theorem kf_X5_15 : Cond.fieldLink RX5 15 (TX5 2).1 (TX5 2).2.1 (TX5 2).2.2.1 ∈ gw_tb := gw_in (List.mem_append_right _ (List.mem_append_left _ (List.mem_of_getElem? (i := 40) rfl))) rfl
set_option maxRecDepth 20000 in
theorem kf_X5_25 : Cond.fieldLink RX5 25 (TX5 1).1 (TX5 1).2.1 (TX5 1).2.2.1 ∈ gw_tb := gw_in (List.mem_append_right _ (List.mem_append_left _ (List.mem_of_getElem? (i := 38) rfl))) rfl
set_option maxRecDepth 20000 in
theorem kf_X6_12 : Cond.fieldLink RX6 12 (TX6 0).1 (TX6 0).2.1 (TX6 0).2.2.1 ∈ gw_tb := gw_in (List.mem_append_right _ (List.mem_append_left _ (List.mem_of_getElem? (i := 122) rfl))) rfl
set_option maxRecDepth 20000 in
theorem kf_X6_21 : Cond.fieldLink RX6 21 (TX6 1).1 (TX6 1).2.1 (TX6 1).2.2.1 ∈ gw_tb := gw_in (List.mem_append_right _ (List.mem_append_left _ (List.mem_of_getElem? (i := 124) rfl))) rfl
set_option maxRecDepth 20000 in
theorem kf_X6_25 : Cond.fieldLink RX6 25 (TX6 2).1 (TX6 2).2.1 (TX6 2).2.2.1 ∈ gw_tb := gw_in (List.mem_append_right _ (List.mem_append_left _ (List.mem_of_getElem? (i := 127) rfl))) rfl
set_option maxRecDepth 20000 in
theorem kf_X6_29 : Cond.fieldLink RX6 29 (TX6 3).1 (TX6 3).2.1 (TX6 3).2.2.1 ∈ gw_tb := gw_in (List.mem_append_right _ (List.mem_append_left _ (List.mem_of_getElem? (i := 129) rfl))) rfl
set_option maxRecDepth 20000 in
theorem kf_X6_33 : Cond.fieldLink RX6 33 (TX6 4).1 (TX6 4).2.1 (TX6 4).2.2.1 ∈ gw_tb := gw_in (List.mem_append_right _ (List.mem_append_left _ (List.mem_of_getElem? (i := 131) rfl))) rfl
set_option maxRecDepth 20000 in
theorem kf_X7_9 : Cond.fieldLink RX7 9 (TX7 0).1 (TX7 0).2.1 (TX7 0).2.2.1 ∈ gw_tb := gw_in (List.mem_append_right _ (List.mem_append_left _ (List.mem_of_getElem? (i := 180) rfl))) rfl
set_option maxRecDepth 20000 in
theorem kf_X7_15 : Cond.fieldLink RX7 15 (TX7 1).1 (TX7 1).2.1 (TX7 1).2.2.1 ∈ gw_tb := gw_in (List.mem_append_right _ (List.mem_append_left _ (List.mem_of_getElem? (i := 182) rfl))) rfl
set_option maxRecDepth 20000 in
theorem kf_X7_18 : Cond.fieldLink RX7 18 (TX7 2).1 (TX7 2).2.1 (TX7 2).2.2.1 ∈ gw_tb := gw_in (List.mem_append_right _ (List.mem_append_left _ (List.mem_of_getElem? (i := 184) rfl))) rfl
set_option maxRecDepth 20000 in
theorem kf_X7_21 : Cond.fieldLink RX7 21 (TX7 3).1 (TX7 3).2.1 (TX7 3).2.2.1 ∈ gw_tb := gw_in (List.mem_append_right _ (List.mem_append_left _ (List.mem_of_getElem? (i := 186) rfl))) rfl
set_option maxRecDepth 20000 in
theorem kf_X8_14 : Cond.fieldLink RX8 14 (TX8 0).1 (TX8 0).2.1 (TX8 0).2.2.1 ∈ gw_tb := gw_in (List.mem_append_right _ (List.mem_append_right _ (List.mem_append_left _ (List.mem_of_getElem? (i := 38) rfl)))) rfl
set_option maxRecDepth 20000 in
theorem kf_X8_18 : Cond.fieldLink RX8 18 (TX8 1).1 (TX8 1).2.1 (TX8 1).2.2.1 ∈ gw_tb := gw_in (List.mem_append_right _ (List.mem_append_right _ (List.mem_append_left _ (List.mem_of_getElem? (i := 39) rfl)))) rfl
set_option maxRecDepth 20000 in
theorem kf_X8_24 : Cond.fieldLink RX8 24 (TX8 2).1 (TX8 2).2.1 (TX8 2).2.2.1 ∈ gw_tb := gw_in (List.mem_append_right _ (List.mem_append_right _ (List.mem_append_left _ (List.mem_of_getElem? (i := 40) rfl)))) rfl
set_option maxRecDepth 20000 in
theorem kf_X8_31 : Cond.fieldLink RX8 31 (TX8 3).1 (TX8 3).2.1 (TX8 3).2.2.1 ∈ gw_tb := gw_in (List.mem_append_right _ (List.mem_append_right _ (List.mem_append_left _ (List.mem_of_getElem? (i := 41) rfl)))) rfl
set_option maxRecDepth 20000 in
theorem kf_X8_38 : Cond.fieldLink RX8 38 (TX8 4).1 (TX8 4).2.1 (TX8 4).2.2.1 ∈ gw_tb := gw_in (List.mem_append_right _ (List.mem_append_right _ (List.mem_append_left _ (List.mem_of_getElem? (i := 42) rfl)))) rfl
set_option maxRecDepth 20000 in
theorem kf_X8_45 : Cond.fieldLink RX8 45 (TX8 5).1 (TX8 5).2.1 (TX8 5).2.2.1 ∈ gw_tb := gw_in (List.mem_append_right _ (List.mem_append_right _ (List.mem_append_left _ (List.mem_of_getElem? (i := 43) rfl)))) rfl
set_option maxRecDepth 20000 in
theorem kf_X8_52 : Cond.fieldLink RX8 52 (TX8 6).1 (TX8 6).2.1 (TX8 6).2.2.1 ∈ gw_tb := gw_in (List.mem_append_right _ (List.mem_append_right _ (List.mem_append_left _ (List.mem_of_getElem? (i := 44) rfl)))) rfl
set_option maxRecDepth 20000 in
theorem kf_X8_56 : Cond.fieldLink RX8 56 (TX8 7).1 (TX8 7).2.1 (TX8 7).2.2.1 ∈ gw_tb := gw_in (List.mem_append_right _ (List.mem_append_right _ (List.mem_append_left _ (List.mem_of_getElem? (i := 45) rfl)))) rfl
set_option maxRecDepth 20000 in
theorem kf_X8_59 : Cond.fieldLink RX8 59 (TX8 8).1 (TX8 8).2.1 (TX8 8).2.2.1 ∈ gw_tb := gw_in (List.mem_append_right _ (List.mem_append_right _ (List.mem_append_left _ (List.mem_of_getElem? (i := 46) rfl)))) rfl
set_option maxRecDepth 20000 in
theorem kf_X8_63 : Cond.fieldLink RX8 63 (TX8 9).1 (TX8 9).2.1 (TX8 9).2.2.1 ∈ gw_tb := gw_in (List.mem_append_right _ (List.mem_append_right _ (List.mem_append_left _ (List.mem_of_getElem? (i := 47) rfl)))) rfl
set_option maxRecDepth 20000 in
theorem kf_X8_67 : Cond.fieldLink RX8 67 (TX8 10).1 (TX8 10).2.1 (TX8 10).2.2.1 ∈ gw_tb := gw_in (List.mem_append_right _ (List.mem_append_right _ (List.mem_append_left _ (List.mem_of_getElem? (i := 48) rfl)))) rfl
set_option maxRecDepth 20000 in
theorem kf_X8_71 : Cond.fieldLink RX8 71 (TX8 11).1 (TX8 11).2.1 (TX8 11).2.2.1 ∈ gw_tb := gw_in (List.mem_append_right _ (List.mem_append_right _ (List.mem_append_left _ (List.mem_of_getElem? (i := 49) rfl)))) rfl
set_option maxRecDepth 20000 in
theorem kf_X8_75 : Cond.fieldLink RX8 75 (TX8 12).1 (TX8 12).2.1 (TX8 12).2.2.1 ∈ gw_tb := gw_in (List.mem_append_right _ (List.mem_append_right _ (List.mem_append_left _ (List.mem_of_getElem? (i := 50) rfl)))) rfl
set_option maxRecDepth 20000 in
theorem kf_X8_78 : Cond.fieldLink RX8 78 (TX8 13).1 (TX8 13).2.1 (TX8 13).2.2.1 ∈ gw_tb := gw_in (List.mem_append_right _ (List.mem_append_right _ (List.mem_append_left _ (List.mem_of_getElem? (i := 51) rfl)))) rfl
set_option maxRecDepth 20000 in
theorem kf_X9_7 : Cond.fieldLink RX9 7 (TX9 0).1 (TX9 0).2.1 (TX9 0).2.2.1 ∈ gw_tb := gw_in (List.mem_append_right _ (List.mem_append_right _ (List.mem_append_right _ (List.mem_append_right _ (List.mem_append_left _ (List.mem_of_getElem? (i := 34) rfl)))))) rfl
set_option maxRecDepth 20000 in
theorem kf_X9_13 : Cond.fieldLink RX9 13 (TX9 1).1 (TX9 1).2.1 (TX9 1).2.2.1 ∈ gw_tb := gw_in (List.mem_append_right _ (List.mem_append_right _ (List.mem_append_right _ (List.mem_append_right _ (List.mem_append_left _ (List.mem_of_getElem? (i := 35) rfl)))))) rfl
set_option maxRecDepth 20000 in
theorem kf_X9_16 : Cond.fieldLink RX9 16 (TX9 3).1 (TX9 3).2.1 (TX9 3).2.2.1 ∈ gw_tb := gw_in (List.mem_append_right _ (List.mem_append_right _ (List.mem_append_right _ (List.mem_append_right _ (List.mem_append_left _ (List.mem_of_getElem? (i := 37) rfl)))))) rfl
set_option maxRecDepth 20000 in
theorem kf_X9_19 : Cond.fieldLink RX9 19 (TX9 4).1 (TX9 4).2.1 (TX9 4).2.2.1 ∈ gw_tb := gw_in (List.mem_append_right _ (List.mem_append_right _ (List.mem_append_right _ (List.mem_append_right _ (List.mem_append_left _ (List.mem_of_getElem? (i := 38) rfl)))))) rfl
set_option maxRecDepth 20000 in
theorem kf_X9_22 : Cond.fieldLink RX9 22 (TX9 5).1 (TX9 5).2.1 (TX9 5).2.2.1 ∈ gw_tb := gw_in (List.mem_append_right _ (List.mem_append_right _ (List.mem_append_right _ (List.mem_append_right _ (List.mem_append_left _ (List.mem_of_getElem? (i := 39) rfl)))))) rfl
set_option maxRecDepth 20000 in
theorem kf_X9_25 : Cond.fieldLink RX9 25 (TX9 6).1 (TX9 6).2.1 (TX9 6).2.2.1 ∈ gw_tb := gw_in (List.mem_append_right _ (List.mem_append_right _ (List.mem_append_right _ (List.mem_append_right _ (List.mem_append_left _ (List.mem_of_getElem? (i := 40) rfl)))))) rfl
set_option maxRecDepth 20000 in
theorem kf_X9_28 : Cond.fieldLink RX9 28 (TX9 8).1 (TX9 8).2.1 (TX9 8).2.2.1 ∈ gw_tb := gw_in (List.mem_append_right _ (List.mem_append_right _ (List.mem_append_right _ (List.mem_append_right _ (List.mem_append_left _ (List.mem_of_getElem? (i := 42) rfl)))))) rfl
set_option maxRecDepth 20000 in
theorem kf_X9_31 : Cond.fieldLink RX9 31 (TX9 11).1 (TX9 11).2.1 (TX9 11).2.2.1 ∈ gw_tb := gw_in (List.mem_append_right _ (List.mem_append_right _ (List.mem_append_right _ (List.mem_append_right _ (List.mem_append_left _ (List.mem_of_getElem? (i := 45) rfl)))))) rfl
set_option maxRecDepth 20000 in
theorem kf_X9_34 : Cond.fieldLink RX9 34 (TX9 13).1 (TX9 13).2.1 (TX9 13).2.2.1 ∈ gw_tb := gw_in (List.mem_append_right _ (List.mem_append_right _ (List.mem_append_right _ (List.mem_append_right _ (List.mem_append_left _ (List.mem_of_getElem? (i := 47) rfl)))))) rfl
set_option maxRecDepth 20000 in
theorem kf_X9_37 : Cond.fieldLink RX9 37 (TX9 14).1 (TX9 14).2.1 (TX9 14).2.2.1 ∈ gw_tb := gw_in (List.mem_append_right _ (List.mem_append_right _ (List.mem_append_right _ (List.mem_append_right _ (List.mem_append_left _ (List.mem_of_getElem? (i := 48) rfl)))))) rfl
set_option maxRecDepth 20000 in
theorem kf_X9_40 : Cond.fieldLink RX9 40 (TX9 15).1 (TX9 15).2.1 (TX9 15).2.2.1 ∈ gw_tb := gw_in (List.mem_append_right _ (List.mem_append_right _ (List.mem_append_right _ (List.mem_append_right _ (List.mem_append_left _ (List.mem_of_getElem? (i := 49) rfl)))))) rfl
set_option maxRecDepth 20000 in
theorem kf_X9_43 : Cond.fieldLink RX9 43 (TX9 16).1 (TX9 16).2.1 (TX9 16).2.2.1 ∈ gw_tb := gw_in (List.mem_append_right _ (List.mem_append_right _ (List.mem_append_right _ (List.mem_append_right _ (List.mem_append_left _ (List.mem_of_getElem? (i := 50) rfl)))))) rfl
set_option maxRecDepth 20000 in
theorem kf_X9_46 : Cond.fieldLink RX9 46 (TX9 18).1 (TX9 18).2.1 (TX9 18).2.2.1 ∈ gw_tb := gw_in (List.mem_append_right _ (List.mem_append_right _ (List.mem_append_right _ (List.mem_append_right _ (List.mem_append_left _ (List.mem_of_getElem? (i := 52) rfl)))))) rfl
set_option maxRecDepth 20000 in
theorem kf_X9_49 : Cond.fieldLink RX9 49 (TX9 20).1 (TX9 20).2.1 (TX9 20).2.2.1 ∈ gw_tb := gw_in (List.mem_append_right _ (List.mem_append_right _ (List.mem_append_right _ (List.mem_append_right _ (List.mem_append_left _ (List.mem_of_getElem? (i := 54) rfl)))))) rfl
set_option maxRecDepth 20000 in
theorem kf_X9_52 : Cond.fieldLink RX9 52 (TX9 21).1 (TX9 21).2.1 (TX9 21).2.2.1 ∈ gw_tb := gw_in (List.mem_append_right _ (List.mem_append_right _ (List.mem_append_right _ (List.mem_append_right _ (List.mem_append_left _ (List.mem_of_getElem? (i := 55) rfl)))))) rfl
set_option maxRecDepth 20000 in
theorem kf_X9_55 : Cond.fieldLink RX9 55 (TX9 22).1 (TX9 22).2.1 (TX9 22).2.2.1 ∈ gw_tb := gw_in (List.mem_append_right _ (List.mem_append_right _ (List.mem_append_right _ (List.mem_append_right _ (List.mem_append_left _ (List.mem_of_getElem? (i := 56) rfl)))))) rfl
set_option maxRecDepth 20000 in
theorem kf_X9_58 : Cond.fieldLink RX9 58 (TX9 23).1 (TX9 23).2.1 (TX9 23).2.2.1 ∈ gw_tb := gw_in (List.mem_append_right _ (List.mem_append_right _ (List.mem_append_right _ (List.mem_append_right _ (List.mem_append_left _ (List.mem_of_getElem? (i := 57) rfl)))))) rfl
set_option maxRecDepth 20000 in
theorem kf_X9_61 : Cond.fieldLink RX9 61 (TX9 24).1 (TX9 24).2.1 (TX9 24).2.2.1 ∈ gw_tb := gw_in (List.mem_append_right _ (List.mem_append_right _ (List.mem_append_right _ (List.mem_append_right _ (List.mem_append_left _ (List.mem_of_getElem? (i := 58) rfl)))))) rfl
set_option maxRecDepth 20000 in
theorem kf_X9_64 : Cond.fieldLink RX9 64 (TX9 25).1 (TX9 25).2.1 (TX9 25).2.2.1 ∈ gw_tb := gw_in (List.mem_append_right _ (List.mem_append_right _ (List.mem_append_right _ (List.mem_append_right _ (List.mem_append_left _ (List.mem_of_getElem? (i := 59) rfl)))))) rfl
set_option maxRecDepth 20000 in
theorem kf_X9_68 : Cond.fieldLink RX9 68 (TX9 26).1 (TX9 26).2.1 (TX9 26).2.2.1 ∈ gw_tb := gw_in (List.mem_append_right _ (List.mem_append_right _ (List.mem_append_right _ (List.mem_append_right _ (List.mem_append_left _ (List.mem_of_getElem? (i := 60) rfl)))))) rfl
set_option maxRecDepth 20000 in
theorem kf_X9_71 : Cond.fieldLink RX9 71 (TX9 27).1 (TX9 27).2.1 (TX9 27).2.2.1 ∈ gw_tb := gw_in (List.mem_append_right _ (List.mem_append_right _ (List.mem_append_right _ (List.mem_append_right _ (List.mem_append_left _ (List.mem_of_getElem? (i := 61) rfl)))))) rfl
set_option maxRecDepth 20000 in
theorem kf_X9_74 : Cond.fieldLink RX9 74 (TX9 28).1 (TX9 28).2.1 (TX9 28).2.2.1 ∈ gw_tb := gw_in (List.mem_append_right _ (List.mem_append_right _ (List.mem_append_right _ (List.mem_append_right _ (List.mem_append_left _ (List.mem_of_getElem? (i := 62) rfl)))))) rfl
set_option maxRecDepth 20000 in
theorem kf_X9_77 : Cond.fieldLink RX9 77 (TX9 29).1 (TX9 29).2.1 (TX9 29).2.2.1 ∈ gw_tb := gw_in (List.mem_append_right _ (List.mem_append_right _ (List.mem_append_right _ (List.mem_append_right _ (List.mem_append_left _ (List.mem_of_getElem? (i := 63) rfl)))))) rfl
set_option maxRecDepth 20000 in
theorem kf_X9_80 : Cond.fieldLink RX9 80 (TX9 35).1 (TX9 35).2.1 (TX9 35).2.2.1 ∈ gw_tb := gw_in (List.mem_append_right _ (List.mem_append_right _ (List.mem_append_right _ (List.mem_append_right _ (List.mem_append_left _ (List.mem_of_getElem? (i := 69) rfl)))))) rfl
set_option maxRecDepth 20000 in
theorem kf_X9_83 : Cond.fieldLink RX9 83 (TX9 37).1 (TX9 37).2.1 (TX9 37).2.2.1 ∈ gw_tb := gw_in (List.mem_append_right _ (List.mem_append_right _ (List.mem_append_right _ (List.mem_append_right _ (List.mem_append_left _ (List.mem_of_getElem? (i := 71) rfl)))))) rfl
set_option maxRecDepth 20000 in
theorem kf_X9_86 : Cond.fieldLink RX9 86 (TX9 38).1 (TX9 38).2.1 (TX9 38).2.2.1 ∈ gw_tb := gw_in (List.mem_append_right _ (List.mem_append_right _ (List.mem_append_right _ (List.mem_append_right _ (List.mem_append_left _ (List.mem_of_getElem? (i := 72) rfl)))))) rfl
set_option maxRecDepth 20000 in
theorem kf_X9_89 : Cond.fieldLink RX9 89 (TX9 39).1 (TX9 39).2.1 (TX9 39).2.2.1 ∈ gw_tb := gw_in (List.mem_append_right _ (List.mem_append_right _ (List.mem_append_right _ (List.mem_append_right _ (List.mem_append_left _ (List.mem_of_getElem? (i := 73) rfl)))))) rfl
set_option maxRecDepth 20000 in
theorem kf_X9_92 : Cond.fieldLink RX9 92 (TX9 40).1 (TX9 40).2.1 (TX9 40).2.2.1 ∈ gw_tb := gw_in (List.mem_append_right _ (List.mem_append_right _ (List.mem_append_right _ (List.mem_append_right _ (List.mem_append_left _ (List.mem_of_getElem? (i := 74) rfl)))))) rfl
set_option maxRecDepth 20000 in
theorem kf_X9_95 : Cond.fieldLink RX9 95 (TX9 41).1 (TX9 41).2.1 (TX9 41).2.2.1 ∈ gw_tb := gw_in (List.mem_append_right _ (List.mem_append_right _ (List.mem_append_right _ (List.mem_append_right _ (List.mem_append_left _ (List.mem_of_getElem? (i := 75) rfl)))))) rfl
set_option maxRecDepth 20000 in
theorem kf_X9_98 : Cond.fieldLink RX9 98 (TX9 42).1 (TX9 42).2.1 (TX9 42).2.2.1 ∈ gw_tb := gw_in (List.mem_append_right _ (List.mem_append_right _ (List.mem_append_right _ (List.mem_append_right _ (List.mem_append_left _ (List.mem_of_getElem? (i := 76) rfl)))))) rfl
set_option maxRecDepth 20000 in
theorem kf_X9_101 : Cond.fieldLink RX9 101 (TX9 43).1 (TX9 43).2.1 (TX9 43).2.2.1 ∈ gw_tb := gw_in (List.mem_append_right _ (List.mem_append_right _ (List.mem_append_right _ (List.mem_append_right _ (List.mem_append_left _ (List.mem_of_getElem? (i := 77) rfl)))))) rfl
set_option maxRecDepth 20000 in
theorem kf_X9_104 : Cond.fieldLink RX9 104 (TX9 44).1 (TX9 44).2.1 (TX9 44).2.2.1 ∈ gw_tb := gw_in (List.mem_append_right _ (List.mem_append_right _ (List.mem_append_right _ (List.mem_append_right _ (List.mem_append_left _ (List.mem_of_getElem? (i := 78) rfl)))))) rfl
set_option maxRecDepth 20000 in
theorem kf_X9_107 : Cond.fieldLink RX9 107 (TX9 45).1 (TX9 45).2.1 (TX9 45).2.2.1 ∈ gw_tb := gw_in (List.mem_append_right _ (List.mem_append_right _ (List.mem_append_right _ (List.mem_append_right _ (List.mem_append_left _ (List.mem_of_getElem? (i := 79) rfl)))))) rfl
set_option maxRecDepth 20000 in
theorem kf_X9_110 : Cond.fieldLink RX9 110 (TX9 9).1 (TX9 9).2.1 (TX9 9).2.2.1 ∈ gw_tb := gw_in (List.mem_append_right _ (List.mem_append_right _ (List.mem_append_right _ (List.mem_append_right _ (List.mem_append_left _ (List.mem_of_getElem? (i := 43) rfl)))))) rfl
set_option maxRecDepth 20000 in
theorem kb_min : Cond.methodLink RX5 19 Lib.Math.min.name ∈ gw_tb ∧ Cond.static Lib.Math.min.name ∈ gw_tb ∧ Cond.initialized "java/lang/Math" ∈ gw_tb ∧ Cond.code Lib.Math.min.name Lib.Math.min.code 2 (some .int) ∈ gw_tb := ⟨gw_in (List.mem_append_right _ (List.mem_append_left _ (List.mem_of_getElem? (i := 31) rfl))) rfl, gw_in (List.mem_append_right _ (List.mem_append_left _ (List.mem_of_getElem? (i := 32) rfl))) rfl, gw_in (List.mem_append_right _ (List.mem_append_left _ (List.mem_of_getElem? (i := 3) rfl))) rfl, gw_in (List.mem_append_right _ (List.mem_append_left _ (List.mem_of_getElem? (i := 33) rfl))) rfl⟩
