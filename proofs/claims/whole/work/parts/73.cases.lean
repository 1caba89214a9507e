/-! the cases of the law -/
set_option maxRecDepth 20000 in
theorem kl_13 : Cond.methodLink R_law 13 yX8_type ∈ gw_tb := gw_in (List.mem_append_right _ (List.mem_append_right _ (List.mem_append_left _ (List.mem_of_getElem? (i := 81) rfl)))) rfl
set_option maxRecDepth 20000 in
theorem kl_17 : Cond.methodLink R_law 17 yX9_type ∈ gw_tb := gw_in (List.mem_append_right _ (List.mem_append_right _ (List.mem_append_right _ (List.mem_append_right _ (List.mem_append_left _ (List.mem_of_getElem? (i := 177) rfl)))))) rfl
set_option maxRecDepth 20000 in
theorem kl_18 : Cond.methodLink R_law 18 yX8_wipe ∈ gw_tb := gw_in (List.mem_append_right _ (List.mem_append_right _ (List.mem_append_left _ (List.mem_of_getElem? (i := 128) rfl)))) rfl
set_option maxRecDepth 20000 in
theorem kl_22 : Cond.methodLink R_law 22 yX9_wipe ∈ gw_tb := gw_in (List.mem_append_right _ (List.mem_append_right _ (List.mem_append_right _ (List.mem_append_right _ (List.mem_append_left _ (List.mem_of_getElem? (i := 187) rfl)))))) rfl
set_option maxRecDepth 20000 in
theorem kl_23 : Cond.methodLink R_law 23 yX8_undo ∈ gw_tb := gw_in (List.mem_append_right _ (List.mem_append_right _ (List.mem_append_left _ (List.mem_of_getElem? (i := 132) rfl)))) rfl
set_option maxRecDepth 20000 in
theorem kl_26 : Cond.methodLink R_law 26 yX9_undo ∈ gw_tb := gw_in (List.mem_append_right _ (List.mem_append_right _ (List.mem_append_right _ (List.mem_append_right _ (List.mem_append_left _ (List.mem_of_getElem? (i := 191) rfl)))))) rfl
set_option maxRecDepth 20000 in
theorem kl_27 : Cond.methodLink R_law 27 yX8_fault ∈ gw_tb := gw_in (List.mem_append_right _ (List.mem_append_right _ (List.mem_append_left _ (List.mem_of_getElem? (i := 136) rfl)))) rfl
set_option maxRecDepth 20000 in
theorem kl_30 : Cond.methodLink R_law 30 yX9_fault ∈ gw_tb := gw_in (List.mem_append_right _ (List.mem_append_right _ (List.mem_append_right _ (List.mem_append_right _ (List.mem_append_left _ (List.mem_of_getElem? (i := 195) rfl)))))) rfl
set_option maxRecDepth 20000 in
theorem kl_31 : Cond.methodLink R_law 31 yX8_bottle ∈ gw_tb := gw_in (List.mem_append_right _ (List.mem_append_right _ (List.mem_append_left _ (List.mem_of_getElem? (i := 142) rfl)))) rfl
set_option maxRecDepth 20000 in
theorem kl_34 : Cond.methodLink R_law 34 yX9_bottle ∈ gw_tb := gw_in (List.mem_append_right _ (List.mem_append_right _ (List.mem_append_right _ (List.mem_append_right _ (List.mem_append_left _ (List.mem_of_getElem? (i := 219) rfl)))))) rfl
set_option maxRecDepth 20000 in
theorem kl_35 : Cond.methodLink R_law 35 yX8_note ∈ gw_tb := gw_in (List.mem_append_right _ (List.mem_append_right _ (List.mem_append_left _ (List.mem_of_getElem? (i := 150) rfl)))) rfl
set_option maxRecDepth 20000 in
theorem kl_38 : Cond.methodLink R_law 38 yX9_note ∈ gw_tb := gw_in (List.mem_append_right _ (List.mem_append_right _ (List.mem_append_right _ (List.mem_append_right _ (List.mem_append_left _ (List.mem_of_getElem? (i := 235) rfl)))))) rfl
set_option maxRecDepth 20000 in
theorem kl_39 : Cond.methodLink R_law 39 yX8_burst ∈ gw_tb := gw_in (List.mem_append_right _ (List.mem_append_right _ (List.mem_append_left _ (List.mem_of_getElem? (i := 154) rfl)))) rfl
set_option maxRecDepth 20000 in
theorem kl_42 : Cond.methodLink R_law 42 yX9_burst ∈ gw_tb := gw_in (List.mem_append_right _ (List.mem_append_right _ (List.mem_append_right _ (List.mem_append_right _ (List.mem_append_right _ (List.mem_append_left _ (List.mem_of_getElem? (i := 6) rfl))))))) rfl
set_option maxRecDepth 20000 in
theorem kl_43 : Cond.methodLink R_law 43 yX8_hot ∈ gw_tb := gw_in (List.mem_append_right _ (List.mem_append_right _ (List.mem_append_left _ (List.mem_of_getElem? (i := 158) rfl)))) rfl
set_option maxRecDepth 20000 in
theorem kl_46 : Cond.methodLink R_law 46 yX9_hot ∈ gw_tb := gw_in (List.mem_append_right _ (List.mem_append_right _ (List.mem_append_right _ (List.mem_append_right _ (List.mem_append_right _ (List.mem_append_left _ (List.mem_of_getElem? (i := 10) rfl))))))) rfl
set_option maxRecDepth 20000 in
theorem kl_47 : Cond.methodLink R_law 47 yX8_act ∈ gw_tb := gw_in (List.mem_append_right _ (List.mem_append_right _ (List.mem_append_left _ (List.mem_of_getElem? (i := 162) rfl)))) rfl
set_option maxRecDepth 20000 in
theorem kl_51 : Cond.methodLink R_law 51 yX9_act ∈ gw_tb := gw_in (List.mem_append_right _ (List.mem_append_right _ (List.mem_append_right _ (List.mem_append_right _ (List.mem_append_right _ (List.mem_append_left _ (List.mem_of_getElem? (i := 17) rfl))))))) rfl
set_option maxRecDepth 20000 in
theorem kl_52 : Cond.methodLink R_law 52 yX8_back ∈ gw_tb := gw_in (List.mem_append_right _ (List.mem_append_right _ (List.mem_append_left _ (List.mem_of_getElem? (i := 169) rfl)))) rfl
set_option maxRecDepth 20000 in
theorem kl_55 : Cond.methodLink R_law 55 yX9_back ∈ gw_tb := gw_in (List.mem_append_right _ (List.mem_append_right _ (List.mem_append_right _ (List.mem_append_right _ (List.mem_append_right _ (List.mem_append_left _ (List.mem_of_getElem? (i := 21) rfl))))))) rfl
set_option maxRecDepth 20000 in
theorem kl_56 : Cond.methodLink R_law 56 yX8_read ∈ gw_tb := gw_in (List.mem_append_right _ (List.mem_append_right _ (List.mem_append_left _ (List.mem_of_getElem? (i := 173) rfl)))) rfl
set_option maxRecDepth 20000 in
theorem kl_59 : Cond.methodLink R_law 59 yX9_read ∈ gw_tb := gw_in (List.mem_append_right _ (List.mem_append_right _ (List.mem_append_right _ (List.mem_append_right _ (List.mem_append_right _ (List.mem_append_left _ (List.mem_of_getElem? (i := 25) rfl))))))) rfl
set_option maxRecDepth 20000 in
theorem kl_60 : Cond.methodLink R_law 60 yX8_holds ∈ gw_tb := gw_in (List.mem_append_right _ (List.mem_append_right _ (List.mem_append_left _ (List.mem_of_getElem? (i := 182) rfl)))) rfl
set_option maxRecDepth 20000 in
theorem kl_64 : Cond.methodLink R_law 64 yX9_holds ∈ gw_tb := gw_in (List.mem_append_right _ (List.mem_append_right _ (List.mem_append_right _ (List.mem_append_right _ (List.mem_append_right _ (List.mem_append_left _ (List.mem_of_getElem? (i := 37) rfl))))))) rfl
set_option maxRecDepth 20000 in
theorem kl_65 : Cond.methodLink R_law 65 yX8_who ∈ gw_tb := gw_in (List.mem_append_right _ (List.mem_append_right _ (List.mem_append_right _ (List.mem_append_left _ (List.mem_of_getElem? (i := 5) rfl))))) rfl
set_option maxRecDepth 20000 in
theorem kl_68 : Cond.methodLink R_law 68 yX9_who ∈ gw_tb := gw_in (List.mem_append_right _ (List.mem_append_right _ (List.mem_append_right _ (List.mem_append_right _ (List.mem_append_right _ (List.mem_append_left _ (List.mem_of_getElem? (i := 97) rfl))))))) rfl
set_option maxRecDepth 20000 in
theorem kl_69 : Cond.methodLink R_law 69 yX8_whole ∈ gw_tb := gw_in (List.mem_append_right _ (List.mem_append_right _ (List.mem_append_right _ (List.mem_append_left _ (List.mem_of_getElem? (i := 9) rfl))))) rfl
set_option maxRecDepth 20000 in
theorem kl_72 : Cond.methodLink R_law 72 yX9_whole ∈ gw_tb := gw_in (List.mem_append_right _ (List.mem_append_right _ (List.mem_append_right _ (List.mem_append_right _ (List.mem_append_right _ (List.mem_append_left _ (List.mem_of_getElem? (i := 105) rfl))))))) rfl
set_option maxRecDepth 20000 in
theorem kl_73 : Cond.methodLink R_law 73 yX8_has ∈ gw_tb := gw_in (List.mem_append_right _ (List.mem_append_right _ (List.mem_append_right _ (List.mem_append_left _ (List.mem_of_getElem? (i := 14) rfl))))) rfl
set_option maxRecDepth 20000 in
theorem kl_76 : Cond.methodLink R_law 76 yX9_has ∈ gw_tb := gw_in (List.mem_append_right _ (List.mem_append_right _ (List.mem_append_right _ (List.mem_append_right _ (List.mem_append_right _ (List.mem_append_left _ (List.mem_of_getElem? (i := 113) rfl))))))) rfl
set_option maxRecDepth 20000 in
theorem kl_77 : Cond.methodLink R_law 77 yX8_heard ∈ gw_tb := gw_in (List.mem_append_right _ (List.mem_append_right _ (List.mem_append_right _ (List.mem_append_left _ (List.mem_of_getElem? (i := 22) rfl))))) rfl
set_option maxRecDepth 20000 in
theorem kl_80 : Cond.methodLink R_law 80 yX9_heard ∈ gw_tb := gw_in (List.mem_append_right _ (List.mem_append_right _ (List.mem_append_right _ (List.mem_append_right _ (List.mem_append_right _ (List.mem_append_left _ (List.mem_of_getElem? (i := 121) rfl))))))) rfl
set_option maxRecDepth 20000 in
theorem kl_81 : Cond.methodLink R_law 81 yX8_spilled ∈ gw_tb := gw_in (List.mem_append_right _ (List.mem_append_right _ (List.mem_append_right _ (List.mem_append_left _ (List.mem_of_getElem? (i := 26) rfl))))) rfl
set_option maxRecDepth 20000 in
theorem kl_84 : Cond.methodLink R_law 84 yX9_spilled ∈ gw_tb := gw_in (List.mem_append_right _ (List.mem_append_right _ (List.mem_append_right _ (List.mem_append_right _ (List.mem_append_right _ (List.mem_append_left _ (List.mem_of_getElem? (i := 129) rfl))))))) rfl
set_option maxRecDepth 20000 in
theorem kl_85 : Cond.methodLink R_law 85 yX8_leaked ∈ gw_tb := gw_in (List.mem_append_right _ (List.mem_append_right _ (List.mem_append_right _ (List.mem_append_left _ (List.mem_of_getElem? (i := 30) rfl))))) rfl
set_option maxRecDepth 20000 in
theorem kl_88 : Cond.methodLink R_law 88 yX9_leaked ∈ gw_tb := gw_in (List.mem_append_right _ (List.mem_append_right _ (List.mem_append_right _ (List.mem_append_right _ (List.mem_append_right _ (List.mem_append_left _ (List.mem_of_getElem? (i := 137) rfl))))))) rfl
set_option maxRecDepth 20000 in
theorem kl_89 : Cond.methodLink R_law 89 yX8_lost ∈ gw_tb := gw_in (List.mem_append_right _ (List.mem_append_right _ (List.mem_append_right _ (List.mem_append_left _ (List.mem_of_getElem? (i := 34) rfl))))) rfl
set_option maxRecDepth 20000 in
theorem kl_92 : Cond.methodLink R_law 92 yX9_lost ∈ gw_tb := gw_in (List.mem_append_right _ (List.mem_append_right _ (List.mem_append_right _ (List.mem_append_right _ (List.mem_append_right _ (List.mem_append_left _ (List.mem_of_getElem? (i := 145) rfl))))))) rfl
set_option maxRecDepth 20000 in
theorem kl_93 : Cond.methodLink R_law 93 yX8_works ∈ gw_tb := gw_in (List.mem_append_right _ (List.mem_append_right _ (List.mem_append_right _ (List.mem_append_left _ (List.mem_of_getElem? (i := 42) rfl))))) rfl
set_option maxRecDepth 20000 in
theorem kl_96 : Cond.methodLink R_law 96 yX9_works ∈ gw_tb := gw_in (List.mem_append_right _ (List.mem_append_right _ (List.mem_append_right _ (List.mem_append_right _ (List.mem_append_right _ (List.mem_append_left _ (List.mem_of_getElem? (i := 153) rfl))))))) rfl
set_option maxRecDepth 20000 in
theorem kl_97 : Cond.methodLink R_law 97 yX8_sing ∈ gw_tb := gw_in (List.mem_append_right _ (List.mem_append_right _ (List.mem_append_right _ (List.mem_append_left _ (List.mem_of_getElem? (i := 46) rfl))))) rfl
set_option maxRecDepth 20000 in
theorem kl_100 : Cond.methodLink R_law 100 yX9_sing ∈ gw_tb := gw_in (List.mem_append_right _ (List.mem_append_right _ (List.mem_append_right _ (List.mem_append_right _ (List.mem_append_right _ (List.mem_append_left _ (List.mem_of_getElem? (i := 161) rfl))))))) rfl
set_option maxRecDepth 20000 in
theorem kl_101 : Cond.methodLink R_law 101 yX8_corks ∈ gw_tb := gw_in (List.mem_append_right _ (List.mem_append_right _ (List.mem_append_right _ (List.mem_append_left _ (List.mem_of_getElem? (i := 78) rfl))))) rfl
set_option maxRecDepth 20000 in
theorem kl_104 : Cond.methodLink R_law 104 yX9_corks ∈ gw_tb := gw_in (List.mem_append_right _ (List.mem_append_right _ (List.mem_append_right _ (List.mem_append_right _ (List.mem_append_right _ (List.mem_append_left _ (List.mem_of_getElem? (i := 181) rfl))))))) rfl
set_option maxRecDepth 20000 in
theorem kl_105 : Cond.methodLink R_law 105 yX8_most ∈ gw_tb := gw_in (List.mem_append_right _ (List.mem_append_right _ (List.mem_append_right _ (List.mem_append_left _ (List.mem_of_getElem? (i := 108) rfl))))) rfl
set_option maxRecDepth 20000 in
theorem kl_108 : Cond.methodLink R_law 108 yX9_most ∈ gw_tb := gw_in (List.mem_append_right _ (List.mem_append_right _ (List.mem_append_right _ (List.mem_append_right _ (List.mem_append_right _ (List.mem_append_left _ (List.mem_of_getElem? (i := 197) rfl))))))) rfl
set_option maxRecDepth 20000 in
theorem kl_109 : Cond.methodLink R_law 109 yX8_weighed ∈ gw_tb := gw_in (List.mem_append_right _ (List.mem_append_right _ (List.mem_append_right _ (List.mem_append_left _ (List.mem_of_getElem? (i := 112) rfl))))) rfl
set_option maxRecDepth 20000 in
theorem kl_112 : Cond.methodLink R_law 112 yX9_weighed ∈ gw_tb := gw_in (List.mem_append_right _ (List.mem_append_right _ (List.mem_append_right _ (List.mem_append_right _ (List.mem_append_right _ (List.mem_append_left _ (List.mem_of_getElem? (i := 205) rfl))))))) rfl
set_option maxRecDepth 20000 in
theorem kl_113 : Cond.methodLink R_law 113 yX8_forget ∈ gw_tb := gw_in (List.mem_append_right _ (List.mem_append_right _ (List.mem_append_right _ (List.mem_append_left _ (List.mem_of_getElem? (i := 116) rfl))))) rfl
set_option maxRecDepth 20000 in
theorem kl_117 : Cond.methodLink R_law 117 yX9_forget ∈ gw_tb := gw_in (List.mem_append_right _ (List.mem_append_right _ (List.mem_append_right _ (List.mem_append_right _ (List.mem_append_right _ (List.mem_append_left _ (List.mem_of_getElem? (i := 209) rfl))))))) rfl
set_option maxRecDepth 20000 in
theorem kl_118 : Cond.methodLink R_law 118 yX8_hid ∈ gw_tb := gw_in (List.mem_append_right _ (List.mem_append_right _ (List.mem_append_right _ (List.mem_append_left _ (List.mem_of_getElem? (i := 120) rfl))))) rfl
set_option maxRecDepth 20000 in
theorem kl_121 : Cond.methodLink R_law 121 yX9_hid ∈ gw_tb := gw_in (List.mem_append_right _ (List.mem_append_right _ (List.mem_append_right _ (List.mem_append_right _ (List.mem_append_right _ (List.mem_append_left _ (List.mem_of_getElem? (i := 213) rfl))))))) rfl
set_option maxRecDepth 20000 in
theorem kl_122 : Cond.methodLink R_law 122 yX8_swapped ∈ gw_tb := gw_in (List.mem_append_right _ (List.mem_append_right _ (List.mem_append_right _ (List.mem_append_left _ (List.mem_of_getElem? (i := 140) rfl))))) rfl
set_option maxRecDepth 20000 in
theorem kl_125 : Cond.methodLink R_law 125 yX9_swapped ∈ gw_tb := gw_in (List.mem_append_right _ (List.mem_append_right _ (List.mem_append_right _ (List.mem_append_right _ (List.mem_append_right _ (List.mem_append_left _ (List.mem_of_getElem? (i := 225) rfl))))))) rfl
set_option maxRecDepth 20000 in
theorem kl_126 : Cond.methodLink R_law 126 yX8_weigh ∈ gw_tb := gw_in (List.mem_append_right _ (List.mem_append_right _ (List.mem_append_right _ (List.mem_append_left _ (List.mem_of_getElem? (i := 144) rfl))))) rfl
set_option maxRecDepth 20000 in
theorem kl_129 : Cond.methodLink R_law 129 yX9_weigh ∈ gw_tb := gw_in (List.mem_append_right _ (List.mem_append_right _ (List.mem_append_right _ (List.mem_append_right _ (List.mem_append_right _ (List.mem_append_left _ (List.mem_of_getElem? (i := 233) rfl))))))) rfl
set_option maxRecDepth 20000 in
theorem kl_130 : Cond.methodLink R_law 130 yX8_heat ∈ gw_tb := gw_in (List.mem_append_right _ (List.mem_append_right _ (List.mem_append_right _ (List.mem_append_left _ (List.mem_of_getElem? (i := 158) rfl))))) rfl
set_option maxRecDepth 20000 in
theorem kl_134 : Cond.methodLink R_law 134 yX9_heat ∈ gw_tb := gw_in (List.mem_append_right _ (List.mem_append_right _ (List.mem_append_right _ (List.mem_append_right _ (List.mem_append_right _ (List.mem_append_right _ (List.mem_of_getElem? (i := 1) rfl))))))) rfl
set_option maxRecDepth 20000 in
theorem kl_135 : Cond.methodLink R_law 135 yX8_market ∈ gw_tb := gw_in (List.mem_append_right _ (List.mem_append_right _ (List.mem_append_right _ (List.mem_append_left _ (List.mem_of_getElem? (i := 185) rfl))))) rfl
set_option maxRecDepth 20000 in
theorem kl_138 : Cond.methodLink R_law 138 yX9_market ∈ gw_tb := gw_in (List.mem_append_right _ (List.mem_append_right _ (List.mem_append_right _ (List.mem_append_right _ (List.mem_append_right _ (List.mem_append_right _ (List.mem_of_getElem? (i := 16) rfl))))))) rfl
set_option maxRecDepth 20000 in
theorem kl_139 : Cond.methodLink R_law 139 yX8_sheet ∈ gw_tb := gw_in (List.mem_append_right _ (List.mem_append_right _ (List.mem_append_right _ (List.mem_append_left _ (List.mem_of_getElem? (i := 194) rfl))))) rfl
set_option maxRecDepth 20000 in
theorem kl_142 : Cond.methodLink R_law 142 yX9_sheet ∈ gw_tb := gw_in (List.mem_append_right _ (List.mem_append_right _ (List.mem_append_right _ (List.mem_append_right _ (List.mem_append_right _ (List.mem_append_right _ (List.mem_of_getElem? (i := 25) rfl))))))) rfl
set_option maxRecDepth 20000 in
theorem kl_143 : Cond.methodLink R_law 143 yX8_lose ∈ gw_tb := gw_in (List.mem_append_right _ (List.mem_append_right _ (List.mem_append_right _ (List.mem_append_left _ (List.mem_of_getElem? (i := 199) rfl))))) rfl
set_option maxRecDepth 20000 in
theorem kl_146 : Cond.methodLink R_law 146 yX9_lose ∈ gw_tb := gw_in (List.mem_append_right _ (List.mem_append_right _ (List.mem_append_right _ (List.mem_append_right _ (List.mem_append_right _ (List.mem_append_right _ (List.mem_of_getElem? (i := 29) rfl))))))) rfl
set_option maxRecDepth 20000 in
theorem kl_147 : Cond.methodLink R_law 147 yX8_put ∈ gw_tb := gw_in (List.mem_append_right _ (List.mem_append_right _ (List.mem_append_right _ (List.mem_append_left _ (List.mem_of_getElem? (i := 203) rfl))))) rfl
set_option maxRecDepth 20000 in
theorem kl_150 : Cond.methodLink R_law 150 yX9_put ∈ gw_tb := gw_in (List.mem_append_right _ (List.mem_append_right _ (List.mem_append_right _ (List.mem_append_right _ (List.mem_append_right _ (List.mem_append_right _ (List.mem_of_getElem? (i := 33) rfl))))))) rfl
set_option maxRecDepth 20000 in
theorem kl_151 : Cond.methodLink R_law 151 yX8_get ∈ gw_tb := gw_in (List.mem_append_right _ (List.mem_append_right _ (List.mem_append_right _ (List.mem_append_left _ (List.mem_of_getElem? (i := 216) rfl))))) rfl
set_option maxRecDepth 20000 in
theorem kl_154 : Cond.methodLink R_law 154 yX9_get ∈ gw_tb := gw_in (List.mem_append_right _ (List.mem_append_right _ (List.mem_append_right _ (List.mem_append_right _ (List.mem_append_right _ (List.mem_append_right _ (List.mem_of_getElem? (i := 45) rfl))))))) rfl
set_option maxRecDepth 20000 in
theorem kl_155 : Cond.methodLink R_law 155 yX8_copy ∈ gw_tb := gw_in (List.mem_append_right _ (List.mem_append_right _ (List.mem_append_right _ (List.mem_append_left _ (List.mem_of_getElem? (i := 221) rfl))))) rfl
set_option maxRecDepth 20000 in
theorem kl_159 : Cond.methodLink R_law 159 yX9_copy ∈ gw_tb := gw_in (List.mem_append_right _ (List.mem_append_right _ (List.mem_append_right _ (List.mem_append_right _ (List.mem_append_right _ (List.mem_append_right _ (List.mem_of_getElem? (i := 50) rfl))))))) rfl
set_option maxRecDepth 20000 in
theorem kl_160 : Cond.methodLink R_law 160 yX8_write ∈ gw_tb := gw_in (List.mem_append_right _ (List.mem_append_right _ (List.mem_append_right _ (List.mem_append_left _ (List.mem_of_getElem? (i := 230) rfl))))) rfl
set_option maxRecDepth 20000 in
theorem kl_163 : Cond.methodLink R_law 163 yX9_write ∈ gw_tb := gw_in (List.mem_append_right _ (List.mem_append_right _ (List.mem_append_right _ (List.mem_append_right _ (List.mem_append_right _ (List.mem_append_right _ (List.mem_of_getElem? (i := 54) rfl))))))) rfl
set_option maxRecDepth 20000 in
theorem kl_164 : Cond.methodLink R_law 164 yX8_count ∈ gw_tb := gw_in (List.mem_append_right _ (List.mem_append_right _ (List.mem_append_right _ (List.mem_append_left _ (List.mem_of_getElem? (i := 234) rfl))))) rfl
set_option maxRecDepth 20000 in
theorem kl_167 : Cond.methodLink R_law 167 yX9_count ∈ gw_tb := gw_in (List.mem_append_right _ (List.mem_append_right _ (List.mem_append_right _ (List.mem_append_right _ (List.mem_append_right _ (List.mem_append_right _ (List.mem_of_getElem? (i := 58) rfl))))))) rfl
set_option maxRecDepth 20000 in
theorem kl_168 : Cond.methodLink R_law 168 yX8_digest ∈ gw_tb := gw_in (List.mem_append_right _ (List.mem_append_right _ (List.mem_append_right _ (List.mem_append_left _ (List.mem_of_getElem? (i := 238) rfl))))) rfl
set_option maxRecDepth 20000 in
theorem kl_172 : Cond.methodLink R_law 172 yX9_digest ∈ gw_tb := gw_in (List.mem_append_right _ (List.mem_append_right _ (List.mem_append_right _ (List.mem_append_right _ (List.mem_append_right _ (List.mem_append_right _ (List.mem_of_getElem? (i := 66) rfl))))))) rfl
set_option maxRecDepth 20000 in
theorem q_type {D : va_G} {ad : Nat → Nat} {dA : Nat → ClassId} {p : Program} {l : Launch} {e : Env} {s : State} {m : MethodId} {args : Array Value} {below : List Frame} {meth : Method} {c : Code} {Q : State → Prop} {ls : Array Slot} {σ τ : gw_S} {b Lx i : Nat} {xs : Nat → Int32} (X : lX D ad dA p s m args c b Lx xs) (hw : WF τ) (hi : IC τ σ) (ht : TM τ σ) (hl : lv_has ls 4 [(3, .int (nI i)), (2, .ref (ad 1)), (1, .ref (ad 0)), (0, .ref b)]) (hb : i + 6 ≤ Lx) (hL : Lx ≤ 384) (nx : ∀ τ2 σ2, WF τ2 → IC τ2 σ2 → TM τ2 σ2 → lZ D ad dA p l e s m args below meth c Q 1386 ls [] σ2) : lZ D ad dA p l e s m args below meth c Q 200 ls [] σ := by
  refine y_aload X (k := 1) (lv_at hl 2 rfl) dL_law_200 ?_
  refine y_aload X (k := 0) (lv_at hl 3 rfl) dL_law_201 ?_
  refine y_iload X (k := 3) (lv_at hl 0 rfl) dL_law_202 ?_
  refine y_iconst X (1) dL_law_203 (by decide) ?_
  refine y_iadd X dL_law_204 ?_
  refine y_sld X (l_in (j := 1) hb hL (by decide)) dL_law_205 ?_
  refine y_aload X (k := 0) (lv_at hl 3 rfl) dL_law_206 ?_
  refine y_iload X (k := 3) (lv_at hl 0 rfl) dL_law_207 ?_
  refine y_iconst X (2) dL_law_208 (by decide) ?_
  refine y_iadd X dL_law_209 ?_
  refine y_sld X (l_in (j := 2) hb hL (by decide)) dL_law_210 ?_
  refine y_call X (d2 := 5) (M2 := mX8_type) (k := 0) [.int (xs (nI i + 1).toNatClampNeg), .int (xs (nI i + 2).toNatClampNeg)] dL_law_211 kl_13 mvX8_type gk_0 rfl rfl rfl (Nat.le_of_ble_eq_true rfl) (by decide) hl.1 ?_
  refine (c_type (d := 0) hw hi.1).mono ?_
  intro v σ2 q
  obtain ⟨rfl, i2, f2⟩ := QU.ic hi q
  have t2 := ht.cl f2
  refine y_aload X (k := 2) (lv_at hl 1 rfl) dL_law_214 ?_
  refine y_aload X (k := 0) (lv_at hl 3 rfl) dL_law_215 ?_
  refine y_iload X (k := 3) (lv_at hl 0 rfl) dL_law_216 ?_
  refine y_iconst X (1) dL_law_217 (by decide) ?_
  refine y_iadd X dL_law_218 ?_
  refine y_sld X (l_in (j := 1) hb hL (by decide)) dL_law_219 ?_
  refine y_aload X (k := 0) (lv_at hl 3 rfl) dL_law_220 ?_
  refine y_iload X (k := 3) (lv_at hl 0 rfl) dL_law_221 ?_
  refine y_iconst X (2) dL_law_222 (by decide) ?_
  refine y_iadd X dL_law_223 ?_
  refine y_sld X (l_in (j := 2) hb hL (by decide)) dL_law_224 ?_
  refine y_call X (d2 := 2) (M2 := mX9_type) (k := 1) [.int (xs (nI i + 1).toNatClampNeg), .int (xs (nI i + 2).toNatClampNeg)] dL_law_225 kl_17 mvX9_type gk_1 rfl rfl rfl (Nat.le_of_ble_eq_true rfl) (by decide) hl.1 ?_
  refine (m_type (d := 0) hw t2).mono ?_
  intro v σ3 q
  obtain ⟨rfl, t3, f3⟩ := q
  exact y_eq X (tgt := 1386) dL_law_228 rfl (nx _ σ3 (w_type hw) (i2.mo f3) t3)
set_option maxRecDepth 20000 in
theorem q_wipe {D : va_G} {ad : Nat → Nat} {dA : Nat → ClassId} {p : Program} {l : Launch} {e : Env} {s : State} {m : MethodId} {args : Array Value} {below : List Frame} {meth : Method} {c : Code} {Q : State → Prop} {ls : Array Slot} {σ τ : gw_S} {b Lx i : Nat} {xs : Nat → Int32} (X : lX D ad dA p s m args c b Lx xs) (hw : WF τ) (hi : IC τ σ) (ht : TM τ σ) (hl : lv_has ls 4 [(3, .int (nI i)), (2, .ref (ad 1)), (1, .ref (ad 0)), (0, .ref b)]) (hb : i + 6 ≤ Lx) (hL : Lx ≤ 384) (nx : ∀ τ2 σ2, WF τ2 → IC τ2 σ2 → TM τ2 σ2 → lZ D ad dA p l e s m args below meth c Q 1386 ls [] σ2) : lZ D ad dA p l e s m args below meth c Q 233 ls [] σ := by
  refine y_aload X (k := 1) (lv_at hl 2 rfl) dL_law_233 ?_
  refine y_aload X (k := 0) (lv_at hl 3 rfl) dL_law_234 ?_
  refine y_iload X (k := 3) (lv_at hl 0 rfl) dL_law_235 ?_
  refine y_iconst X (1) dL_law_236 (by decide) ?_
  refine y_iadd X dL_law_237 ?_
  refine y_sld X (l_in (j := 1) hb hL (by decide)) dL_law_238 ?_
  refine y_call X (d2 := 5) (M2 := mX8_wipe) (k := 0) [.int (xs (nI i + 1).toNatClampNeg)] dL_law_239 kl_18 mvX8_wipe gk_0 rfl rfl rfl (Nat.le_of_ble_eq_true rfl) (by decide) hl.1 ?_
  refine (c_wipe (d := 0) hw hi.1).mono ?_
  intro v σ2 q
  obtain ⟨rfl, i2, f2⟩ := QU.ic hi q
  have t2 := ht.cl f2
  refine y_aload X (k := 2) (lv_at hl 1 rfl) dL_law_242 ?_
  refine y_aload X (k := 0) (lv_at hl 3 rfl) dL_law_243 ?_
  refine y_iload X (k := 3) (lv_at hl 0 rfl) dL_law_244 ?_
  refine y_iconst X (1) dL_law_245 (by decide) ?_
  refine y_iadd X dL_law_246 ?_
  refine y_sld X (l_in (j := 1) hb hL (by decide)) dL_law_247 ?_
  refine y_call X (d2 := 2) (M2 := mX9_wipe) (k := 1) [.int (xs (nI i + 1).toNatClampNeg)] dL_law_248 kl_22 mvX9_wipe gk_1 rfl rfl rfl (Nat.le_of_ble_eq_true rfl) (by decide) hl.1 ?_
  refine (m_wipe (d := 0) t2).mono ?_
  intro v σ3 q
  obtain ⟨rfl, t3, f3⟩ := q
  exact y_eq X (tgt := 1386) dL_law_251 rfl (nx _ σ3 (w_wipe hw) (i2.mo f3) t3)
set_option maxRecDepth 20000 in
theorem q_undo {D : va_G} {ad : Nat → Nat} {dA : Nat → ClassId} {p : Program} {l : Launch} {e : Env} {s : State} {m : MethodId} {args : Array Value} {below : List Frame} {meth : Method} {c : Code} {Q : State → Prop} {ls : Array Slot} {σ τ : gw_S} {b Lx i : Nat} {xs : Nat → Int32} (X : lX D ad dA p s m args c b Lx xs) (hw : WF τ) (hi : IC τ σ) (ht : TM τ σ) (hl : lv_has ls 4 [(3, .int (nI i)), (2, .ref (ad 1)), (1, .ref (ad 0)), (0, .ref b)]) (hb : i + 6 ≤ Lx) (hL : Lx ≤ 384) (nx : ∀ τ2 σ2, WF τ2 → IC τ2 σ2 → TM τ2 σ2 → lZ D ad dA p l e s m args below meth c Q 1386 ls [] σ2) : lZ D ad dA p l e s m args below meth c Q 256 ls [] σ := by
  refine y_aload X (k := 1) (lv_at hl 2 rfl) dL_law_256 ?_
  refine y_aload X (k := 0) (lv_at hl 3 rfl) dL_law_257 ?_
  refine y_iload X (k := 3) (lv_at hl 0 rfl) dL_law_258 ?_
  refine y_iconst X (1) dL_law_259 (by decide) ?_
  refine y_iadd X dL_law_260 ?_
  refine y_sld X (l_in (j := 1) hb hL (by decide)) dL_law_261 ?_
  refine y_call X (d2 := 5) (M2 := mX8_undo) (k := 0) [.int (xs (nI i + 1).toNatClampNeg)] dL_law_262 kl_23 mvX8_undo gk_0 rfl rfl rfl (Nat.le_of_ble_eq_true rfl) (by decide) hl.1 ?_
  refine (c_undo (d := 0) hw hi.1).mono ?_
  intro v σ2 q
  obtain ⟨rfl, i2, f2⟩ := QU.ic hi q
  have t2 := ht.cl f2
  refine y_aload X (k := 2) (lv_at hl 1 rfl) dL_law_265 ?_
  refine y_aload X (k := 0) (lv_at hl 3 rfl) dL_law_266 ?_
  refine y_iload X (k := 3) (lv_at hl 0 rfl) dL_law_267 ?_
  refine y_iconst X (1) dL_law_268 (by decide) ?_
  refine y_iadd X dL_law_269 ?_
  refine y_sld X (l_in (j := 1) hb hL (by decide)) dL_law_270 ?_
  refine y_call X (d2 := 2) (M2 := mX9_undo) (k := 1) [.int (xs (nI i + 1).toNatClampNeg)] dL_law_271 kl_26 mvX9_undo gk_1 rfl rfl rfl (Nat.le_of_ble_eq_true rfl) (by decide) hl.1 ?_
  refine (m_undo (d := 0) t2).mono ?_
  intro v σ3 q
  obtain ⟨rfl, t3, f3⟩ := q
  exact y_eq X (tgt := 1386) dL_law_274 rfl (nx _ σ3 (w_undo hw) (i2.mo f3) t3)
set_option maxRecDepth 20000 in
theorem q_fault {D : va_G} {ad : Nat → Nat} {dA : Nat → ClassId} {p : Program} {l : Launch} {e : Env} {s : State} {m : MethodId} {args : Array Value} {below : List Frame} {meth : Method} {c : Code} {Q : State → Prop} {ls : Array Slot} {σ τ : gw_S} {b Lx i : Nat} {xs : Nat → Int32} (X : lX D ad dA p s m args c b Lx xs) (hw : WF τ) (hi : IC τ σ) (ht : TM τ σ) (hl : lv_has ls 4 [(3, .int (nI i)), (2, .ref (ad 1)), (1, .ref (ad 0)), (0, .ref b)]) (hb : i + 6 ≤ Lx) (hL : Lx ≤ 384) (nx : ∀ τ2 σ2, WF τ2 → IC τ2 σ2 → TM τ2 σ2 → lZ D ad dA p l e s m args below meth c Q 1386 ls [] σ2) : lZ D ad dA p l e s m args below meth c Q 279 ls [] σ := by
  refine y_aload X (k := 1) (lv_at hl 2 rfl) dL_law_279 ?_
  refine y_aload X (k := 0) (lv_at hl 3 rfl) dL_law_280 ?_
  refine y_iload X (k := 3) (lv_at hl 0 rfl) dL_law_281 ?_
  refine y_iconst X (1) dL_law_282 (by decide) ?_
  refine y_iadd X dL_law_283 ?_
  refine y_sld X (l_in (j := 1) hb hL (by decide)) dL_law_284 ?_
  refine y_call X (d2 := 3) (M2 := mX8_fault) (k := 0) [.int (xs (nI i + 1).toNatClampNeg)] dL_law_285 kl_27 mvX8_fault gk_0 rfl rfl rfl (Nat.le_of_ble_eq_true rfl) (by decide) hl.1 ?_
  refine (c_fault (d := 0) hw hi.1 hi.2.1).mono ?_
  intro v σ2 q
  obtain ⟨rfl, i2, f2⟩ := QC.ic hi q
  have t2 := ht.cl f2
  refine y_aload X (k := 2) (lv_at hl 1 rfl) dL_law_288 ?_
  refine y_aload X (k := 0) (lv_at hl 3 rfl) dL_law_289 ?_
  refine y_iload X (k := 3) (lv_at hl 0 rfl) dL_law_290 ?_
  refine y_iconst X (1) dL_law_291 (by decide) ?_
  refine y_iadd X dL_law_292 ?_
  refine y_sld X (l_in (j := 1) hb hL (by decide)) dL_law_293 ?_
  refine y_call X (d2 := 4) (M2 := mX9_fault) (k := 1) [.int (xs (nI i + 1).toNatClampNeg)] dL_law_294 kl_30 mvX9_fault gk_1 rfl rfl rfl (Nat.le_of_ble_eq_true rfl) (by decide) hl.1 ?_
  refine (m_fault (d := 0) hw t2).mono ?_
  intro v σ3 q
  obtain ⟨rfl, t3, f3⟩ := QM.in q
  exact y_eq X (tgt := 1386) dL_law_297 rfl (nx _ σ3 (hw) (i2.mo f3) t3)
set_option maxRecDepth 20000 in
theorem q_bottle {D : va_G} {ad : Nat → Nat} {dA : Nat → ClassId} {p : Program} {l : Launch} {e : Env} {s : State} {m : MethodId} {args : Array Value} {below : List Frame} {meth : Method} {c : Code} {Q : State → Prop} {ls : Array Slot} {σ τ : gw_S} {b Lx i : Nat} {xs : Nat → Int32} (X : lX D ad dA p s m args c b Lx xs) (hw : WF τ) (hi : IC τ σ) (ht : TM τ σ) (hl : lv_has ls 4 [(3, .int (nI i)), (2, .ref (ad 1)), (1, .ref (ad 0)), (0, .ref b)]) (hb : i + 6 ≤ Lx) (hL : Lx ≤ 384) (nx : ∀ τ2 σ2, WF τ2 → IC τ2 σ2 → TM τ2 σ2 → lZ D ad dA p l e s m args below meth c Q 1386 ls [] σ2) : lZ D ad dA p l e s m args below meth c Q 302 ls [] σ := by
  refine y_aload X (k := 1) (lv_at hl 2 rfl) dL_law_302 ?_
  refine y_aload X (k := 0) (lv_at hl 3 rfl) dL_law_303 ?_
  refine y_iload X (k := 3) (lv_at hl 0 rfl) dL_law_304 ?_
  refine y_iconst X (1) dL_law_305 (by decide) ?_
  refine y_iadd X dL_law_306 ?_
  refine y_sld X (l_in (j := 1) hb hL (by decide)) dL_law_307 ?_
  refine y_aload X (k := 0) (lv_at hl 3 rfl) dL_law_308 ?_
  refine y_iload X (k := 3) (lv_at hl 0 rfl) dL_law_309 ?_
  refine y_iconst X (2) dL_law_310 (by decide) ?_
  refine y_iadd X dL_law_311 ?_
  refine y_sld X (l_in (j := 2) hb hL (by decide)) dL_law_312 ?_
  refine y_call X (d2 := 2) (M2 := mX8_bottle) (k := 0) [.int (xs (nI i + 1).toNatClampNeg), .int (xs (nI i + 2).toNatClampNeg)] dL_law_313 kl_31 mvX8_bottle gk_0 rfl rfl rfl (Nat.le_of_ble_eq_true rfl) (by decide) hl.1 ?_
  refine (c_bottle (d := 0) hw hi.1 hi.2.1).mono ?_
  intro v σ2 q
  obtain ⟨rfl, i2, f2⟩ := QC.ic hi q
  have t2 := ht.cl f2
  refine y_aload X (k := 2) (lv_at hl 1 rfl) dL_law_316 ?_
  refine y_aload X (k := 0) (lv_at hl 3 rfl) dL_law_317 ?_
  refine y_iload X (k := 3) (lv_at hl 0 rfl) dL_law_318 ?_
  refine y_iconst X (1) dL_law_319 (by decide) ?_
  refine y_iadd X dL_law_320 ?_
  refine y_sld X (l_in (j := 1) hb hL (by decide)) dL_law_321 ?_
  refine y_aload X (k := 0) (lv_at hl 3 rfl) dL_law_322 ?_
  refine y_iload X (k := 3) (lv_at hl 0 rfl) dL_law_323 ?_
  refine y_iconst X (2) dL_law_324 (by decide) ?_
  refine y_iadd X dL_law_325 ?_
  refine y_sld X (l_in (j := 2) hb hL (by decide)) dL_law_326 ?_
  refine y_call X (d2 := 6) (M2 := mX9_bottle) (k := 1) [.int (xs (nI i + 1).toNatClampNeg), .int (xs (nI i + 2).toNatClampNeg)] dL_law_327 kl_34 mvX9_bottle gk_1 rfl rfl rfl (Nat.le_of_ble_eq_true rfl) (by decide) hl.1 ?_
  refine (m_bottle (d := 0) hw t2).mono ?_
  intro v σ3 q
  obtain ⟨rfl, t3, f3⟩ := QM.in q
  exact y_eq X (tgt := 1386) dL_law_330 rfl (nx _ σ3 (hw) (i2.mo f3) t3)
set_option maxRecDepth 20000 in
theorem q_note {D : va_G} {ad : Nat → Nat} {dA : Nat → ClassId} {p : Program} {l : Launch} {e : Env} {s : State} {m : MethodId} {args : Array Value} {below : List Frame} {meth : Method} {c : Code} {Q : State → Prop} {ls : Array Slot} {σ τ : gw_S} {b Lx i : Nat} {xs : Nat → Int32} (X : lX D ad dA p s m args c b Lx xs) (hw : WF τ) (hi : IC τ σ) (ht : TM τ σ) (hl : lv_has ls 4 [(3, .int (nI i)), (2, .ref (ad 1)), (1, .ref (ad 0)), (0, .ref b)]) (hb : i + 6 ≤ Lx) (hL : Lx ≤ 384) (nx : ∀ τ2 σ2, WF τ2 → IC τ2 σ2 → TM τ2 σ2 → lZ D ad dA p l e s m args below meth c Q 1386 ls [] σ2) : lZ D ad dA p l e s m args below meth c Q 335 ls [] σ := by
  refine y_aload X (k := 1) (lv_at hl 2 rfl) dL_law_335 ?_
  refine y_aload X (k := 0) (lv_at hl 3 rfl) dL_law_336 ?_
  refine y_iload X (k := 3) (lv_at hl 0 rfl) dL_law_337 ?_
  refine y_iconst X (1) dL_law_338 (by decide) ?_
  refine y_iadd X dL_law_339 ?_
  refine y_sld X (l_in (j := 1) hb hL (by decide)) dL_law_340 ?_
  refine y_call X (d2 := 1) (M2 := mX8_note) (k := 0) [.int (xs (nI i + 1).toNatClampNeg)] dL_law_341 kl_35 mvX8_note gk_0 rfl rfl rfl (Nat.le_of_ble_eq_true rfl) (by decide) hl.1 ?_
  refine (c_note (d := 0) hw hi.1 hi.2.1).mono ?_
  intro v σ2 q
  obtain ⟨rfl, i2, f2⟩ := QC.ic hi q
  have t2 := ht.cl f2
  refine y_aload X (k := 2) (lv_at hl 1 rfl) dL_law_344 ?_
  refine y_aload X (k := 0) (lv_at hl 3 rfl) dL_law_345 ?_
  refine y_iload X (k := 3) (lv_at hl 0 rfl) dL_law_346 ?_
  refine y_iconst X (1) dL_law_347 (by decide) ?_
  refine y_iadd X dL_law_348 ?_
  refine y_sld X (l_in (j := 1) hb hL (by decide)) dL_law_349 ?_
  refine y_call X (d2 := 6) (M2 := mX9_note) (k := 1) [.int (xs (nI i + 1).toNatClampNeg)] dL_law_350 kl_38 mvX9_note gk_1 rfl rfl rfl (Nat.le_of_ble_eq_true rfl) (by decide) hl.1 ?_
  refine (m_note (d := 0) hw t2).mono ?_
  intro v σ3 q
  obtain ⟨rfl, t3, f3⟩ := QM.in q
  exact y_eq X (tgt := 1386) dL_law_353 rfl (nx _ σ3 (hw) (i2.mo f3) t3)
set_option maxRecDepth 20000 in
theorem q_burst {D : va_G} {ad : Nat → Nat} {dA : Nat → ClassId} {p : Program} {l : Launch} {e : Env} {s : State} {m : MethodId} {args : Array Value} {below : List Frame} {meth : Method} {c : Code} {Q : State → Prop} {ls : Array Slot} {σ τ : gw_S} {b Lx i : Nat} {xs : Nat → Int32} (X : lX D ad dA p s m args c b Lx xs) (hw : WF τ) (hi : IC τ σ) (ht : TM τ σ) (hl : lv_has ls 4 [(3, .int (nI i)), (2, .ref (ad 1)), (1, .ref (ad 0)), (0, .ref b)]) (hb : i + 6 ≤ Lx) (hL : Lx ≤ 384) (nx : ∀ τ2 σ2, WF τ2 → IC τ2 σ2 → TM τ2 σ2 → lZ D ad dA p l e s m args below meth c Q 1386 ls [] σ2) : lZ D ad dA p l e s m args below meth c Q 358 ls [] σ := by
  refine y_aload X (k := 1) (lv_at hl 2 rfl) dL_law_358 ?_
  refine y_aload X (k := 0) (lv_at hl 3 rfl) dL_law_359 ?_
  refine y_iload X (k := 3) (lv_at hl 0 rfl) dL_law_360 ?_
  refine y_iconst X (1) dL_law_361 (by decide) ?_
  refine y_iadd X dL_law_362 ?_
  refine y_sld X (l_in (j := 1) hb hL (by decide)) dL_law_363 ?_
  refine y_call X (d2 := 1) (M2 := mX8_burst) (k := 0) [.int (xs (nI i + 1).toNatClampNeg)] dL_law_364 kl_39 mvX8_burst gk_0 rfl rfl rfl (Nat.le_of_ble_eq_true rfl) (by decide) hl.1 ?_
  refine (c_burst (d := 0) hi.1).mono ?_
  intro v σ2 q
  obtain ⟨rfl, i2, f2⟩ := QU.ic hi q
  have t2 := ht.cl f2
  refine y_aload X (k := 2) (lv_at hl 1 rfl) dL_law_367 ?_
  refine y_aload X (k := 0) (lv_at hl 3 rfl) dL_law_368 ?_
  refine y_iload X (k := 3) (lv_at hl 0 rfl) dL_law_369 ?_
  refine y_iconst X (1) dL_law_370 (by decide) ?_
  refine y_iadd X dL_law_371 ?_
  refine y_sld X (l_in (j := 1) hb hL (by decide)) dL_law_372 ?_
  refine y_call X (d2 := 1) (M2 := mX9_burst) (k := 1) [.int (xs (nI i + 1).toNatClampNeg)] dL_law_373 kl_42 mvX9_burst gk_1 rfl rfl rfl (Nat.le_of_ble_eq_true rfl) (by decide) hl.1 ?_
  refine (m_burst (d := 0) t2).mono ?_
  intro v σ3 q
  obtain ⟨rfl, t3, f3⟩ := q
  exact y_eq X (tgt := 1386) dL_law_376 rfl (nx _ σ3 (w_burst hw) (i2.mo f3) t3)
set_option maxRecDepth 20000 in
theorem q_hot {D : va_G} {ad : Nat → Nat} {dA : Nat → ClassId} {p : Program} {l : Launch} {e : Env} {s : State} {m : MethodId} {args : Array Value} {below : List Frame} {meth : Method} {c : Code} {Q : State → Prop} {ls : Array Slot} {σ τ : gw_S} {b Lx i : Nat} {xs : Nat → Int32} (X : lX D ad dA p s m args c b Lx xs) (hw : WF τ) (hi : IC τ σ) (ht : TM τ σ) (hl : lv_has ls 4 [(3, .int (nI i)), (2, .ref (ad 1)), (1, .ref (ad 0)), (0, .ref b)]) (hb : i + 6 ≤ Lx) (hL : Lx ≤ 384) (nx : ∀ τ2 σ2, WF τ2 → IC τ2 σ2 → TM τ2 σ2 → lZ D ad dA p l e s m args below meth c Q 1386 ls [] σ2) : lZ D ad dA p l e s m args below meth c Q 381 ls [] σ := by
  refine y_aload X (k := 1) (lv_at hl 2 rfl) dL_law_381 ?_
  refine y_aload X (k := 0) (lv_at hl 3 rfl) dL_law_382 ?_
  refine y_iload X (k := 3) (lv_at hl 0 rfl) dL_law_383 ?_
  refine y_iconst X (1) dL_law_384 (by decide) ?_
  refine y_iadd X dL_law_385 ?_
  refine y_sld X (l_in (j := 1) hb hL (by decide)) dL_law_386 ?_
  refine y_call X (d2 := 1) (M2 := mX8_hot) (k := 0) [.int (xs (nI i + 1).toNatClampNeg)] dL_law_387 kl_43 mvX8_hot gk_0 rfl rfl rfl (Nat.le_of_ble_eq_true rfl) (by decide) hl.1 ?_
  refine (c_hot (d := 0) hw hi.1).mono ?_
  intro v σ2 q
  obtain ⟨rfl, i2, f2⟩ := QU.ic hi q
  have t2 := ht.cl f2
  refine y_aload X (k := 2) (lv_at hl 1 rfl) dL_law_390 ?_
  refine y_aload X (k := 0) (lv_at hl 3 rfl) dL_law_391 ?_
  refine y_iload X (k := 3) (lv_at hl 0 rfl) dL_law_392 ?_
  refine y_iconst X (1) dL_law_393 (by decide) ?_
  refine y_iadd X dL_law_394 ?_
  refine y_sld X (l_in (j := 1) hb hL (by decide)) dL_law_395 ?_
  refine y_call X (d2 := 2) (M2 := mX9_hot) (k := 1) [.int (xs (nI i + 1).toNatClampNeg)] dL_law_396 kl_46 mvX9_hot gk_1 rfl rfl rfl (Nat.le_of_ble_eq_true rfl) (by decide) hl.1 ?_
  refine (m_hot (d := 0) hw t2).mono ?_
  intro v σ3 q
  obtain ⟨rfl, t3, f3⟩ := q
  exact y_eq X (tgt := 1386) dL_law_399 rfl (nx _ σ3 (w_hot hw) (i2.mo f3) t3)
set_option maxRecDepth 20000 in
theorem q_act {D : va_G} {ad : Nat → Nat} {dA : Nat → ClassId} {p : Program} {l : Launch} {e : Env} {s : State} {m : MethodId} {args : Array Value} {below : List Frame} {meth : Method} {c : Code} {Q : State → Prop} {ls : Array Slot} {σ τ : gw_S} {b Lx i : Nat} {xs : Nat → Int32} (X : lX D ad dA p s m args c b Lx xs) (hw : WF τ) (hi : IC τ σ) (ht : TM τ σ) (hl : lv_has ls 4 [(3, .int (nI i)), (2, .ref (ad 1)), (1, .ref (ad 0)), (0, .ref b)]) (hb : i + 6 ≤ Lx) (hL : Lx ≤ 384) (nx : ∀ τ2 σ2, WF τ2 → IC τ2 σ2 → TM τ2 σ2 → lZ D ad dA p l e s m args below meth c Q 1386 ls [] σ2) : lZ D ad dA p l e s m args below meth c Q 404 ls [] σ := by
  refine y_aload X (k := 1) (lv_at hl 2 rfl) dL_law_404 ?_
  refine y_aload X (k := 0) (lv_at hl 3 rfl) dL_law_405 ?_
  refine y_iload X (k := 3) (lv_at hl 0 rfl) dL_law_406 ?_
  refine y_iconst X (1) dL_law_407 (by decide) ?_
  refine y_iadd X dL_law_408 ?_
  refine y_sld X (l_in (j := 1) hb hL (by decide)) dL_law_409 ?_
  refine y_aload X (k := 0) (lv_at hl 3 rfl) dL_law_410 ?_
  refine y_iload X (k := 3) (lv_at hl 0 rfl) dL_law_411 ?_
  refine y_iconst X (2) dL_law_412 (by decide) ?_
  refine y_iadd X dL_law_413 ?_
  refine y_sld X (l_in (j := 2) hb hL (by decide)) dL_law_414 ?_
  refine y_aload X (k := 0) (lv_at hl 3 rfl) dL_law_415 ?_
  refine y_iload X (k := 3) (lv_at hl 0 rfl) dL_law_416 ?_
  refine y_iconst X (3) dL_law_417 (by decide) ?_
  refine y_iadd X dL_law_418 ?_
  refine y_sld X (l_in (j := 3) hb hL (by decide)) dL_law_419 ?_
  refine y_aload X (k := 0) (lv_at hl 3 rfl) dL_law_420 ?_
  refine y_iload X (k := 3) (lv_at hl 0 rfl) dL_law_421 ?_
  refine y_iconst X (4) dL_law_422 (by decide) ?_
  refine y_iadd X dL_law_423 ?_
  refine y_sld X (l_in (j := 4) hb hL (by decide)) dL_law_424 ?_
  refine y_call X (d2 := 2) (M2 := mX8_act) (k := 0) [.int (xs (nI i + 1).toNatClampNeg), .int (xs (nI i + 2).toNatClampNeg), .int (xs (nI i + 3).toNatClampNeg), .int (xs (nI i + 4).toNatClampNeg)] dL_law_425 kl_47 mvX8_act gk_0 rfl rfl rfl (Nat.le_of_ble_eq_true rfl) (by decide) hl.1 ?_
  refine (c_act (d := 0) hw hi.1).mono ?_
  intro v σ2 q
  obtain ⟨rfl, i2, f2⟩ := QU.ic hi q
  have t2 := ht.cl f2
  refine y_aload X (k := 2) (lv_at hl 1 rfl) dL_law_428 ?_
  refine y_aload X (k := 0) (lv_at hl 3 rfl) dL_law_429 ?_
  refine y_iload X (k := 3) (lv_at hl 0 rfl) dL_law_430 ?_
  refine y_iconst X (1) dL_law_431 (by decide) ?_
  refine y_iadd X dL_law_432 ?_
  refine y_sld X (l_in (j := 1) hb hL (by decide)) dL_law_433 ?_
  refine y_aload X (k := 0) (lv_at hl 3 rfl) dL_law_434 ?_
  refine y_iload X (k := 3) (lv_at hl 0 rfl) dL_law_435 ?_
  refine y_iconst X (2) dL_law_436 (by decide) ?_
  refine y_iadd X dL_law_437 ?_
  refine y_sld X (l_in (j := 2) hb hL (by decide)) dL_law_438 ?_
  refine y_aload X (k := 0) (lv_at hl 3 rfl) dL_law_439 ?_
  refine y_iload X (k := 3) (lv_at hl 0 rfl) dL_law_440 ?_
  refine y_iconst X (3) dL_law_441 (by decide) ?_
  refine y_iadd X dL_law_442 ?_
  refine y_sld X (l_in (j := 3) hb hL (by decide)) dL_law_443 ?_
  refine y_aload X (k := 0) (lv_at hl 3 rfl) dL_law_444 ?_
  refine y_iload X (k := 3) (lv_at hl 0 rfl) dL_law_445 ?_
  refine y_iconst X (4) dL_law_446 (by decide) ?_
  refine y_iadd X dL_law_447 ?_
  refine y_sld X (l_in (j := 4) hb hL (by decide)) dL_law_448 ?_
  refine y_call X (d2 := 2) (M2 := mX9_act) (k := 1) [.int (xs (nI i + 1).toNatClampNeg), .int (xs (nI i + 2).toNatClampNeg), .int (xs (nI i + 3).toNatClampNeg), .int (xs (nI i + 4).toNatClampNeg)] dL_law_449 kl_51 mvX9_act gk_1 rfl rfl rfl (Nat.le_of_ble_eq_true rfl) (by decide) hl.1 ?_
  refine (m_act (d := 0) hw t2).mono ?_
  intro v σ3 q
  obtain ⟨rfl, t3, f3⟩ := q
  exact y_eq X (tgt := 1386) dL_law_452 rfl (nx _ σ3 (w_act hw) (i2.mo f3) t3)
set_option maxRecDepth 20000 in
theorem q_back {D : va_G} {ad : Nat → Nat} {dA : Nat → ClassId} {p : Program} {l : Launch} {e : Env} {s : State} {m : MethodId} {args : Array Value} {below : List Frame} {meth : Method} {c : Code} {Q : State → Prop} {ls : Array Slot} {σ τ : gw_S} {b Lx i : Nat} {xs : Nat → Int32} (X : lX D ad dA p s m args c b Lx xs) (hw : WF τ) (hi : IC τ σ) (ht : TM τ σ) (hl : lv_has ls 4 [(3, .int (nI i)), (2, .ref (ad 1)), (1, .ref (ad 0)), (0, .ref b)]) (hb : i + 6 ≤ Lx) (hL : Lx ≤ 384) (nx : ∀ τ2 σ2, WF τ2 → IC τ2 σ2 → TM τ2 σ2 → lZ D ad dA p l e s m args below meth c Q 1386 ls [] σ2) : lZ D ad dA p l e s m args below meth c Q 457 ls [] σ := by
  refine y_aload X (k := 1) (lv_at hl 2 rfl) dL_law_457 ?_
  refine y_aload X (k := 0) (lv_at hl 3 rfl) dL_law_458 ?_
  refine y_iload X (k := 3) (lv_at hl 0 rfl) dL_law_459 ?_
  refine y_iconst X (1) dL_law_460 (by decide) ?_
  refine y_iadd X dL_law_461 ?_
  refine y_sld X (l_in (j := 1) hb hL (by decide)) dL_law_462 ?_
  refine y_call X (d2 := 1) (M2 := mX8_back) (k := 0) [.int (xs (nI i + 1).toNatClampNeg)] dL_law_463 kl_52 mvX8_back gk_0 rfl rfl rfl (Nat.le_of_ble_eq_true rfl) (by decide) hl.1 ?_
  refine (c_back (d := 0) hw hi.1).mono ?_
  intro v σ2 q
  obtain ⟨rfl, i2, f2⟩ := QU.ic hi q
  have t2 := ht.cl f2
  refine y_aload X (k := 2) (lv_at hl 1 rfl) dL_law_466 ?_
  refine y_aload X (k := 0) (lv_at hl 3 rfl) dL_law_467 ?_
  refine y_iload X (k := 3) (lv_at hl 0 rfl) dL_law_468 ?_
  refine y_iconst X (1) dL_law_469 (by decide) ?_
  refine y_iadd X dL_law_470 ?_
  refine y_sld X (l_in (j := 1) hb hL (by decide)) dL_law_471 ?_
  refine y_call X (d2 := 2) (M2 := mX9_back) (k := 1) [.int (xs (nI i + 1).toNatClampNeg)] dL_law_472 kl_55 mvX9_back gk_1 rfl rfl rfl (Nat.le_of_ble_eq_true rfl) (by decide) hl.1 ?_
  refine (m_back (d := 0) t2).mono ?_
  intro v σ3 q
  obtain ⟨rfl, t3, f3⟩ := q
  exact y_eq X (tgt := 1386) dL_law_475 rfl (nx _ σ3 (w_back hw) (i2.mo f3) t3)
set_option maxRecDepth 20000 in
theorem q_read {D : va_G} {ad : Nat → Nat} {dA : Nat → ClassId} {p : Program} {l : Launch} {e : Env} {s : State} {m : MethodId} {args : Array Value} {below : List Frame} {meth : Method} {c : Code} {Q : State → Prop} {ls : Array Slot} {σ τ : gw_S} {b Lx i : Nat} {xs : Nat → Int32} (X : lX D ad dA p s m args c b Lx xs) (hw : WF τ) (hi : IC τ σ) (ht : TM τ σ) (hl : lv_has ls 4 [(3, .int (nI i)), (2, .ref (ad 1)), (1, .ref (ad 0)), (0, .ref b)]) (hb : i + 6 ≤ Lx) (hL : Lx ≤ 384) (nx : ∀ τ2 σ2, WF τ2 → IC τ2 σ2 → TM τ2 σ2 → lZ D ad dA p l e s m args below meth c Q 1386 ls [] σ2) : lZ D ad dA p l e s m args below meth c Q 480 ls [] σ := by
  refine y_aload X (k := 1) (lv_at hl 2 rfl) dL_law_480 ?_
  refine y_aload X (k := 0) (lv_at hl 3 rfl) dL_law_481 ?_
  refine y_iload X (k := 3) (lv_at hl 0 rfl) dL_law_482 ?_
  refine y_iconst X (1) dL_law_483 (by decide) ?_
  refine y_iadd X dL_law_484 ?_
  refine y_sld X (l_in (j := 1) hb hL (by decide)) dL_law_485 ?_
  refine y_call X (d2 := 3) (M2 := mX8_read) (k := 0) [.int (xs (nI i + 1).toNatClampNeg)] dL_law_486 kl_56 mvX8_read gk_0 rfl rfl rfl (Nat.le_of_ble_eq_true rfl) (by decide) hl.1 ?_
  refine (c_read (d := 0) hw hi.1).mono ?_
  intro v σ2 q
  obtain ⟨rfl, i2, f2⟩ := QU.ic hi q
  have t2 := ht.cl f2
  refine y_aload X (k := 2) (lv_at hl 1 rfl) dL_law_489 ?_
  refine y_aload X (k := 0) (lv_at hl 3 rfl) dL_law_490 ?_
  refine y_iload X (k := 3) (lv_at hl 0 rfl) dL_law_491 ?_
  refine y_iconst X (1) dL_law_492 (by decide) ?_
  refine y_iadd X dL_law_493 ?_
  refine y_sld X (l_in (j := 1) hb hL (by decide)) dL_law_494 ?_
  refine y_call X (d2 := 3) (M2 := mX9_read) (k := 1) [.int (xs (nI i + 1).toNatClampNeg)] dL_law_495 kl_59 mvX9_read gk_1 rfl rfl rfl (Nat.le_of_ble_eq_true rfl) (by decide) hl.1 ?_
  refine (m_read (d := 0) hw t2).mono ?_
  intro v σ3 q
  obtain ⟨rfl, t3, f3⟩ := q
  exact y_eq X (tgt := 1386) dL_law_498 rfl (nx _ σ3 (w_read hw) (i2.mo f3) t3)
set_option maxRecDepth 20000 in
theorem q_holds {D : va_G} {ad : Nat → Nat} {dA : Nat → ClassId} {p : Program} {l : Launch} {e : Env} {s : State} {m : MethodId} {args : Array Value} {below : List Frame} {meth : Method} {c : Code} {Q : State → Prop} {ls : Array Slot} {σ τ : gw_S} {b Lx i : Nat} {xs : Nat → Int32} (X : lX D ad dA p s m args c b Lx xs) (hw : WF τ) (hi : IC τ σ) (ht : TM τ σ) (hl : lv_has ls 4 [(3, .int (nI i)), (2, .ref (ad 1)), (1, .ref (ad 0)), (0, .ref b)]) (hb : i + 6 ≤ Lx) (hL : Lx ≤ 384) (nx : ∀ τ2 σ2, WF τ2 → IC τ2 σ2 → TM τ2 σ2 → lZ D ad dA p l e s m args below meth c Q 1386 ls [] σ2) : lZ D ad dA p l e s m args below meth c Q 503 ls [] σ := by
  refine y_aload X (k := 1) (lv_at hl 2 rfl) dL_law_503 ?_
  refine y_aload X (k := 0) (lv_at hl 3 rfl) dL_law_504 ?_
  refine y_iload X (k := 3) (lv_at hl 0 rfl) dL_law_505 ?_
  refine y_iconst X (1) dL_law_506 (by decide) ?_
  refine y_iadd X dL_law_507 ?_
  refine y_sld X (l_in (j := 1) hb hL (by decide)) dL_law_508 ?_
  refine y_aload X (k := 0) (lv_at hl 3 rfl) dL_law_509 ?_
  refine y_iload X (k := 3) (lv_at hl 0 rfl) dL_law_510 ?_
  refine y_iconst X (2) dL_law_511 (by decide) ?_
  refine y_iadd X dL_law_512 ?_
  refine y_sld X (l_in (j := 2) hb hL (by decide)) dL_law_513 ?_
  refine y_aload X (k := 0) (lv_at hl 3 rfl) dL_law_514 ?_
  refine y_iload X (k := 3) (lv_at hl 0 rfl) dL_law_515 ?_
  refine y_iconst X (3) dL_law_516 (by decide) ?_
  refine y_iadd X dL_law_517 ?_
  refine y_sld X (l_in (j := 3) hb hL (by decide)) dL_law_518 ?_
  refine y_call X (d2 := 5) (M2 := mX8_holds) (k := 0) [.int (xs (nI i + 1).toNatClampNeg), .int (xs (nI i + 2).toNatClampNeg), .int (xs (nI i + 3).toNatClampNeg)] dL_law_519 kl_60 mvX8_holds gk_0 rfl rfl rfl (Nat.le_of_ble_eq_true rfl) (by decide) hl.1 ?_
  refine (c_holds (d := 0) hw hi.1 hi.2.1).mono ?_
  intro v σ2 q
  obtain ⟨rfl, i2, f2⟩ := QC.ic hi q
  have t2 := ht.cl f2
  refine y_aload X (k := 2) (lv_at hl 1 rfl) dL_law_522 ?_
  refine y_aload X (k := 0) (lv_at hl 3 rfl) dL_law_523 ?_
  refine y_iload X (k := 3) (lv_at hl 0 rfl) dL_law_524 ?_
  refine y_iconst X (1) dL_law_525 (by decide) ?_
  refine y_iadd X dL_law_526 ?_
  refine y_sld X (l_in (j := 1) hb hL (by decide)) dL_law_527 ?_
  refine y_aload X (k := 0) (lv_at hl 3 rfl) dL_law_528 ?_
  refine y_iload X (k := 3) (lv_at hl 0 rfl) dL_law_529 ?_
  refine y_iconst X (2) dL_law_530 (by decide) ?_
  refine y_iadd X dL_law_531 ?_
  refine y_sld X (l_in (j := 2) hb hL (by decide)) dL_law_532 ?_
  refine y_aload X (k := 0) (lv_at hl 3 rfl) dL_law_533 ?_
  refine y_iload X (k := 3) (lv_at hl 0 rfl) dL_law_534 ?_
  refine y_iconst X (3) dL_law_535 (by decide) ?_
  refine y_iadd X dL_law_536 ?_
  refine y_sld X (l_in (j := 3) hb hL (by decide)) dL_law_537 ?_
  refine y_call X (d2 := 8) (M2 := mX9_holds) (k := 1) [.int (xs (nI i + 1).toNatClampNeg), .int (xs (nI i + 2).toNatClampNeg), .int (xs (nI i + 3).toNatClampNeg)] dL_law_538 kl_64 mvX9_holds gk_1 rfl rfl rfl (Nat.le_of_ble_eq_true rfl) (by decide) hl.1 ?_
  refine (m_holds (d := 0) hw t2).mono ?_
  intro v σ3 q
  obtain ⟨rfl, t3, f3⟩ := QM.in q
  exact y_eq X (tgt := 1386) dL_law_541 rfl (nx _ σ3 (hw) (i2.mo f3) t3)
set_option maxRecDepth 20000 in
theorem q_who {D : va_G} {ad : Nat → Nat} {dA : Nat → ClassId} {p : Program} {l : Launch} {e : Env} {s : State} {m : MethodId} {args : Array Value} {below : List Frame} {meth : Method} {c : Code} {Q : State → Prop} {ls : Array Slot} {σ τ : gw_S} {b Lx i : Nat} {xs : Nat → Int32} (X : lX D ad dA p s m args c b Lx xs) (hw : WF τ) (hi : IC τ σ) (ht : TM τ σ) (hl : lv_has ls 4 [(3, .int (nI i)), (2, .ref (ad 1)), (1, .ref (ad 0)), (0, .ref b)]) (hb : i + 6 ≤ Lx) (hL : Lx ≤ 384) (nx : ∀ τ2 σ2, WF τ2 → IC τ2 σ2 → TM τ2 σ2 → lZ D ad dA p l e s m args below meth c Q 1386 ls [] σ2) : lZ D ad dA p l e s m args below meth c Q 546 ls [] σ := by
  refine y_aload X (k := 1) (lv_at hl 2 rfl) dL_law_546 ?_
  refine y_aload X (k := 0) (lv_at hl 3 rfl) dL_law_547 ?_
  refine y_iload X (k := 3) (lv_at hl 0 rfl) dL_law_548 ?_
  refine y_iconst X (1) dL_law_549 (by decide) ?_
  refine y_iadd X dL_law_550 ?_
  refine y_sld X (l_in (j := 1) hb hL (by decide)) dL_law_551 ?_
  refine y_aload X (k := 0) (lv_at hl 3 rfl) dL_law_552 ?_
  refine y_iload X (k := 3) (lv_at hl 0 rfl) dL_law_553 ?_
  refine y_iconst X (2) dL_law_554 (by decide) ?_
  refine y_iadd X dL_law_555 ?_
  refine y_sld X (l_in (j := 2) hb hL (by decide)) dL_law_556 ?_
  refine y_call X (d2 := 5) (M2 := mX8_who) (k := 0) [.int (xs (nI i + 1).toNatClampNeg), .int (xs (nI i + 2).toNatClampNeg)] dL_law_557 kl_65 mvX8_who gk_0 rfl rfl rfl (Nat.le_of_ble_eq_true rfl) (by decide) hl.1 ?_
  refine (c_who (d := 0) hw hi.1 hi.2.1).mono ?_
  intro v σ2 q
  obtain ⟨rfl, i2, f2⟩ := QC.ic hi q
  have t2 := ht.cl f2
  refine y_aload X (k := 2) (lv_at hl 1 rfl) dL_law_560 ?_
  refine y_aload X (k := 0) (lv_at hl 3 rfl) dL_law_561 ?_
  refine y_iload X (k := 3) (lv_at hl 0 rfl) dL_law_562 ?_
  refine y_iconst X (1) dL_law_563 (by decide) ?_
  refine y_iadd X dL_law_564 ?_
  refine y_sld X (l_in (j := 1) hb hL (by decide)) dL_law_565 ?_
  refine y_aload X (k := 0) (lv_at hl 3 rfl) dL_law_566 ?_
  refine y_iload X (k := 3) (lv_at hl 0 rfl) dL_law_567 ?_
  refine y_iconst X (2) dL_law_568 (by decide) ?_
  refine y_iadd X dL_law_569 ?_
  refine y_sld X (l_in (j := 2) hb hL (by decide)) dL_law_570 ?_
  refine y_call X (d2 := 8) (M2 := mX9_who) (k := 1) [.int (xs (nI i + 1).toNatClampNeg), .int (xs (nI i + 2).toNatClampNeg)] dL_law_571 kl_68 mvX9_who gk_1 rfl rfl rfl (Nat.le_of_ble_eq_true rfl) (by decide) hl.1 ?_
  refine (m_who (d := 0) hw t2).mono ?_
  intro v σ3 q
  obtain ⟨rfl, t3, f3⟩ := QM.in q
  exact y_eq X (tgt := 1386) dL_law_574 rfl (nx _ σ3 (hw) (i2.mo f3) t3)
set_option maxRecDepth 20000 in
theorem q_whole {D : va_G} {ad : Nat → Nat} {dA : Nat → ClassId} {p : Program} {l : Launch} {e : Env} {s : State} {m : MethodId} {args : Array Value} {below : List Frame} {meth : Method} {c : Code} {Q : State → Prop} {ls : Array Slot} {σ τ : gw_S} {b Lx i : Nat} {xs : Nat → Int32} (X : lX D ad dA p s m args c b Lx xs) (hw : WF τ) (hi : IC τ σ) (ht : TM τ σ) (hl : lv_has ls 4 [(3, .int (nI i)), (2, .ref (ad 1)), (1, .ref (ad 0)), (0, .ref b)]) (hb : i + 6 ≤ Lx) (hL : Lx ≤ 384) (nx : ∀ τ2 σ2, WF τ2 → IC τ2 σ2 → TM τ2 σ2 → lZ D ad dA p l e s m args below meth c Q 1386 ls [] σ2) : lZ D ad dA p l e s m args below meth c Q 579 ls [] σ := by
  refine y_aload X (k := 1) (lv_at hl 2 rfl) dL_law_579 ?_
  refine y_aload X (k := 0) (lv_at hl 3 rfl) dL_law_580 ?_
  refine y_iload X (k := 3) (lv_at hl 0 rfl) dL_law_581 ?_
  refine y_iconst X (1) dL_law_582 (by decide) ?_
  refine y_iadd X dL_law_583 ?_
  refine y_sld X (l_in (j := 1) hb hL (by decide)) dL_law_584 ?_
  refine y_aload X (k := 0) (lv_at hl 3 rfl) dL_law_585 ?_
  refine y_iload X (k := 3) (lv_at hl 0 rfl) dL_law_586 ?_
  refine y_iconst X (2) dL_law_587 (by decide) ?_
  refine y_iadd X dL_law_588 ?_
  refine y_sld X (l_in (j := 2) hb hL (by decide)) dL_law_589 ?_
  refine y_call X (d2 := 5) (M2 := mX8_whole) (k := 0) [.int (xs (nI i + 1).toNatClampNeg), .int (xs (nI i + 2).toNatClampNeg)] dL_law_590 kl_69 mvX8_whole gk_0 rfl rfl rfl (Nat.le_of_ble_eq_true rfl) (by decide) hl.1 ?_
  refine (c_whole (d := 0) hw hi.1 hi.2.1).mono ?_
  intro v σ2 q
  obtain ⟨rfl, i2, f2⟩ := QC.ic hi q
  have t2 := ht.cl f2
  refine y_aload X (k := 2) (lv_at hl 1 rfl) dL_law_593 ?_
  refine y_aload X (k := 0) (lv_at hl 3 rfl) dL_law_594 ?_
  refine y_iload X (k := 3) (lv_at hl 0 rfl) dL_law_595 ?_
  refine y_iconst X (1) dL_law_596 (by decide) ?_
  refine y_iadd X dL_law_597 ?_
  refine y_sld X (l_in (j := 1) hb hL (by decide)) dL_law_598 ?_
  refine y_aload X (k := 0) (lv_at hl 3 rfl) dL_law_599 ?_
  refine y_iload X (k := 3) (lv_at hl 0 rfl) dL_law_600 ?_
  refine y_iconst X (2) dL_law_601 (by decide) ?_
  refine y_iadd X dL_law_602 ?_
  refine y_sld X (l_in (j := 2) hb hL (by decide)) dL_law_603 ?_
  refine y_call X (d2 := 8) (M2 := mX9_whole) (k := 1) [.int (xs (nI i + 1).toNatClampNeg), .int (xs (nI i + 2).toNatClampNeg)] dL_law_604 kl_72 mvX9_whole gk_1 rfl rfl rfl (Nat.le_of_ble_eq_true rfl) (by decide) hl.1 ?_
  refine (m_whole (d := 0) hw t2).mono ?_
  intro v σ3 q
  obtain ⟨rfl, t3, f3⟩ := QM.in q
  exact y_eq X (tgt := 1386) dL_law_607 rfl (nx _ σ3 (hw) (i2.mo f3) t3)
set_option maxRecDepth 20000 in
theorem q_has {D : va_G} {ad : Nat → Nat} {dA : Nat → ClassId} {p : Program} {l : Launch} {e : Env} {s : State} {m : MethodId} {args : Array Value} {below : List Frame} {meth : Method} {c : Code} {Q : State → Prop} {ls : Array Slot} {σ τ : gw_S} {b Lx i : Nat} {xs : Nat → Int32} (X : lX D ad dA p s m args c b Lx xs) (hw : WF τ) (hi : IC τ σ) (ht : TM τ σ) (hl : lv_has ls 4 [(3, .int (nI i)), (2, .ref (ad 1)), (1, .ref (ad 0)), (0, .ref b)]) (hb : i + 6 ≤ Lx) (hL : Lx ≤ 384) (nx : ∀ τ2 σ2, WF τ2 → IC τ2 σ2 → TM τ2 σ2 → lZ D ad dA p l e s m args below meth c Q 1386 ls [] σ2) : lZ D ad dA p l e s m args below meth c Q 612 ls [] σ := by
  refine y_aload X (k := 1) (lv_at hl 2 rfl) dL_law_612 ?_
  refine y_aload X (k := 0) (lv_at hl 3 rfl) dL_law_613 ?_
  refine y_iload X (k := 3) (lv_at hl 0 rfl) dL_law_614 ?_
  refine y_iconst X (1) dL_law_615 (by decide) ?_
  refine y_iadd X dL_law_616 ?_
  refine y_sld X (l_in (j := 1) hb hL (by decide)) dL_law_617 ?_
  refine y_aload X (k := 0) (lv_at hl 3 rfl) dL_law_618 ?_
  refine y_iload X (k := 3) (lv_at hl 0 rfl) dL_law_619 ?_
  refine y_iconst X (2) dL_law_620 (by decide) ?_
  refine y_iadd X dL_law_621 ?_
  refine y_sld X (l_in (j := 2) hb hL (by decide)) dL_law_622 ?_
  refine y_call X (d2 := 5) (M2 := mX8_has) (k := 0) [.int (xs (nI i + 1).toNatClampNeg), .int (xs (nI i + 2).toNatClampNeg)] dL_law_623 kl_73 mvX8_has gk_0 rfl rfl rfl (Nat.le_of_ble_eq_true rfl) (by decide) hl.1 ?_
  refine (c_has (d := 0) hw hi.1 hi.2.1).mono ?_
  intro v σ2 q
  obtain ⟨rfl, i2, f2⟩ := QC.ic hi q
  have t2 := ht.cl f2
  refine y_aload X (k := 2) (lv_at hl 1 rfl) dL_law_626 ?_
  refine y_aload X (k := 0) (lv_at hl 3 rfl) dL_law_627 ?_
  refine y_iload X (k := 3) (lv_at hl 0 rfl) dL_law_628 ?_
  refine y_iconst X (1) dL_law_629 (by decide) ?_
  refine y_iadd X dL_law_630 ?_
  refine y_sld X (l_in (j := 1) hb hL (by decide)) dL_law_631 ?_
  refine y_aload X (k := 0) (lv_at hl 3 rfl) dL_law_632 ?_
  refine y_iload X (k := 3) (lv_at hl 0 rfl) dL_law_633 ?_
  refine y_iconst X (2) dL_law_634 (by decide) ?_
  refine y_iadd X dL_law_635 ?_
  refine y_sld X (l_in (j := 2) hb hL (by decide)) dL_law_636 ?_
  refine y_call X (d2 := 8) (M2 := mX9_has) (k := 1) [.int (xs (nI i + 1).toNatClampNeg), .int (xs (nI i + 2).toNatClampNeg)] dL_law_637 kl_76 mvX9_has gk_1 rfl rfl rfl (Nat.le_of_ble_eq_true rfl) (by decide) hl.1 ?_
  refine (m_has (d := 0) hw t2).mono ?_
  intro v σ3 q
  obtain ⟨rfl, t3, f3⟩ := QM.in q
  exact y_eq X (tgt := 1386) dL_law_640 rfl (nx _ σ3 (hw) (i2.mo f3) t3)
set_option maxRecDepth 20000 in
theorem q_heard {D : va_G} {ad : Nat → Nat} {dA : Nat → ClassId} {p : Program} {l : Launch} {e : Env} {s : State} {m : MethodId} {args : Array Value} {below : List Frame} {meth : Method} {c : Code} {Q : State → Prop} {ls : Array Slot} {σ τ : gw_S} {b Lx i : Nat} {xs : Nat → Int32} (X : lX D ad dA p s m args c b Lx xs) (hw : WF τ) (hi : IC τ σ) (ht : TM τ σ) (hl : lv_has ls 4 [(3, .int (nI i)), (2, .ref (ad 1)), (1, .ref (ad 0)), (0, .ref b)]) (hb : i + 6 ≤ Lx) (hL : Lx ≤ 384) (nx : ∀ τ2 σ2, WF τ2 → IC τ2 σ2 → TM τ2 σ2 → lZ D ad dA p l e s m args below meth c Q 1386 ls [] σ2) : lZ D ad dA p l e s m args below meth c Q 645 ls [] σ := by
  refine y_aload X (k := 1) (lv_at hl 2 rfl) dL_law_645 ?_
  refine y_aload X (k := 0) (lv_at hl 3 rfl) dL_law_646 ?_
  refine y_iload X (k := 3) (lv_at hl 0 rfl) dL_law_647 ?_
  refine y_iconst X (1) dL_law_648 (by decide) ?_
  refine y_iadd X dL_law_649 ?_
  refine y_sld X (l_in (j := 1) hb hL (by decide)) dL_law_650 ?_
  refine y_aload X (k := 0) (lv_at hl 3 rfl) dL_law_651 ?_
  refine y_iload X (k := 3) (lv_at hl 0 rfl) dL_law_652 ?_
  refine y_iconst X (2) dL_law_653 (by decide) ?_
  refine y_iadd X dL_law_654 ?_
  refine y_sld X (l_in (j := 2) hb hL (by decide)) dL_law_655 ?_
  refine y_call X (d2 := 5) (M2 := mX8_heard) (k := 0) [.int (xs (nI i + 1).toNatClampNeg), .int (xs (nI i + 2).toNatClampNeg)] dL_law_656 kl_77 mvX8_heard gk_0 rfl rfl rfl (Nat.le_of_ble_eq_true rfl) (by decide) hl.1 ?_
  refine (c_heard (d := 0) hw hi.1 hi.2.1).mono ?_
  intro v σ2 q
  obtain ⟨rfl, i2, f2⟩ := QC.ic hi q
  have t2 := ht.cl f2
  refine y_aload X (k := 2) (lv_at hl 1 rfl) dL_law_659 ?_
  refine y_aload X (k := 0) (lv_at hl 3 rfl) dL_law_660 ?_
  refine y_iload X (k := 3) (lv_at hl 0 rfl) dL_law_661 ?_
  refine y_iconst X (1) dL_law_662 (by decide) ?_
  refine y_iadd X dL_law_663 ?_
  refine y_sld X (l_in (j := 1) hb hL (by decide)) dL_law_664 ?_
  refine y_aload X (k := 0) (lv_at hl 3 rfl) dL_law_665 ?_
  refine y_iload X (k := 3) (lv_at hl 0 rfl) dL_law_666 ?_
  refine y_iconst X (2) dL_law_667 (by decide) ?_
  refine y_iadd X dL_law_668 ?_
  refine y_sld X (l_in (j := 2) hb hL (by decide)) dL_law_669 ?_
  refine y_call X (d2 := 8) (M2 := mX9_heard) (k := 1) [.int (xs (nI i + 1).toNatClampNeg), .int (xs (nI i + 2).toNatClampNeg)] dL_law_670 kl_80 mvX9_heard gk_1 rfl rfl rfl (Nat.le_of_ble_eq_true rfl) (by decide) hl.1 ?_
  refine (m_heard (d := 0) hw t2).mono ?_
  intro v σ3 q
  obtain ⟨rfl, t3, f3⟩ := QM.in q
  exact y_eq X (tgt := 1386) dL_law_673 rfl (nx _ σ3 (hw) (i2.mo f3) t3)
set_option maxRecDepth 20000 in
theorem q_spilled {D : va_G} {ad : Nat → Nat} {dA : Nat → ClassId} {p : Program} {l : Launch} {e : Env} {s : State} {m : MethodId} {args : Array Value} {below : List Frame} {meth : Method} {c : Code} {Q : State → Prop} {ls : Array Slot} {σ τ : gw_S} {b Lx i : Nat} {xs : Nat → Int32} (X : lX D ad dA p s m args c b Lx xs) (hw : WF τ) (hi : IC τ σ) (ht : TM τ σ) (hl : lv_has ls 4 [(3, .int (nI i)), (2, .ref (ad 1)), (1, .ref (ad 0)), (0, .ref b)]) (hb : i + 6 ≤ Lx) (hL : Lx ≤ 384) (nx : ∀ τ2 σ2, WF τ2 → IC τ2 σ2 → TM τ2 σ2 → lZ D ad dA p l e s m args below meth c Q 1386 ls [] σ2) : lZ D ad dA p l e s m args below meth c Q 678 ls [] σ := by
  refine y_aload X (k := 1) (lv_at hl 2 rfl) dL_law_678 ?_
  refine y_aload X (k := 0) (lv_at hl 3 rfl) dL_law_679 ?_
  refine y_iload X (k := 3) (lv_at hl 0 rfl) dL_law_680 ?_
  refine y_iconst X (1) dL_law_681 (by decide) ?_
  refine y_iadd X dL_law_682 ?_
  refine y_sld X (l_in (j := 1) hb hL (by decide)) dL_law_683 ?_
  refine y_aload X (k := 0) (lv_at hl 3 rfl) dL_law_684 ?_
  refine y_iload X (k := 3) (lv_at hl 0 rfl) dL_law_685 ?_
  refine y_iconst X (2) dL_law_686 (by decide) ?_
  refine y_iadd X dL_law_687 ?_
  refine y_sld X (l_in (j := 2) hb hL (by decide)) dL_law_688 ?_
  refine y_call X (d2 := 5) (M2 := mX8_spilled) (k := 0) [.int (xs (nI i + 1).toNatClampNeg), .int (xs (nI i + 2).toNatClampNeg)] dL_law_689 kl_81 mvX8_spilled gk_0 rfl rfl rfl (Nat.le_of_ble_eq_true rfl) (by decide) hl.1 ?_
  refine (c_spilled (d := 0) hw hi.1 hi.2.1).mono ?_
  intro v σ2 q
  obtain ⟨rfl, i2, f2⟩ := QC.ic hi q
  have t2 := ht.cl f2
  refine y_aload X (k := 2) (lv_at hl 1 rfl) dL_law_692 ?_
  refine y_aload X (k := 0) (lv_at hl 3 rfl) dL_law_693 ?_
  refine y_iload X (k := 3) (lv_at hl 0 rfl) dL_law_694 ?_
  refine y_iconst X (1) dL_law_695 (by decide) ?_
  refine y_iadd X dL_law_696 ?_
  refine y_sld X (l_in (j := 1) hb hL (by decide)) dL_law_697 ?_
  refine y_aload X (k := 0) (lv_at hl 3 rfl) dL_law_698 ?_
  refine y_iload X (k := 3) (lv_at hl 0 rfl) dL_law_699 ?_
  refine y_iconst X (2) dL_law_700 (by decide) ?_
  refine y_iadd X dL_law_701 ?_
  refine y_sld X (l_in (j := 2) hb hL (by decide)) dL_law_702 ?_
  refine y_call X (d2 := 8) (M2 := mX9_spilled) (k := 1) [.int (xs (nI i + 1).toNatClampNeg), .int (xs (nI i + 2).toNatClampNeg)] dL_law_703 kl_84 mvX9_spilled gk_1 rfl rfl rfl (Nat.le_of_ble_eq_true rfl) (by decide) hl.1 ?_
  refine (m_spilled (d := 0) hw t2).mono ?_
  intro v σ3 q
  obtain ⟨rfl, t3, f3⟩ := QM.in q
  exact y_eq X (tgt := 1386) dL_law_706 rfl (nx _ σ3 (hw) (i2.mo f3) t3)
set_option maxRecDepth 20000 in
theorem q_leaked {D : va_G} {ad : Nat → Nat} {dA : Nat → ClassId} {p : Program} {l : Launch} {e : Env} {s : State} {m : MethodId} {args : Array Value} {below : List Frame} {meth : Method} {c : Code} {Q : State → Prop} {ls : Array Slot} {σ τ : gw_S} {b Lx i : Nat} {xs : Nat → Int32} (X : lX D ad dA p s m args c b Lx xs) (hw : WF τ) (hi : IC τ σ) (ht : TM τ σ) (hl : lv_has ls 4 [(3, .int (nI i)), (2, .ref (ad 1)), (1, .ref (ad 0)), (0, .ref b)]) (hb : i + 6 ≤ Lx) (hL : Lx ≤ 384) (nx : ∀ τ2 σ2, WF τ2 → IC τ2 σ2 → TM τ2 σ2 → lZ D ad dA p l e s m args below meth c Q 1386 ls [] σ2) : lZ D ad dA p l e s m args below meth c Q 711 ls [] σ := by
  refine y_aload X (k := 1) (lv_at hl 2 rfl) dL_law_711 ?_
  refine y_aload X (k := 0) (lv_at hl 3 rfl) dL_law_712 ?_
  refine y_iload X (k := 3) (lv_at hl 0 rfl) dL_law_713 ?_
  refine y_iconst X (1) dL_law_714 (by decide) ?_
  refine y_iadd X dL_law_715 ?_
  refine y_sld X (l_in (j := 1) hb hL (by decide)) dL_law_716 ?_
  refine y_call X (d2 := 5) (M2 := mX8_leaked) (k := 0) [.int (xs (nI i + 1).toNatClampNeg)] dL_law_717 kl_85 mvX8_leaked gk_0 rfl rfl rfl (Nat.le_of_ble_eq_true rfl) (by decide) hl.1 ?_
  refine (c_leaked (d := 0) hw hi.1 hi.2.1).mono ?_
  intro v σ2 q
  obtain ⟨rfl, i2, f2⟩ := QC.ic hi q
  have t2 := ht.cl f2
  refine y_aload X (k := 2) (lv_at hl 1 rfl) dL_law_720 ?_
  refine y_aload X (k := 0) (lv_at hl 3 rfl) dL_law_721 ?_
  refine y_iload X (k := 3) (lv_at hl 0 rfl) dL_law_722 ?_
  refine y_iconst X (1) dL_law_723 (by decide) ?_
  refine y_iadd X dL_law_724 ?_
  refine y_sld X (l_in (j := 1) hb hL (by decide)) dL_law_725 ?_
  refine y_call X (d2 := 8) (M2 := mX9_leaked) (k := 1) [.int (xs (nI i + 1).toNatClampNeg)] dL_law_726 kl_88 mvX9_leaked gk_1 rfl rfl rfl (Nat.le_of_ble_eq_true rfl) (by decide) hl.1 ?_
  refine (m_leaked (d := 0) hw t2).mono ?_
  intro v σ3 q
  obtain ⟨rfl, t3, f3⟩ := QM.in q
  exact y_eq X (tgt := 1386) dL_law_729 rfl (nx _ σ3 (hw) (i2.mo f3) t3)
set_option maxRecDepth 20000 in
theorem q_lost {D : va_G} {ad : Nat → Nat} {dA : Nat → ClassId} {p : Program} {l : Launch} {e : Env} {s : State} {m : MethodId} {args : Array Value} {below : List Frame} {meth : Method} {c : Code} {Q : State → Prop} {ls : Array Slot} {σ τ : gw_S} {b Lx i : Nat} {xs : Nat → Int32} (X : lX D ad dA p s m args c b Lx xs) (hw : WF τ) (hi : IC τ σ) (ht : TM τ σ) (hl : lv_has ls 4 [(3, .int (nI i)), (2, .ref (ad 1)), (1, .ref (ad 0)), (0, .ref b)]) (hb : i + 6 ≤ Lx) (hL : Lx ≤ 384) (nx : ∀ τ2 σ2, WF τ2 → IC τ2 σ2 → TM τ2 σ2 → lZ D ad dA p l e s m args below meth c Q 1386 ls [] σ2) : lZ D ad dA p l e s m args below meth c Q 734 ls [] σ := by
  refine y_aload X (k := 1) (lv_at hl 2 rfl) dL_law_734 ?_
  refine y_aload X (k := 0) (lv_at hl 3 rfl) dL_law_735 ?_
  refine y_iload X (k := 3) (lv_at hl 0 rfl) dL_law_736 ?_
  refine y_iconst X (1) dL_law_737 (by decide) ?_
  refine y_iadd X dL_law_738 ?_
  refine y_sld X (l_in (j := 1) hb hL (by decide)) dL_law_739 ?_
  refine y_call X (d2 := 5) (M2 := mX8_lost) (k := 0) [.int (xs (nI i + 1).toNatClampNeg)] dL_law_740 kl_89 mvX8_lost gk_0 rfl rfl rfl (Nat.le_of_ble_eq_true rfl) (by decide) hl.1 ?_
  refine (c_lost (d := 0) hw hi.1 hi.2.1).mono ?_
  intro v σ2 q
  obtain ⟨rfl, i2, f2⟩ := QC.ic hi q
  have t2 := ht.cl f2
  refine y_aload X (k := 2) (lv_at hl 1 rfl) dL_law_743 ?_
  refine y_aload X (k := 0) (lv_at hl 3 rfl) dL_law_744 ?_
  refine y_iload X (k := 3) (lv_at hl 0 rfl) dL_law_745 ?_
  refine y_iconst X (1) dL_law_746 (by decide) ?_
  refine y_iadd X dL_law_747 ?_
  refine y_sld X (l_in (j := 1) hb hL (by decide)) dL_law_748 ?_
  refine y_call X (d2 := 8) (M2 := mX9_lost) (k := 1) [.int (xs (nI i + 1).toNatClampNeg)] dL_law_749 kl_92 mvX9_lost gk_1 rfl rfl rfl (Nat.le_of_ble_eq_true rfl) (by decide) hl.1 ?_
  refine (m_lost (d := 0) hw t2).mono ?_
  intro v σ3 q
  obtain ⟨rfl, t3, f3⟩ := QM.in q
  exact y_eq X (tgt := 1386) dL_law_752 rfl (nx _ σ3 (hw) (i2.mo f3) t3)
set_option maxRecDepth 20000 in
theorem q_works {D : va_G} {ad : Nat → Nat} {dA : Nat → ClassId} {p : Program} {l : Launch} {e : Env} {s : State} {m : MethodId} {args : Array Value} {below : List Frame} {meth : Method} {c : Code} {Q : State → Prop} {ls : Array Slot} {σ τ : gw_S} {b Lx i : Nat} {xs : Nat → Int32} (X : lX D ad dA p s m args c b Lx xs) (hw : WF τ) (hi : IC τ σ) (ht : TM τ σ) (hl : lv_has ls 4 [(3, .int (nI i)), (2, .ref (ad 1)), (1, .ref (ad 0)), (0, .ref b)]) (hb : i + 6 ≤ Lx) (hL : Lx ≤ 384) (nx : ∀ τ2 σ2, WF τ2 → IC τ2 σ2 → TM τ2 σ2 → lZ D ad dA p l e s m args below meth c Q 1386 ls [] σ2) : lZ D ad dA p l e s m args below meth c Q 757 ls [] σ := by
  refine y_aload X (k := 1) (lv_at hl 2 rfl) dL_law_757 ?_
  refine y_aload X (k := 0) (lv_at hl 3 rfl) dL_law_758 ?_
  refine y_iload X (k := 3) (lv_at hl 0 rfl) dL_law_759 ?_
  refine y_iconst X (1) dL_law_760 (by decide) ?_
  refine y_iadd X dL_law_761 ?_
  refine y_sld X (l_in (j := 1) hb hL (by decide)) dL_law_762 ?_
  refine y_call X (d2 := 5) (M2 := mX8_works) (k := 0) [.int (xs (nI i + 1).toNatClampNeg)] dL_law_763 kl_93 mvX8_works gk_0 rfl rfl rfl (Nat.le_of_ble_eq_true rfl) (by decide) hl.1 ?_
  refine (c_works (d := 0) hw hi.1 hi.2.1).mono ?_
  intro v σ2 q
  obtain ⟨rfl, i2, f2⟩ := QC.ic hi q
  have t2 := ht.cl f2
  refine y_aload X (k := 2) (lv_at hl 1 rfl) dL_law_766 ?_
  refine y_aload X (k := 0) (lv_at hl 3 rfl) dL_law_767 ?_
  refine y_iload X (k := 3) (lv_at hl 0 rfl) dL_law_768 ?_
  refine y_iconst X (1) dL_law_769 (by decide) ?_
  refine y_iadd X dL_law_770 ?_
  refine y_sld X (l_in (j := 1) hb hL (by decide)) dL_law_771 ?_
  refine y_call X (d2 := 8) (M2 := mX9_works) (k := 1) [.int (xs (nI i + 1).toNatClampNeg)] dL_law_772 kl_96 mvX9_works gk_1 rfl rfl rfl (Nat.le_of_ble_eq_true rfl) (by decide) hl.1 ?_
  refine (m_works (d := 0) hw t2).mono ?_
  intro v σ3 q
  obtain ⟨rfl, t3, f3⟩ := QM.in q
  exact y_eq X (tgt := 1386) dL_law_775 rfl (nx _ σ3 (hw) (i2.mo f3) t3)
set_option maxRecDepth 20000 in
theorem q_sing {D : va_G} {ad : Nat → Nat} {dA : Nat → ClassId} {p : Program} {l : Launch} {e : Env} {s : State} {m : MethodId} {args : Array Value} {below : List Frame} {meth : Method} {c : Code} {Q : State → Prop} {ls : Array Slot} {σ τ : gw_S} {b Lx i : Nat} {xs : Nat → Int32} (X : lX D ad dA p s m args c b Lx xs) (hw : WF τ) (hi : IC τ σ) (ht : TM τ σ) (hl : lv_has ls 4 [(3, .int (nI i)), (2, .ref (ad 1)), (1, .ref (ad 0)), (0, .ref b)]) (hb : i + 6 ≤ Lx) (hL : Lx ≤ 384) (nx : ∀ τ2 σ2, WF τ2 → IC τ2 σ2 → TM τ2 σ2 → lZ D ad dA p l e s m args below meth c Q 1386 ls [] σ2) : lZ D ad dA p l e s m args below meth c Q 780 ls [] σ := by
  refine y_aload X (k := 1) (lv_at hl 2 rfl) dL_law_780 ?_
  refine y_aload X (k := 0) (lv_at hl 3 rfl) dL_law_781 ?_
  refine y_iload X (k := 3) (lv_at hl 0 rfl) dL_law_782 ?_
  refine y_iconst X (1) dL_law_783 (by decide) ?_
  refine y_iadd X dL_law_784 ?_
  refine y_sld X (l_in (j := 1) hb hL (by decide)) dL_law_785 ?_
  refine y_aload X (k := 0) (lv_at hl 3 rfl) dL_law_786 ?_
  refine y_iload X (k := 3) (lv_at hl 0 rfl) dL_law_787 ?_
  refine y_iconst X (2) dL_law_788 (by decide) ?_
  refine y_iadd X dL_law_789 ?_
  refine y_sld X (l_in (j := 2) hb hL (by decide)) dL_law_790 ?_
  refine y_call X (d2 := 12) (M2 := mX8_sing) (k := 0) [.int (xs (nI i + 1).toNatClampNeg), .int (xs (nI i + 2).toNatClampNeg)] dL_law_791 kl_97 mvX8_sing gk_0 rfl rfl rfl (Nat.le_of_ble_eq_true rfl) (by decide) hl.1 ?_
  refine (c_sing (d := 0) hw hi.1 hi.2.1).mono ?_
  intro v σ2 q
  obtain ⟨rfl, i2, f2⟩ := QX.ic hi q
  have t2 := ht.cl f2
  refine y_aload X (k := 2) (lv_at hl 1 rfl) dL_law_794 ?_
  refine y_aload X (k := 0) (lv_at hl 3 rfl) dL_law_795 ?_
  refine y_iload X (k := 3) (lv_at hl 0 rfl) dL_law_796 ?_
  refine y_iconst X (1) dL_law_797 (by decide) ?_
  refine y_iadd X dL_law_798 ?_
  refine y_sld X (l_in (j := 1) hb hL (by decide)) dL_law_799 ?_
  refine y_aload X (k := 0) (lv_at hl 3 rfl) dL_law_800 ?_
  refine y_iload X (k := 3) (lv_at hl 0 rfl) dL_law_801 ?_
  refine y_iconst X (2) dL_law_802 (by decide) ?_
  refine y_iadd X dL_law_803 ?_
  refine y_sld X (l_in (j := 2) hb hL (by decide)) dL_law_804 ?_
  refine y_call X (d2 := 8) (M2 := mX9_sing) (k := 1) [.int (xs (nI i + 1).toNatClampNeg), .int (xs (nI i + 2).toNatClampNeg)] dL_law_805 kl_100 mvX9_sing gk_1 rfl rfl rfl (Nat.le_of_ble_eq_true rfl) (by decide) hl.1 ?_
  refine (m_sing (d := 0) hw t2).mono ?_
  intro v σ3 q
  obtain ⟨rfl, t3, f3⟩ := QM.in q
  exact y_eq X (tgt := 1386) dL_law_808 rfl (nx _ σ3 (hw) (i2.mo f3) t3)
set_option maxRecDepth 20000 in
theorem q_corks {D : va_G} {ad : Nat → Nat} {dA : Nat → ClassId} {p : Program} {l : Launch} {e : Env} {s : State} {m : MethodId} {args : Array Value} {below : List Frame} {meth : Method} {c : Code} {Q : State → Prop} {ls : Array Slot} {σ τ : gw_S} {b Lx i : Nat} {xs : Nat → Int32} (X : lX D ad dA p s m args c b Lx xs) (hw : WF τ) (hi : IC τ σ) (ht : TM τ σ) (hl : lv_has ls 4 [(3, .int (nI i)), (2, .ref (ad 1)), (1, .ref (ad 0)), (0, .ref b)]) (hb : i + 6 ≤ Lx) (hL : Lx ≤ 384) (nx : ∀ τ2 σ2, WF τ2 → IC τ2 σ2 → TM τ2 σ2 → lZ D ad dA p l e s m args below meth c Q 1386 ls [] σ2) : lZ D ad dA p l e s m args below meth c Q 813 ls [] σ := by
  refine y_aload X (k := 1) (lv_at hl 2 rfl) dL_law_813 ?_
  refine y_aload X (k := 0) (lv_at hl 3 rfl) dL_law_814 ?_
  refine y_iload X (k := 3) (lv_at hl 0 rfl) dL_law_815 ?_
  refine y_iconst X (1) dL_law_816 (by decide) ?_
  refine y_iadd X dL_law_817 ?_
  refine y_sld X (l_in (j := 1) hb hL (by decide)) dL_law_818 ?_
  refine y_aload X (k := 0) (lv_at hl 3 rfl) dL_law_819 ?_
  refine y_iload X (k := 3) (lv_at hl 0 rfl) dL_law_820 ?_
  refine y_iconst X (2) dL_law_821 (by decide) ?_
  refine y_iadd X dL_law_822 ?_
  refine y_sld X (l_in (j := 2) hb hL (by decide)) dL_law_823 ?_
  refine y_call X (d2 := 13) (M2 := mX8_corks) (k := 0) [.int (xs (nI i + 1).toNatClampNeg), .int (xs (nI i + 2).toNatClampNeg)] dL_law_824 kl_101 mvX8_corks gk_0 rfl rfl rfl (Nat.le_of_ble_eq_true rfl) (by decide) hl.1 ?_
  refine (c_corks (d := 0) hw hi.1 hi.2.1 hi.2.2).mono ?_
  intro v σ2 q
  obtain ⟨rfl, i2, f2⟩ := QK.ic q
  have t2 := ht.cl f2
  refine y_aload X (k := 2) (lv_at hl 1 rfl) dL_law_827 ?_
  refine y_aload X (k := 0) (lv_at hl 3 rfl) dL_law_828 ?_
  refine y_iload X (k := 3) (lv_at hl 0 rfl) dL_law_829 ?_
  refine y_iconst X (1) dL_law_830 (by decide) ?_
  refine y_iadd X dL_law_831 ?_
  refine y_sld X (l_in (j := 1) hb hL (by decide)) dL_law_832 ?_
  refine y_aload X (k := 0) (lv_at hl 3 rfl) dL_law_833 ?_
  refine y_iload X (k := 3) (lv_at hl 0 rfl) dL_law_834 ?_
  refine y_iconst X (2) dL_law_835 (by decide) ?_
  refine y_iadd X dL_law_836 ?_
  refine y_sld X (l_in (j := 2) hb hL (by decide)) dL_law_837 ?_
  refine y_call X (d2 := 7) (M2 := mX9_corks) (k := 1) [.int (xs (nI i + 1).toNatClampNeg), .int (xs (nI i + 2).toNatClampNeg)] dL_law_838 kl_104 mvX9_corks gk_1 rfl rfl rfl (Nat.le_of_ble_eq_true rfl) (by decide) hl.1 ?_
  refine (m_corks (d := 0) hw t2).mono ?_
  intro v σ3 q
  obtain ⟨rfl, t3, f3⟩ := QM.in q
  exact y_eq X (tgt := 1386) dL_law_841 rfl (nx _ σ3 (hw) (i2.mo f3) t3)
set_option maxRecDepth 20000 in
theorem q_most {D : va_G} {ad : Nat → Nat} {dA : Nat → ClassId} {p : Program} {l : Launch} {e : Env} {s : State} {m : MethodId} {args : Array Value} {below : List Frame} {meth : Method} {c : Code} {Q : State → Prop} {ls : Array Slot} {σ τ : gw_S} {b Lx i : Nat} {xs : Nat → Int32} (X : lX D ad dA p s m args c b Lx xs) (hw : WF τ) (hi : IC τ σ) (ht : TM τ σ) (hl : lv_has ls 4 [(3, .int (nI i)), (2, .ref (ad 1)), (1, .ref (ad 0)), (0, .ref b)]) (hb : i + 6 ≤ Lx) (hL : Lx ≤ 384) (nx : ∀ τ2 σ2, WF τ2 → IC τ2 σ2 → TM τ2 σ2 → lZ D ad dA p l e s m args below meth c Q 1386 ls [] σ2) : lZ D ad dA p l e s m args below meth c Q 846 ls [] σ := by
  refine y_aload X (k := 1) (lv_at hl 2 rfl) dL_law_846 ?_
  refine y_aload X (k := 0) (lv_at hl 3 rfl) dL_law_847 ?_
  refine y_iload X (k := 3) (lv_at hl 0 rfl) dL_law_848 ?_
  refine y_iconst X (1) dL_law_849 (by decide) ?_
  refine y_iadd X dL_law_850 ?_
  refine y_sld X (l_in (j := 1) hb hL (by decide)) dL_law_851 ?_
  refine y_aload X (k := 0) (lv_at hl 3 rfl) dL_law_852 ?_
  refine y_iload X (k := 3) (lv_at hl 0 rfl) dL_law_853 ?_
  refine y_iconst X (2) dL_law_854 (by decide) ?_
  refine y_iadd X dL_law_855 ?_
  refine y_sld X (l_in (j := 2) hb hL (by decide)) dL_law_856 ?_
  refine y_call X (d2 := 5) (M2 := mX8_most) (k := 0) [.int (xs (nI i + 1).toNatClampNeg), .int (xs (nI i + 2).toNatClampNeg)] dL_law_857 kl_105 mvX8_most gk_0 rfl rfl rfl (Nat.le_of_ble_eq_true rfl) (by decide) hl.1 ?_
  refine (c_most (d := 0) hw hi.1 hi.2.1).mono ?_
  intro v σ2 q
  obtain ⟨rfl, i2, f2⟩ := QC.ic hi q
  have t2 := ht.cl f2
  refine y_aload X (k := 2) (lv_at hl 1 rfl) dL_law_860 ?_
  refine y_aload X (k := 0) (lv_at hl 3 rfl) dL_law_861 ?_
  refine y_iload X (k := 3) (lv_at hl 0 rfl) dL_law_862 ?_
  refine y_iconst X (1) dL_law_863 (by decide) ?_
  refine y_iadd X dL_law_864 ?_
  refine y_sld X (l_in (j := 1) hb hL (by decide)) dL_law_865 ?_
  refine y_aload X (k := 0) (lv_at hl 3 rfl) dL_law_866 ?_
  refine y_iload X (k := 3) (lv_at hl 0 rfl) dL_law_867 ?_
  refine y_iconst X (2) dL_law_868 (by decide) ?_
  refine y_iadd X dL_law_869 ?_
  refine y_sld X (l_in (j := 2) hb hL (by decide)) dL_law_870 ?_
  refine y_call X (d2 := 8) (M2 := mX9_most) (k := 1) [.int (xs (nI i + 1).toNatClampNeg), .int (xs (nI i + 2).toNatClampNeg)] dL_law_871 kl_108 mvX9_most gk_1 rfl rfl rfl (Nat.le_of_ble_eq_true rfl) (by decide) hl.1 ?_
  refine (m_most (d := 0) hw t2).mono ?_
  intro v σ3 q
  obtain ⟨rfl, t3, f3⟩ := QM.in q
  exact y_eq X (tgt := 1386) dL_law_874 rfl (nx _ σ3 (hw) (i2.mo f3) t3)
set_option maxRecDepth 20000 in
theorem q_weighed {D : va_G} {ad : Nat → Nat} {dA : Nat → ClassId} {p : Program} {l : Launch} {e : Env} {s : State} {m : MethodId} {args : Array Value} {below : List Frame} {meth : Method} {c : Code} {Q : State → Prop} {ls : Array Slot} {σ τ : gw_S} {b Lx i : Nat} {xs : Nat → Int32} (X : lX D ad dA p s m args c b Lx xs) (hw : WF τ) (hi : IC τ σ) (ht : TM τ σ) (hl : lv_has ls 4 [(3, .int (nI i)), (2, .ref (ad 1)), (1, .ref (ad 0)), (0, .ref b)]) (hb : i + 6 ≤ Lx) (hL : Lx ≤ 384) (nx : ∀ τ2 σ2, WF τ2 → IC τ2 σ2 → TM τ2 σ2 → lZ D ad dA p l e s m args below meth c Q 1386 ls [] σ2) : lZ D ad dA p l e s m args below meth c Q 879 ls [] σ := by
  refine y_aload X (k := 1) (lv_at hl 2 rfl) dL_law_879 ?_
  refine y_aload X (k := 0) (lv_at hl 3 rfl) dL_law_880 ?_
  refine y_iload X (k := 3) (lv_at hl 0 rfl) dL_law_881 ?_
  refine y_iconst X (1) dL_law_882 (by decide) ?_
  refine y_iadd X dL_law_883 ?_
  refine y_sld X (l_in (j := 1) hb hL (by decide)) dL_law_884 ?_
  refine y_aload X (k := 0) (lv_at hl 3 rfl) dL_law_885 ?_
  refine y_iload X (k := 3) (lv_at hl 0 rfl) dL_law_886 ?_
  refine y_iconst X (2) dL_law_887 (by decide) ?_
  refine y_iadd X dL_law_888 ?_
  refine y_sld X (l_in (j := 2) hb hL (by decide)) dL_law_889 ?_
  refine y_aload X (k := 0) (lv_at hl 3 rfl) dL_law_890 ?_
  refine y_iload X (k := 3) (lv_at hl 0 rfl) dL_law_891 ?_
  refine y_iconst X (3) dL_law_892 (by decide) ?_
  refine y_iadd X dL_law_893 ?_
  refine y_sld X (l_in (j := 3) hb hL (by decide)) dL_law_894 ?_
  refine y_call X (d2 := 1) (M2 := mX8_weighed) (k := 0) [.int (xs (nI i + 1).toNatClampNeg), .int (xs (nI i + 2).toNatClampNeg), .int (xs (nI i + 3).toNatClampNeg)] dL_law_895 kl_109 mvX8_weighed gk_0 rfl rfl rfl (Nat.le_of_ble_eq_true rfl) (by decide) hl.1 ?_
  refine (c_weighed (d := 0) hw hi.1).mono ?_
  intro v σ2 q
  obtain ⟨rfl, i2, f2⟩ := QU.ic hi q
  have t2 := ht.cl f2
  refine y_aload X (k := 2) (lv_at hl 1 rfl) dL_law_898 ?_
  refine y_aload X (k := 0) (lv_at hl 3 rfl) dL_law_899 ?_
  refine y_iload X (k := 3) (lv_at hl 0 rfl) dL_law_900 ?_
  refine y_iconst X (1) dL_law_901 (by decide) ?_
  refine y_iadd X dL_law_902 ?_
  refine y_sld X (l_in (j := 1) hb hL (by decide)) dL_law_903 ?_
  refine y_aload X (k := 0) (lv_at hl 3 rfl) dL_law_904 ?_
  refine y_iload X (k := 3) (lv_at hl 0 rfl) dL_law_905 ?_
  refine y_iconst X (2) dL_law_906 (by decide) ?_
  refine y_iadd X dL_law_907 ?_
  refine y_sld X (l_in (j := 2) hb hL (by decide)) dL_law_908 ?_
  refine y_aload X (k := 0) (lv_at hl 3 rfl) dL_law_909 ?_
  refine y_iload X (k := 3) (lv_at hl 0 rfl) dL_law_910 ?_
  refine y_iconst X (3) dL_law_911 (by decide) ?_
  refine y_iadd X dL_law_912 ?_
  refine y_sld X (l_in (j := 3) hb hL (by decide)) dL_law_913 ?_
  refine y_call X (d2 := 2) (M2 := mX9_weighed) (k := 1) [.int (xs (nI i + 1).toNatClampNeg), .int (xs (nI i + 2).toNatClampNeg), .int (xs (nI i + 3).toNatClampNeg)] dL_law_914 kl_112 mvX9_weighed gk_1 rfl rfl rfl (Nat.le_of_ble_eq_true rfl) (by decide) hl.1 ?_
  refine (m_weighed (d := 0) hw t2).mono ?_
  intro v σ3 q
  obtain ⟨rfl, t3, f3⟩ := q
  exact y_eq X (tgt := 1386) dL_law_917 rfl (nx _ σ3 (w_weighed hw) (i2.mo f3) t3)
set_option maxRecDepth 20000 in
theorem q_forget {D : va_G} {ad : Nat → Nat} {dA : Nat → ClassId} {p : Program} {l : Launch} {e : Env} {s : State} {m : MethodId} {args : Array Value} {below : List Frame} {meth : Method} {c : Code} {Q : State → Prop} {ls : Array Slot} {σ τ : gw_S} {b Lx i : Nat} {xs : Nat → Int32} (X : lX D ad dA p s m args c b Lx xs) (hw : WF τ) (hi : IC τ σ) (ht : TM τ σ) (hl : lv_has ls 4 [(3, .int (nI i)), (2, .ref (ad 1)), (1, .ref (ad 0)), (0, .ref b)]) (hb : i + 6 ≤ Lx) (hL : Lx ≤ 384) (nx : ∀ τ2 σ2, WF τ2 → IC τ2 σ2 → TM τ2 σ2 → lZ D ad dA p l e s m args below meth c Q 1386 ls [] σ2) : lZ D ad dA p l e s m args below meth c Q 922 ls [] σ := by
  refine y_aload X (k := 1) (lv_at hl 2 rfl) dL_law_922 ?_
  refine y_call X (d2 := 0) (M2 := mX8_forget) (k := 0) [] dL_law_923 kl_113 mvX8_forget gk_0 rfl rfl rfl (Nat.le_of_ble_eq_true rfl) (by decide) hl.1 ?_
  refine (c_forget (d := 0) hw hi.1).mono ?_
  intro v σ2 q
  obtain ⟨rfl, i2, f2⟩ := QU.ic hi q
  have t2 := ht.cl f2
  refine y_aload X (k := 2) (lv_at hl 1 rfl) dL_law_926 ?_
  refine y_call X (d2 := 0) (M2 := mX9_forget) (k := 1) [] dL_law_927 kl_117 mvX9_forget gk_1 rfl rfl rfl (Nat.le_of_ble_eq_true rfl) (by decide) hl.1 ?_
  refine (m_forget (d := 0) t2).mono ?_
  intro v σ3 q
  obtain ⟨rfl, t3, f3⟩ := q
  exact y_eq X (tgt := 1386) dL_law_930 rfl (nx _ σ3 (w_forget hw) (i2.mo f3) t3)
set_option maxRecDepth 20000 in
theorem q_hid {D : va_G} {ad : Nat → Nat} {dA : Nat → ClassId} {p : Program} {l : Launch} {e : Env} {s : State} {m : MethodId} {args : Array Value} {below : List Frame} {meth : Method} {c : Code} {Q : State → Prop} {ls : Array Slot} {σ τ : gw_S} {b Lx i : Nat} {xs : Nat → Int32} (X : lX D ad dA p s m args c b Lx xs) (hw : WF τ) (hi : IC τ σ) (ht : TM τ σ) (hl : lv_has ls 4 [(3, .int (nI i)), (2, .ref (ad 1)), (1, .ref (ad 0)), (0, .ref b)]) (hb : i + 6 ≤ Lx) (hL : Lx ≤ 384) (nx : ∀ τ2 σ2, WF τ2 → IC τ2 σ2 → TM τ2 σ2 → lZ D ad dA p l e s m args below meth c Q 1386 ls [] σ2) : lZ D ad dA p l e s m args below meth c Q 935 ls [] σ := by
  refine y_aload X (k := 1) (lv_at hl 2 rfl) dL_law_935 ?_
  refine y_call X (d2 := 5) (M2 := mX8_hid) (k := 0) [] dL_law_936 kl_118 mvX8_hid gk_0 rfl rfl rfl (Nat.le_of_ble_eq_true rfl) (by decide) hl.1 ?_
  refine (c_hid (d := 0) hw hi.1 hi.2.1 hi.2.2).mono ?_
  intro v σ2 q
  obtain ⟨rfl, i2, f2⟩ := QK.ic q
  have t2 := ht.cl f2
  refine y_aload X (k := 2) (lv_at hl 1 rfl) dL_law_939 ?_
  refine y_call X (d2 := 7) (M2 := mX9_hid) (k := 1) [] dL_law_940 kl_121 mvX9_hid gk_1 rfl rfl rfl (Nat.le_of_ble_eq_true rfl) (by decide) hl.1 ?_
  refine (m_hid (d := 0) hw t2).mono ?_
  intro v σ3 q
  obtain ⟨rfl, t3, f3⟩ := QM.in q
  exact y_eq X (tgt := 1386) dL_law_943 rfl (nx _ σ3 (hw) (i2.mo f3) t3)
set_option maxRecDepth 20000 in
theorem q_swapped {D : va_G} {ad : Nat → Nat} {dA : Nat → ClassId} {p : Program} {l : Launch} {e : Env} {s : State} {m : MethodId} {args : Array Value} {below : List Frame} {meth : Method} {c : Code} {Q : State → Prop} {ls : Array Slot} {σ τ : gw_S} {b Lx i : Nat} {xs : Nat → Int32} (X : lX D ad dA p s m args c b Lx xs) (hw : WF τ) (hi : IC τ σ) (ht : TM τ σ) (hl : lv_has ls 4 [(3, .int (nI i)), (2, .ref (ad 1)), (1, .ref (ad 0)), (0, .ref b)]) (hb : i + 6 ≤ Lx) (hL : Lx ≤ 384) (nx : ∀ τ2 σ2, WF τ2 → IC τ2 σ2 → TM τ2 σ2 → lZ D ad dA p l e s m args below meth c Q 1386 ls [] σ2) : lZ D ad dA p l e s m args below meth c Q 948 ls [] σ := by
  refine y_aload X (k := 1) (lv_at hl 2 rfl) dL_law_948 ?_
  refine y_aload X (k := 0) (lv_at hl 3 rfl) dL_law_949 ?_
  refine y_iload X (k := 3) (lv_at hl 0 rfl) dL_law_950 ?_
  refine y_iconst X (1) dL_law_951 (by decide) ?_
  refine y_iadd X dL_law_952 ?_
  refine y_sld X (l_in (j := 1) hb hL (by decide)) dL_law_953 ?_
  refine y_call X (d2 := 5) (M2 := mX8_swapped) (k := 0) [.int (xs (nI i + 1).toNatClampNeg)] dL_law_954 kl_122 mvX8_swapped gk_0 rfl rfl rfl (Nat.le_of_ble_eq_true rfl) (by decide) hl.1 ?_
  refine (c_swapped (d := 0) hw hi.1 hi.2.1 hi.2.2).mono ?_
  intro v σ2 q
  obtain ⟨rfl, i2, f2⟩ := QK.ic q
  have t2 := ht.cl f2
  refine y_aload X (k := 2) (lv_at hl 1 rfl) dL_law_957 ?_
  refine y_aload X (k := 0) (lv_at hl 3 rfl) dL_law_958 ?_
  refine y_iload X (k := 3) (lv_at hl 0 rfl) dL_law_959 ?_
  refine y_iconst X (1) dL_law_960 (by decide) ?_
  refine y_iadd X dL_law_961 ?_
  refine y_sld X (l_in (j := 1) hb hL (by decide)) dL_law_962 ?_
  refine y_call X (d2 := 7) (M2 := mX9_swapped) (k := 1) [.int (xs (nI i + 1).toNatClampNeg)] dL_law_963 kl_125 mvX9_swapped gk_1 rfl rfl rfl (Nat.le_of_ble_eq_true rfl) (by decide) hl.1 ?_
  refine (m_swapped (d := 0) hw t2).mono ?_
  intro v σ3 q
  obtain ⟨rfl, t3, f3⟩ := QM.in q
  exact y_eq X (tgt := 1386) dL_law_966 rfl (nx _ σ3 (hw) (i2.mo f3) t3)
set_option maxRecDepth 20000 in
theorem q_weigh {D : va_G} {ad : Nat → Nat} {dA : Nat → ClassId} {p : Program} {l : Launch} {e : Env} {s : State} {m : MethodId} {args : Array Value} {below : List Frame} {meth : Method} {c : Code} {Q : State → Prop} {ls : Array Slot} {σ τ : gw_S} {b Lx i : Nat} {xs : Nat → Int32} (X : lX D ad dA p s m args c b Lx xs) (hw : WF τ) (hi : IC τ σ) (ht : TM τ σ) (hl : lv_has ls 4 [(3, .int (nI i)), (2, .ref (ad 1)), (1, .ref (ad 0)), (0, .ref b)]) (hb : i + 6 ≤ Lx) (hL : Lx ≤ 384) (nx : ∀ τ2 σ2, WF τ2 → IC τ2 σ2 → TM τ2 σ2 → lZ D ad dA p l e s m args below meth c Q 1386 ls [] σ2) : lZ D ad dA p l e s m args below meth c Q 971 ls [] σ := by
  refine y_aload X (k := 1) (lv_at hl 2 rfl) dL_law_971 ?_
  refine y_aload X (k := 0) (lv_at hl 3 rfl) dL_law_972 ?_
  refine y_iload X (k := 3) (lv_at hl 0 rfl) dL_law_973 ?_
  refine y_iconst X (1) dL_law_974 (by decide) ?_
  refine y_iadd X dL_law_975 ?_
  refine y_sld X (l_in (j := 1) hb hL (by decide)) dL_law_976 ?_
  refine y_call X (d2 := 6) (M2 := mX8_weigh) (k := 0) [.int (xs (nI i + 1).toNatClampNeg)] dL_law_977 kl_126 mvX8_weigh gk_0 rfl rfl rfl (Nat.le_of_ble_eq_true rfl) (by decide) hl.1 ?_
  refine (c_weigh (d := 0) hw hi.1 hi.2.1 hi.2.2).mono ?_
  intro v σ2 q
  obtain ⟨rfl, i2, f2⟩ := QK.ic q
  have t2 := ht.cl f2
  refine y_aload X (k := 2) (lv_at hl 1 rfl) dL_law_980 ?_
  refine y_aload X (k := 0) (lv_at hl 3 rfl) dL_law_981 ?_
  refine y_iload X (k := 3) (lv_at hl 0 rfl) dL_law_982 ?_
  refine y_iconst X (1) dL_law_983 (by decide) ?_
  refine y_iadd X dL_law_984 ?_
  refine y_sld X (l_in (j := 1) hb hL (by decide)) dL_law_985 ?_
  refine y_call X (d2 := 8) (M2 := mX9_weigh) (k := 1) [.int (xs (nI i + 1).toNatClampNeg)] dL_law_986 kl_129 mvX9_weigh gk_1 rfl rfl rfl (Nat.le_of_ble_eq_true rfl) (by decide) hl.1 ?_
  refine (m_weigh (d := 0) hw t2).mono ?_
  intro v σ3 q
  obtain ⟨rfl, t3, f3⟩ := QM.in q
  exact y_eq X (tgt := 1386) dL_law_989 rfl (nx _ σ3 (hw) (i2.mo f3) t3)
set_option maxRecDepth 20000 in
theorem q_heat {D : va_G} {ad : Nat → Nat} {dA : Nat → ClassId} {p : Program} {l : Launch} {e : Env} {s : State} {m : MethodId} {args : Array Value} {below : List Frame} {meth : Method} {c : Code} {Q : State → Prop} {ls : Array Slot} {σ τ : gw_S} {b Lx i : Nat} {xs : Nat → Int32} (X : lX D ad dA p s m args c b Lx xs) (hw : WF τ) (hi : IC τ σ) (ht : TM τ σ) (hl : lv_has ls 4 [(3, .int (nI i)), (2, .ref (ad 1)), (1, .ref (ad 0)), (0, .ref b)]) (hb : i + 6 ≤ Lx) (hL : Lx ≤ 384) (nx : ∀ τ2 σ2, WF τ2 → IC τ2 σ2 → TM τ2 σ2 → lZ D ad dA p l e s m args below meth c Q 1386 ls [] σ2) : lZ D ad dA p l e s m args below meth c Q 994 ls [] σ := by
  refine y_aload X (k := 1) (lv_at hl 2 rfl) dL_law_994 ?_
  refine y_aload X (k := 0) (lv_at hl 3 rfl) dL_law_995 ?_
  refine y_iload X (k := 3) (lv_at hl 0 rfl) dL_law_996 ?_
  refine y_iconst X (1) dL_law_997 (by decide) ?_
  refine y_iadd X dL_law_998 ?_
  refine y_sld X (l_in (j := 1) hb hL (by decide)) dL_law_999 ?_
  refine y_aload X (k := 0) (lv_at hl 3 rfl) dL_law_1000 ?_
  refine y_iload X (k := 3) (lv_at hl 0 rfl) dL_law_1001 ?_
  refine y_iconst X (2) dL_law_1002 (by decide) ?_
  refine y_iadd X dL_law_1003 ?_
  refine y_sld X (l_in (j := 2) hb hL (by decide)) dL_law_1004 ?_
  refine y_aload X (k := 0) (lv_at hl 3 rfl) dL_law_1005 ?_
  refine y_iload X (k := 3) (lv_at hl 0 rfl) dL_law_1006 ?_
  refine y_iconst X (3) dL_law_1007 (by decide) ?_
  refine y_iadd X dL_law_1008 ?_
  refine y_sld X (l_in (j := 3) hb hL (by decide)) dL_law_1009 ?_
  refine y_aload X (k := 0) (lv_at hl 3 rfl) dL_law_1010 ?_
  refine y_iload X (k := 3) (lv_at hl 0 rfl) dL_law_1011 ?_
  refine y_iconst X (4) dL_law_1012 (by decide) ?_
  refine y_iadd X dL_law_1013 ?_
  refine y_sld X (l_in (j := 4) hb hL (by decide)) dL_law_1014 ?_
  refine y_call X (d2 := 14) (M2 := mX8_heat) (k := 0) [.int (xs (nI i + 1).toNatClampNeg), .int (xs (nI i + 2).toNatClampNeg), .int (xs (nI i + 3).toNatClampNeg), .int (xs (nI i + 4).toNatClampNeg)] dL_law_1015 kl_130 mvX8_heat gk_0 rfl rfl rfl (Nat.le_of_ble_eq_true rfl) (by decide) hl.1 ?_
  refine (c_heat (d := 0) hw hi).mono ?_
  intro v σ2 q
  obtain ⟨rfl, i2, f2⟩ := q
  have t2 := ht.cl f2
  refine y_aload X (k := 2) (lv_at hl 1 rfl) dL_law_1018 ?_
  refine y_aload X (k := 0) (lv_at hl 3 rfl) dL_law_1019 ?_
  refine y_iload X (k := 3) (lv_at hl 0 rfl) dL_law_1020 ?_
  refine y_iconst X (1) dL_law_1021 (by decide) ?_
  refine y_iadd X dL_law_1022 ?_
  refine y_sld X (l_in (j := 1) hb hL (by decide)) dL_law_1023 ?_
  refine y_aload X (k := 0) (lv_at hl 3 rfl) dL_law_1024 ?_
  refine y_iload X (k := 3) (lv_at hl 0 rfl) dL_law_1025 ?_
  refine y_iconst X (2) dL_law_1026 (by decide) ?_
  refine y_iadd X dL_law_1027 ?_
  refine y_sld X (l_in (j := 2) hb hL (by decide)) dL_law_1028 ?_
  refine y_aload X (k := 0) (lv_at hl 3 rfl) dL_law_1029 ?_
  refine y_iload X (k := 3) (lv_at hl 0 rfl) dL_law_1030 ?_
  refine y_iconst X (3) dL_law_1031 (by decide) ?_
  refine y_iadd X dL_law_1032 ?_
  refine y_sld X (l_in (j := 3) hb hL (by decide)) dL_law_1033 ?_
  refine y_aload X (k := 0) (lv_at hl 3 rfl) dL_law_1034 ?_
  refine y_iload X (k := 3) (lv_at hl 0 rfl) dL_law_1035 ?_
  refine y_iconst X (4) dL_law_1036 (by decide) ?_
  refine y_iadd X dL_law_1037 ?_
  refine y_sld X (l_in (j := 4) hb hL (by decide)) dL_law_1038 ?_
  refine y_call X (d2 := 7) (M2 := mX9_heat) (k := 1) [.int (xs (nI i + 1).toNatClampNeg), .int (xs (nI i + 2).toNatClampNeg), .int (xs (nI i + 3).toNatClampNeg), .int (xs (nI i + 4).toNatClampNeg)] dL_law_1039 kl_134 mvX9_heat gk_1 rfl rfl rfl (Nat.le_of_ble_eq_true rfl) (by decide) hl.1 ?_
  refine (m_heat (d := 0) hw t2).mono ?_
  intro v σ3 q
  obtain ⟨rfl, t3, f3⟩ := q
  replace f3 := FSc.mo f3
  exact y_leq X (tgt := 1386) dL_law_1042 dL_law_1043 rfl (nx _ σ3 (hw) (i2.mo f3) t3)
set_option maxRecDepth 20000 in
theorem q_market {D : va_G} {ad : Nat → Nat} {dA : Nat → ClassId} {p : Program} {l : Launch} {e : Env} {s : State} {m : MethodId} {args : Array Value} {below : List Frame} {meth : Method} {c : Code} {Q : State → Prop} {ls : Array Slot} {σ τ : gw_S} {b Lx i : Nat} {xs : Nat → Int32} (X : lX D ad dA p s m args c b Lx xs) (hw : WF τ) (hi : IC τ σ) (ht : TM τ σ) (hl : lv_has ls 4 [(3, .int (nI i)), (2, .ref (ad 1)), (1, .ref (ad 0)), (0, .ref b)]) (hb : i + 6 ≤ Lx) (hL : Lx ≤ 384) (nx : ∀ τ2 σ2, WF τ2 → IC τ2 σ2 → TM τ2 σ2 → lZ D ad dA p l e s m args below meth c Q 1386 ls [] σ2) : lZ D ad dA p l e s m args below meth c Q 1048 ls [] σ := by
  refine y_aload X (k := 1) (lv_at hl 2 rfl) dL_law_1048 ?_
  refine y_aload X (k := 0) (lv_at hl 3 rfl) dL_law_1049 ?_
  refine y_iload X (k := 3) (lv_at hl 0 rfl) dL_law_1050 ?_
  refine y_iconst X (1) dL_law_1051 (by decide) ?_
  refine y_iadd X dL_law_1052 ?_
  refine y_sld X (l_in (j := 1) hb hL (by decide)) dL_law_1053 ?_
  refine y_aload X (k := 0) (lv_at hl 3 rfl) dL_law_1054 ?_
  refine y_iload X (k := 3) (lv_at hl 0 rfl) dL_law_1055 ?_
  refine y_iconst X (2) dL_law_1056 (by decide) ?_
  refine y_iadd X dL_law_1057 ?_
  refine y_sld X (l_in (j := 2) hb hL (by decide)) dL_law_1058 ?_
  refine y_aload X (k := 0) (lv_at hl 3 rfl) dL_law_1059 ?_
  refine y_iload X (k := 3) (lv_at hl 0 rfl) dL_law_1060 ?_
  refine y_iconst X (3) dL_law_1061 (by decide) ?_
  refine y_iadd X dL_law_1062 ?_
  refine y_sld X (l_in (j := 3) hb hL (by decide)) dL_law_1063 ?_
  refine y_call X (d2 := 4) (M2 := mX8_market) (k := 0) [.int (xs (nI i + 1).toNatClampNeg), .int (xs (nI i + 2).toNatClampNeg), .int (xs (nI i + 3).toNatClampNeg)] dL_law_1064 kl_135 mvX8_market gk_0 rfl rfl rfl (Nat.le_of_ble_eq_true rfl) (by decide) hl.1 ?_
  refine (c_market (d := 0) hw hi.1 hi.2.1 hi.2.2).mono ?_
  intro v σ2 q
  obtain ⟨rfl, i2, f2⟩ := QK.ic q
  have t2 := ht.cl f2
  refine y_aload X (k := 2) (lv_at hl 1 rfl) dL_law_1067 ?_
  refine y_aload X (k := 0) (lv_at hl 3 rfl) dL_law_1068 ?_
  refine y_iload X (k := 3) (lv_at hl 0 rfl) dL_law_1069 ?_
  refine y_iconst X (1) dL_law_1070 (by decide) ?_
  refine y_iadd X dL_law_1071 ?_
  refine y_sld X (l_in (j := 1) hb hL (by decide)) dL_law_1072 ?_
  refine y_aload X (k := 0) (lv_at hl 3 rfl) dL_law_1073 ?_
  refine y_iload X (k := 3) (lv_at hl 0 rfl) dL_law_1074 ?_
  refine y_iconst X (2) dL_law_1075 (by decide) ?_
  refine y_iadd X dL_law_1076 ?_
  refine y_sld X (l_in (j := 2) hb hL (by decide)) dL_law_1077 ?_
  refine y_aload X (k := 0) (lv_at hl 3 rfl) dL_law_1078 ?_
  refine y_iload X (k := 3) (lv_at hl 0 rfl) dL_law_1079 ?_
  refine y_iconst X (3) dL_law_1080 (by decide) ?_
  refine y_iadd X dL_law_1081 ?_
  refine y_sld X (l_in (j := 3) hb hL (by decide)) dL_law_1082 ?_
  refine y_call X (d2 := 7) (M2 := mX9_market) (k := 1) [.int (xs (nI i + 1).toNatClampNeg), .int (xs (nI i + 2).toNatClampNeg), .int (xs (nI i + 3).toNatClampNeg)] dL_law_1083 kl_138 mvX9_market gk_1 rfl rfl rfl (Nat.le_of_ble_eq_true rfl) (by decide) hl.1 ?_
  refine (m_market (d := 0) hw t2).mono ?_
  intro v σ3 q
  obtain ⟨rfl, t3, f3⟩ := QM.in q
  exact y_eq X (tgt := 1386) dL_law_1086 rfl (nx _ σ3 (hw) (i2.mo f3) t3)
set_option maxRecDepth 20000 in
theorem q_sheet {D : va_G} {ad : Nat → Nat} {dA : Nat → ClassId} {p : Program} {l : Launch} {e : Env} {s : State} {m : MethodId} {args : Array Value} {below : List Frame} {meth : Method} {c : Code} {Q : State → Prop} {ls : Array Slot} {σ τ : gw_S} {b Lx i : Nat} {xs : Nat → Int32} (X : lX D ad dA p s m args c b Lx xs) (hw : WF τ) (hi : IC τ σ) (ht : TM τ σ) (hl : lv_has ls 4 [(3, .int (nI i)), (2, .ref (ad 1)), (1, .ref (ad 0)), (0, .ref b)]) (hb : i + 6 ≤ Lx) (hL : Lx ≤ 384) (nx : ∀ τ2 σ2, WF τ2 → IC τ2 σ2 → TM τ2 σ2 → lZ D ad dA p l e s m args below meth c Q 1386 ls [] σ2) : lZ D ad dA p l e s m args below meth c Q 1091 ls [] σ := by
  refine y_aload X (k := 1) (lv_at hl 2 rfl) dL_law_1091 ?_
  refine y_aload X (k := 0) (lv_at hl 3 rfl) dL_law_1092 ?_
  refine y_iload X (k := 3) (lv_at hl 0 rfl) dL_law_1093 ?_
  refine y_iconst X (1) dL_law_1094 (by decide) ?_
  refine y_iadd X dL_law_1095 ?_
  refine y_sld X (l_in (j := 1) hb hL (by decide)) dL_law_1096 ?_
  refine y_aload X (k := 0) (lv_at hl 3 rfl) dL_law_1097 ?_
  refine y_iload X (k := 3) (lv_at hl 0 rfl) dL_law_1098 ?_
  refine y_iconst X (2) dL_law_1099 (by decide) ?_
  refine y_iadd X dL_law_1100 ?_
  refine y_sld X (l_in (j := 2) hb hL (by decide)) dL_law_1101 ?_
  refine y_aload X (k := 0) (lv_at hl 3 rfl) dL_law_1102 ?_
  refine y_iload X (k := 3) (lv_at hl 0 rfl) dL_law_1103 ?_
  refine y_iconst X (3) dL_law_1104 (by decide) ?_
  refine y_iadd X dL_law_1105 ?_
  refine y_sld X (l_in (j := 3) hb hL (by decide)) dL_law_1106 ?_
  refine y_call X (d2 := 1) (M2 := mX8_sheet) (k := 0) [.int (xs (nI i + 1).toNatClampNeg), .int (xs (nI i + 2).toNatClampNeg), .int (xs (nI i + 3).toNatClampNeg)] dL_law_1107 kl_139 mvX8_sheet gk_0 rfl rfl rfl (Nat.le_of_ble_eq_true rfl) (by decide) hl.1 ?_
  refine (c_sheet (d := 0) hi.1).mono ?_
  intro v σ2 q
  obtain ⟨rfl, i2, f2⟩ := QU.ic hi q
  have t2 := ht.cl f2
  refine y_aload X (k := 2) (lv_at hl 1 rfl) dL_law_1110 ?_
  refine y_aload X (k := 0) (lv_at hl 3 rfl) dL_law_1111 ?_
  refine y_iload X (k := 3) (lv_at hl 0 rfl) dL_law_1112 ?_
  refine y_iconst X (1) dL_law_1113 (by decide) ?_
  refine y_iadd X dL_law_1114 ?_
  refine y_sld X (l_in (j := 1) hb hL (by decide)) dL_law_1115 ?_
  refine y_aload X (k := 0) (lv_at hl 3 rfl) dL_law_1116 ?_
  refine y_iload X (k := 3) (lv_at hl 0 rfl) dL_law_1117 ?_
  refine y_iconst X (2) dL_law_1118 (by decide) ?_
  refine y_iadd X dL_law_1119 ?_
  refine y_sld X (l_in (j := 2) hb hL (by decide)) dL_law_1120 ?_
  refine y_aload X (k := 0) (lv_at hl 3 rfl) dL_law_1121 ?_
  refine y_iload X (k := 3) (lv_at hl 0 rfl) dL_law_1122 ?_
  refine y_iconst X (3) dL_law_1123 (by decide) ?_
  refine y_iadd X dL_law_1124 ?_
  refine y_sld X (l_in (j := 3) hb hL (by decide)) dL_law_1125 ?_
  refine y_call X (d2 := 2) (M2 := mX9_sheet) (k := 1) [.int (xs (nI i + 1).toNatClampNeg), .int (xs (nI i + 2).toNatClampNeg), .int (xs (nI i + 3).toNatClampNeg)] dL_law_1126 kl_142 mvX9_sheet gk_1 rfl rfl rfl (Nat.le_of_ble_eq_true rfl) (by decide) hl.1 ?_
  refine (m_sheet (d := 0) t2).mono ?_
  intro v σ3 q
  obtain ⟨rfl, t3, f3⟩ := q
  exact y_eq X (tgt := 1386) dL_law_1129 rfl (nx _ σ3 (w_sheet hw) (i2.mo f3) t3)
set_option maxRecDepth 20000 in
theorem q_lose {D : va_G} {ad : Nat → Nat} {dA : Nat → ClassId} {p : Program} {l : Launch} {e : Env} {s : State} {m : MethodId} {args : Array Value} {below : List Frame} {meth : Method} {c : Code} {Q : State → Prop} {ls : Array Slot} {σ τ : gw_S} {b Lx i : Nat} {xs : Nat → Int32} (X : lX D ad dA p s m args c b Lx xs) (hw : WF τ) (hi : IC τ σ) (ht : TM τ σ) (hl : lv_has ls 4 [(3, .int (nI i)), (2, .ref (ad 1)), (1, .ref (ad 0)), (0, .ref b)]) (hb : i + 6 ≤ Lx) (hL : Lx ≤ 384) (nx : ∀ τ2 σ2, WF τ2 → IC τ2 σ2 → TM τ2 σ2 → lZ D ad dA p l e s m args below meth c Q 1386 ls [] σ2) : lZ D ad dA p l e s m args below meth c Q 1134 ls [] σ := by
  refine y_aload X (k := 1) (lv_at hl 2 rfl) dL_law_1134 ?_
  refine y_aload X (k := 0) (lv_at hl 3 rfl) dL_law_1135 ?_
  refine y_iload X (k := 3) (lv_at hl 0 rfl) dL_law_1136 ?_
  refine y_iconst X (1) dL_law_1137 (by decide) ?_
  refine y_iadd X dL_law_1138 ?_
  refine y_sld X (l_in (j := 1) hb hL (by decide)) dL_law_1139 ?_
  refine y_call X (d2 := 1) (M2 := mX8_lose) (k := 0) [.int (xs (nI i + 1).toNatClampNeg)] dL_law_1140 kl_143 mvX8_lose gk_0 rfl rfl rfl (Nat.le_of_ble_eq_true rfl) (by decide) hl.1 ?_
  refine (c_lose (d := 0) hw hi.1).mono ?_
  intro v σ2 q
  obtain ⟨rfl, i2, f2⟩ := QU.ic hi q
  have t2 := ht.cl f2
  refine y_aload X (k := 2) (lv_at hl 1 rfl) dL_law_1143 ?_
  refine y_aload X (k := 0) (lv_at hl 3 rfl) dL_law_1144 ?_
  refine y_iload X (k := 3) (lv_at hl 0 rfl) dL_law_1145 ?_
  refine y_iconst X (1) dL_law_1146 (by decide) ?_
  refine y_iadd X dL_law_1147 ?_
  refine y_sld X (l_in (j := 1) hb hL (by decide)) dL_law_1148 ?_
  refine y_call X (d2 := 2) (M2 := mX9_lose) (k := 1) [.int (xs (nI i + 1).toNatClampNeg)] dL_law_1149 kl_146 mvX9_lose gk_1 rfl rfl rfl (Nat.le_of_ble_eq_true rfl) (by decide) hl.1 ?_
  refine (m_lose (d := 0) t2).mono ?_
  intro v σ3 q
  obtain ⟨rfl, t3, f3⟩ := q
  exact y_eq X (tgt := 1386) dL_law_1152 rfl (nx _ σ3 (w_lose hw) (i2.mo f3) t3)
set_option maxRecDepth 20000 in
theorem q_put {D : va_G} {ad : Nat → Nat} {dA : Nat → ClassId} {p : Program} {l : Launch} {e : Env} {s : State} {m : MethodId} {args : Array Value} {below : List Frame} {meth : Method} {c : Code} {Q : State → Prop} {ls : Array Slot} {σ τ : gw_S} {b Lx i : Nat} {xs : Nat → Int32} (X : lX D ad dA p s m args c b Lx xs) (hw : WF τ) (hi : IC τ σ) (ht : TM τ σ) (hl : lv_has ls 4 [(3, .int (nI i)), (2, .ref (ad 1)), (1, .ref (ad 0)), (0, .ref b)]) (hb : i + 6 ≤ Lx) (hL : Lx ≤ 384) (nx : ∀ τ2 σ2, WF τ2 → IC τ2 σ2 → TM τ2 σ2 → lZ D ad dA p l e s m args below meth c Q 1386 ls [] σ2) : lZ D ad dA p l e s m args below meth c Q 1157 ls [] σ := by
  refine y_aload X (k := 1) (lv_at hl 2 rfl) dL_law_1157 ?_
  refine y_aload X (k := 0) (lv_at hl 3 rfl) dL_law_1158 ?_
  refine y_iload X (k := 3) (lv_at hl 0 rfl) dL_law_1159 ?_
  refine y_iconst X (1) dL_law_1160 (by decide) ?_
  refine y_iadd X dL_law_1161 ?_
  refine y_sld X (l_in (j := 1) hb hL (by decide)) dL_law_1162 ?_
  refine y_aload X (k := 0) (lv_at hl 3 rfl) dL_law_1163 ?_
  refine y_iload X (k := 3) (lv_at hl 0 rfl) dL_law_1164 ?_
  refine y_iconst X (2) dL_law_1165 (by decide) ?_
  refine y_iadd X dL_law_1166 ?_
  refine y_sld X (l_in (j := 2) hb hL (by decide)) dL_law_1167 ?_
  refine y_aload X (k := 0) (lv_at hl 3 rfl) dL_law_1168 ?_
  refine y_iload X (k := 3) (lv_at hl 0 rfl) dL_law_1169 ?_
  refine y_iconst X (3) dL_law_1170 (by decide) ?_
  refine y_iadd X dL_law_1171 ?_
  refine y_sld X (l_in (j := 3) hb hL (by decide)) dL_law_1172 ?_
  refine y_aload X (k := 0) (lv_at hl 3 rfl) dL_law_1173 ?_
  refine y_iload X (k := 3) (lv_at hl 0 rfl) dL_law_1174 ?_
  refine y_iconst X (4) dL_law_1175 (by decide) ?_
  refine y_iadd X dL_law_1176 ?_
  refine y_sld X (l_in (j := 4) hb hL (by decide)) dL_law_1177 ?_
  refine y_call X (d2 := 2) (M2 := mX8_put) (k := 0) [.int (xs (nI i + 1).toNatClampNeg), .int (xs (nI i + 2).toNatClampNeg), .int (xs (nI i + 3).toNatClampNeg), .int (xs (nI i + 4).toNatClampNeg)] dL_law_1178 kl_147 mvX8_put gk_0 rfl rfl rfl (Nat.le_of_ble_eq_true rfl) (by decide) hl.1 ?_
  refine (c_put (d := 0) hw hi.1).mono ?_
  intro v σ2 q
  obtain ⟨rfl, i2, f2⟩ := QU.ic hi q
  have t2 := ht.cl f2
  refine y_aload X (k := 2) (lv_at hl 1 rfl) dL_law_1181 ?_
  refine y_aload X (k := 0) (lv_at hl 3 rfl) dL_law_1182 ?_
  refine y_iload X (k := 3) (lv_at hl 0 rfl) dL_law_1183 ?_
  refine y_iconst X (1) dL_law_1184 (by decide) ?_
  refine y_iadd X dL_law_1185 ?_
  refine y_sld X (l_in (j := 1) hb hL (by decide)) dL_law_1186 ?_
  refine y_aload X (k := 0) (lv_at hl 3 rfl) dL_law_1187 ?_
  refine y_iload X (k := 3) (lv_at hl 0 rfl) dL_law_1188 ?_
  refine y_iconst X (2) dL_law_1189 (by decide) ?_
  refine y_iadd X dL_law_1190 ?_
  refine y_sld X (l_in (j := 2) hb hL (by decide)) dL_law_1191 ?_
  refine y_aload X (k := 0) (lv_at hl 3 rfl) dL_law_1192 ?_
  refine y_iload X (k := 3) (lv_at hl 0 rfl) dL_law_1193 ?_
  refine y_iconst X (3) dL_law_1194 (by decide) ?_
  refine y_iadd X dL_law_1195 ?_
  refine y_sld X (l_in (j := 3) hb hL (by decide)) dL_law_1196 ?_
  refine y_aload X (k := 0) (lv_at hl 3 rfl) dL_law_1197 ?_
  refine y_iload X (k := 3) (lv_at hl 0 rfl) dL_law_1198 ?_
  refine y_iconst X (4) dL_law_1199 (by decide) ?_
  refine y_iadd X dL_law_1200 ?_
  refine y_sld X (l_in (j := 4) hb hL (by decide)) dL_law_1201 ?_
  refine y_call X (d2 := 2) (M2 := mX9_put) (k := 1) [.int (xs (nI i + 1).toNatClampNeg), .int (xs (nI i + 2).toNatClampNeg), .int (xs (nI i + 3).toNatClampNeg), .int (xs (nI i + 4).toNatClampNeg)] dL_law_1202 kl_150 mvX9_put gk_1 rfl rfl rfl (Nat.le_of_ble_eq_true rfl) (by decide) hl.1 ?_
  refine (m_put (d := 0) hw t2).mono ?_
  intro v σ3 q
  obtain ⟨rfl, t3, f3⟩ := q
  exact y_eq X (tgt := 1386) dL_law_1205 rfl (nx _ σ3 (w_put hw) (i2.mo f3) t3)
set_option maxRecDepth 20000 in
theorem q_get {D : va_G} {ad : Nat → Nat} {dA : Nat → ClassId} {p : Program} {l : Launch} {e : Env} {s : State} {m : MethodId} {args : Array Value} {below : List Frame} {meth : Method} {c : Code} {Q : State → Prop} {ls : Array Slot} {σ τ : gw_S} {b Lx i : Nat} {xs : Nat → Int32} (X : lX D ad dA p s m args c b Lx xs) (hw : WF τ) (hi : IC τ σ) (ht : TM τ σ) (hl : lv_has ls 4 [(3, .int (nI i)), (2, .ref (ad 1)), (1, .ref (ad 0)), (0, .ref b)]) (hb : i + 6 ≤ Lx) (hL : Lx ≤ 384) (nx : ∀ τ2 σ2, WF τ2 → IC τ2 σ2 → TM τ2 σ2 → lZ D ad dA p l e s m args below meth c Q 1386 ls [] σ2) : lZ D ad dA p l e s m args below meth c Q 1210 ls [] σ := by
  refine y_aload X (k := 1) (lv_at hl 2 rfl) dL_law_1210 ?_
  refine y_aload X (k := 0) (lv_at hl 3 rfl) dL_law_1211 ?_
  refine y_iload X (k := 3) (lv_at hl 0 rfl) dL_law_1212 ?_
  refine y_iconst X (1) dL_law_1213 (by decide) ?_
  refine y_iadd X dL_law_1214 ?_
  refine y_sld X (l_in (j := 1) hb hL (by decide)) dL_law_1215 ?_
  refine y_aload X (k := 0) (lv_at hl 3 rfl) dL_law_1216 ?_
  refine y_iload X (k := 3) (lv_at hl 0 rfl) dL_law_1217 ?_
  refine y_iconst X (2) dL_law_1218 (by decide) ?_
  refine y_iadd X dL_law_1219 ?_
  refine y_sld X (l_in (j := 2) hb hL (by decide)) dL_law_1220 ?_
  refine y_aload X (k := 0) (lv_at hl 3 rfl) dL_law_1221 ?_
  refine y_iload X (k := 3) (lv_at hl 0 rfl) dL_law_1222 ?_
  refine y_iconst X (3) dL_law_1223 (by decide) ?_
  refine y_iadd X dL_law_1224 ?_
  refine y_sld X (l_in (j := 3) hb hL (by decide)) dL_law_1225 ?_
  refine y_call X (d2 := 2) (M2 := mX8_get) (k := 0) [.int (xs (nI i + 1).toNatClampNeg), .int (xs (nI i + 2).toNatClampNeg), .int (xs (nI i + 3).toNatClampNeg)] dL_law_1226 kl_151 mvX8_get gk_0 rfl rfl rfl (Nat.le_of_ble_eq_true rfl) (by decide) hl.1 ?_
  refine (c_get (d := 0) hw hi.1).mono ?_
  intro v σ2 q
  obtain ⟨rfl, i2, f2⟩ := QU.ic hi q
  have t2 := ht.cl f2
  refine y_aload X (k := 2) (lv_at hl 1 rfl) dL_law_1229 ?_
  refine y_aload X (k := 0) (lv_at hl 3 rfl) dL_law_1230 ?_
  refine y_iload X (k := 3) (lv_at hl 0 rfl) dL_law_1231 ?_
  refine y_iconst X (1) dL_law_1232 (by decide) ?_
  refine y_iadd X dL_law_1233 ?_
  refine y_sld X (l_in (j := 1) hb hL (by decide)) dL_law_1234 ?_
  refine y_aload X (k := 0) (lv_at hl 3 rfl) dL_law_1235 ?_
  refine y_iload X (k := 3) (lv_at hl 0 rfl) dL_law_1236 ?_
  refine y_iconst X (2) dL_law_1237 (by decide) ?_
  refine y_iadd X dL_law_1238 ?_
  refine y_sld X (l_in (j := 2) hb hL (by decide)) dL_law_1239 ?_
  refine y_aload X (k := 0) (lv_at hl 3 rfl) dL_law_1240 ?_
  refine y_iload X (k := 3) (lv_at hl 0 rfl) dL_law_1241 ?_
  refine y_iconst X (3) dL_law_1242 (by decide) ?_
  refine y_iadd X dL_law_1243 ?_
  refine y_sld X (l_in (j := 3) hb hL (by decide)) dL_law_1244 ?_
  refine y_call X (d2 := 2) (M2 := mX9_get) (k := 1) [.int (xs (nI i + 1).toNatClampNeg), .int (xs (nI i + 2).toNatClampNeg), .int (xs (nI i + 3).toNatClampNeg)] dL_law_1245 kl_154 mvX9_get gk_1 rfl rfl rfl (Nat.le_of_ble_eq_true rfl) (by decide) hl.1 ?_
  refine (m_get (d := 0) hw t2).mono ?_
  intro v σ3 q
  obtain ⟨rfl, t3, f3⟩ := q
  exact y_eq X (tgt := 1386) dL_law_1248 rfl (nx _ σ3 (w_get hw) (i2.mo f3) t3)
set_option maxRecDepth 20000 in
theorem q_copy {D : va_G} {ad : Nat → Nat} {dA : Nat → ClassId} {p : Program} {l : Launch} {e : Env} {s : State} {m : MethodId} {args : Array Value} {below : List Frame} {meth : Method} {c : Code} {Q : State → Prop} {ls : Array Slot} {σ τ : gw_S} {b Lx i : Nat} {xs : Nat → Int32} (X : lX D ad dA p s m args c b Lx xs) (hw : WF τ) (hi : IC τ σ) (ht : TM τ σ) (hl : lv_has ls 4 [(3, .int (nI i)), (2, .ref (ad 1)), (1, .ref (ad 0)), (0, .ref b)]) (hb : i + 6 ≤ Lx) (hL : Lx ≤ 384) (nx : ∀ τ2 σ2, WF τ2 → IC τ2 σ2 → TM τ2 σ2 → lZ D ad dA p l e s m args below meth c Q 1386 ls [] σ2) : lZ D ad dA p l e s m args below meth c Q 1253 ls [] σ := by
  refine y_aload X (k := 1) (lv_at hl 2 rfl) dL_law_1253 ?_
  refine y_aload X (k := 0) (lv_at hl 3 rfl) dL_law_1254 ?_
  refine y_iload X (k := 3) (lv_at hl 0 rfl) dL_law_1255 ?_
  refine y_iconst X (1) dL_law_1256 (by decide) ?_
  refine y_iadd X dL_law_1257 ?_
  refine y_sld X (l_in (j := 1) hb hL (by decide)) dL_law_1258 ?_
  refine y_aload X (k := 0) (lv_at hl 3 rfl) dL_law_1259 ?_
  refine y_iload X (k := 3) (lv_at hl 0 rfl) dL_law_1260 ?_
  refine y_iconst X (2) dL_law_1261 (by decide) ?_
  refine y_iadd X dL_law_1262 ?_
  refine y_sld X (l_in (j := 2) hb hL (by decide)) dL_law_1263 ?_
  refine y_aload X (k := 0) (lv_at hl 3 rfl) dL_law_1264 ?_
  refine y_iload X (k := 3) (lv_at hl 0 rfl) dL_law_1265 ?_
  refine y_iconst X (3) dL_law_1266 (by decide) ?_
  refine y_iadd X dL_law_1267 ?_
  refine y_sld X (l_in (j := 3) hb hL (by decide)) dL_law_1268 ?_
  refine y_aload X (k := 0) (lv_at hl 3 rfl) dL_law_1269 ?_
  refine y_iload X (k := 3) (lv_at hl 0 rfl) dL_law_1270 ?_
  refine y_iconst X (4) dL_law_1271 (by decide) ?_
  refine y_iadd X dL_law_1272 ?_
  refine y_sld X (l_in (j := 4) hb hL (by decide)) dL_law_1273 ?_
  refine y_aload X (k := 0) (lv_at hl 3 rfl) dL_law_1274 ?_
  refine y_iload X (k := 3) (lv_at hl 0 rfl) dL_law_1275 ?_
  refine y_iconst X (5) dL_law_1276 (by decide) ?_
  refine y_iadd X dL_law_1277 ?_
  refine y_sld X (l_in (j := 5) hb hL (by decide)) dL_law_1278 ?_
  refine y_call X (d2 := 2) (M2 := mX8_copy) (k := 0) [.int (xs (nI i + 1).toNatClampNeg), .int (xs (nI i + 2).toNatClampNeg), .int (xs (nI i + 3).toNatClampNeg), .int (xs (nI i + 4).toNatClampNeg), .int (xs (nI i + 5).toNatClampNeg)] dL_law_1279 kl_155 mvX8_copy gk_0 rfl rfl rfl (Nat.le_of_ble_eq_true rfl) (by decide) hl.1 ?_
  refine (c_copy (d := 0) hw hi.1).mono ?_
  intro v σ2 q
  obtain ⟨rfl, i2, f2⟩ := QU.ic hi q
  have t2 := ht.cl f2
  refine y_aload X (k := 2) (lv_at hl 1 rfl) dL_law_1282 ?_
  refine y_aload X (k := 0) (lv_at hl 3 rfl) dL_law_1283 ?_
  refine y_iload X (k := 3) (lv_at hl 0 rfl) dL_law_1284 ?_
  refine y_iconst X (1) dL_law_1285 (by decide) ?_
  refine y_iadd X dL_law_1286 ?_
  refine y_sld X (l_in (j := 1) hb hL (by decide)) dL_law_1287 ?_
  refine y_aload X (k := 0) (lv_at hl 3 rfl) dL_law_1288 ?_
  refine y_iload X (k := 3) (lv_at hl 0 rfl) dL_law_1289 ?_
  refine y_iconst X (2) dL_law_1290 (by decide) ?_
  refine y_iadd X dL_law_1291 ?_
  refine y_sld X (l_in (j := 2) hb hL (by decide)) dL_law_1292 ?_
  refine y_aload X (k := 0) (lv_at hl 3 rfl) dL_law_1293 ?_
  refine y_iload X (k := 3) (lv_at hl 0 rfl) dL_law_1294 ?_
  refine y_iconst X (3) dL_law_1295 (by decide) ?_
  refine y_iadd X dL_law_1296 ?_
  refine y_sld X (l_in (j := 3) hb hL (by decide)) dL_law_1297 ?_
  refine y_aload X (k := 0) (lv_at hl 3 rfl) dL_law_1298 ?_
  refine y_iload X (k := 3) (lv_at hl 0 rfl) dL_law_1299 ?_
  refine y_iconst X (4) dL_law_1300 (by decide) ?_
  refine y_iadd X dL_law_1301 ?_
  refine y_sld X (l_in (j := 4) hb hL (by decide)) dL_law_1302 ?_
  refine y_aload X (k := 0) (lv_at hl 3 rfl) dL_law_1303 ?_
  refine y_iload X (k := 3) (lv_at hl 0 rfl) dL_law_1304 ?_
  refine y_iconst X (5) dL_law_1305 (by decide) ?_
  refine y_iadd X dL_law_1306 ?_
  refine y_sld X (l_in (j := 5) hb hL (by decide)) dL_law_1307 ?_
  refine y_call X (d2 := 2) (M2 := mX9_copy) (k := 1) [.int (xs (nI i + 1).toNatClampNeg), .int (xs (nI i + 2).toNatClampNeg), .int (xs (nI i + 3).toNatClampNeg), .int (xs (nI i + 4).toNatClampNeg), .int (xs (nI i + 5).toNatClampNeg)] dL_law_1308 kl_159 mvX9_copy gk_1 rfl rfl rfl (Nat.le_of_ble_eq_true rfl) (by decide) hl.1 ?_
  refine (m_copy (d := 0) hw t2).mono ?_
  intro v σ3 q
  obtain ⟨rfl, t3, f3⟩ := q
  exact y_eq X (tgt := 1386) dL_law_1311 rfl (nx _ σ3 (w_copy hw) (i2.mo f3) t3)
set_option maxRecDepth 20000 in
theorem q_write {D : va_G} {ad : Nat → Nat} {dA : Nat → ClassId} {p : Program} {l : Launch} {e : Env} {s : State} {m : MethodId} {args : Array Value} {below : List Frame} {meth : Method} {c : Code} {Q : State → Prop} {ls : Array Slot} {σ τ : gw_S} {b Lx i : Nat} {xs : Nat → Int32} (X : lX D ad dA p s m args c b Lx xs) (hw : WF τ) (hi : IC τ σ) (ht : TM τ σ) (hl : lv_has ls 4 [(3, .int (nI i)), (2, .ref (ad 1)), (1, .ref (ad 0)), (0, .ref b)]) (hb : i + 6 ≤ Lx) (hL : Lx ≤ 384) (nx : ∀ τ2 σ2, WF τ2 → IC τ2 σ2 → TM τ2 σ2 → lZ D ad dA p l e s m args below meth c Q 1386 ls [] σ2) : lZ D ad dA p l e s m args below meth c Q 1316 ls [] σ := by
  refine y_aload X (k := 1) (lv_at hl 2 rfl) dL_law_1316 ?_
  refine y_aload X (k := 0) (lv_at hl 3 rfl) dL_law_1317 ?_
  refine y_iload X (k := 3) (lv_at hl 0 rfl) dL_law_1318 ?_
  refine y_iconst X (1) dL_law_1319 (by decide) ?_
  refine y_iadd X dL_law_1320 ?_
  refine y_sld X (l_in (j := 1) hb hL (by decide)) dL_law_1321 ?_
  refine y_aload X (k := 0) (lv_at hl 3 rfl) dL_law_1322 ?_
  refine y_iload X (k := 3) (lv_at hl 0 rfl) dL_law_1323 ?_
  refine y_iconst X (2) dL_law_1324 (by decide) ?_
  refine y_iadd X dL_law_1325 ?_
  refine y_sld X (l_in (j := 2) hb hL (by decide)) dL_law_1326 ?_
  refine y_call X (d2 := 5) (M2 := mX8_write) (k := 0) [.int (xs (nI i + 1).toNatClampNeg), .int (xs (nI i + 2).toNatClampNeg)] dL_law_1327 kl_160 mvX8_write gk_0 rfl rfl rfl (Nat.le_of_ble_eq_true rfl) (by decide) hl.1 ?_
  refine (c_write (d := 0) hw hi.1 hi.2.1).mono ?_
  intro v σ2 q
  obtain ⟨rfl, i2, f2⟩ := QX.ic hi q
  have t2 := ht.cl f2
  refine y_aload X (k := 2) (lv_at hl 1 rfl) dL_law_1330 ?_
  refine y_aload X (k := 0) (lv_at hl 3 rfl) dL_law_1331 ?_
  refine y_iload X (k := 3) (lv_at hl 0 rfl) dL_law_1332 ?_
  refine y_iconst X (1) dL_law_1333 (by decide) ?_
  refine y_iadd X dL_law_1334 ?_
  refine y_sld X (l_in (j := 1) hb hL (by decide)) dL_law_1335 ?_
  refine y_aload X (k := 0) (lv_at hl 3 rfl) dL_law_1336 ?_
  refine y_iload X (k := 3) (lv_at hl 0 rfl) dL_law_1337 ?_
  refine y_iconst X (2) dL_law_1338 (by decide) ?_
  refine y_iadd X dL_law_1339 ?_
  refine y_sld X (l_in (j := 2) hb hL (by decide)) dL_law_1340 ?_
  refine y_call X (d2 := 8) (M2 := mX9_write) (k := 1) [.int (xs (nI i + 1).toNatClampNeg), .int (xs (nI i + 2).toNatClampNeg)] dL_law_1341 kl_163 mvX9_write gk_1 rfl rfl rfl (Nat.le_of_ble_eq_true rfl) (by decide) hl.1 ?_
  refine (m_write (d := 0) hw t2).mono ?_
  intro v σ3 q
  obtain ⟨rfl, t3, f3⟩ := q
  exact y_eq X (tgt := 1386) dL_law_1344 rfl (nx _ σ3 (w_write hw) (i2.mo f3) t3)
set_option maxRecDepth 20000 in
theorem q_count {D : va_G} {ad : Nat → Nat} {dA : Nat → ClassId} {p : Program} {l : Launch} {e : Env} {s : State} {m : MethodId} {args : Array Value} {below : List Frame} {meth : Method} {c : Code} {Q : State → Prop} {ls : Array Slot} {σ τ : gw_S} {b Lx i : Nat} {xs : Nat → Int32} (X : lX D ad dA p s m args c b Lx xs) (hw : WF τ) (hi : IC τ σ) (ht : TM τ σ) (hl : lv_has ls 4 [(3, .int (nI i)), (2, .ref (ad 1)), (1, .ref (ad 0)), (0, .ref b)]) (hb : i + 6 ≤ Lx) (hL : Lx ≤ 384) (nx : ∀ τ2 σ2, WF τ2 → IC τ2 σ2 → TM τ2 σ2 → lZ D ad dA p l e s m args below meth c Q 1386 ls [] σ2) : lZ D ad dA p l e s m args below meth c Q 1349 ls [] σ := by
  refine y_aload X (k := 1) (lv_at hl 2 rfl) dL_law_1349 ?_
  refine y_aload X (k := 0) (lv_at hl 3 rfl) dL_law_1350 ?_
  refine y_iload X (k := 3) (lv_at hl 0 rfl) dL_law_1351 ?_
  refine y_iconst X (1) dL_law_1352 (by decide) ?_
  refine y_iadd X dL_law_1353 ?_
  refine y_sld X (l_in (j := 1) hb hL (by decide)) dL_law_1354 ?_
  refine y_call X (d2 := 5) (M2 := mX8_count) (k := 0) [.int (xs (nI i + 1).toNatClampNeg)] dL_law_1355 kl_164 mvX8_count gk_0 rfl rfl rfl (Nat.le_of_ble_eq_true rfl) (by decide) hl.1 ?_
  refine (c_count (d := 0) hw hi.1 hi.2.1).mono ?_
  intro v σ2 q
  obtain ⟨rfl, i2, f2⟩ := QC.ic hi q
  have t2 := ht.cl f2
  refine y_aload X (k := 2) (lv_at hl 1 rfl) dL_law_1358 ?_
  refine y_aload X (k := 0) (lv_at hl 3 rfl) dL_law_1359 ?_
  refine y_iload X (k := 3) (lv_at hl 0 rfl) dL_law_1360 ?_
  refine y_iconst X (1) dL_law_1361 (by decide) ?_
  refine y_iadd X dL_law_1362 ?_
  refine y_sld X (l_in (j := 1) hb hL (by decide)) dL_law_1363 ?_
  refine y_call X (d2 := 8) (M2 := mX9_count) (k := 1) [.int (xs (nI i + 1).toNatClampNeg)] dL_law_1364 kl_167 mvX9_count gk_1 rfl rfl rfl (Nat.le_of_ble_eq_true rfl) (by decide) hl.1 ?_
  refine (m_count (d := 0) hw t2).mono ?_
  intro v σ3 q
  obtain ⟨rfl, t3, f3⟩ := QM.in q
  exact y_eq X (tgt := 1386) dL_law_1367 rfl (nx _ σ3 (hw) (i2.mo f3) t3)
set_option maxRecDepth 20000 in
theorem q_digest {D : va_G} {ad : Nat → Nat} {dA : Nat → ClassId} {p : Program} {l : Launch} {e : Env} {s : State} {m : MethodId} {args : Array Value} {below : List Frame} {meth : Method} {c : Code} {Q : State → Prop} {ls : Array Slot} {σ τ : gw_S} {b Lx i : Nat} {xs : Nat → Int32} (X : lX D ad dA p s m args c b Lx xs) (hw : WF τ) (hi : IC τ σ) (ht : TM τ σ) (hl : lv_has ls 4 [(3, .int (nI i)), (2, .ref (ad 1)), (1, .ref (ad 0)), (0, .ref b)]) (hb : i + 6 ≤ Lx) (hL : Lx ≤ 384) (nx : ∀ τ2 σ2, WF τ2 → IC τ2 σ2 → TM τ2 σ2 → lZ D ad dA p l e s m args below meth c Q 1386 ls [] σ2) : lZ D ad dA p l e s m args below meth c Q 1372 ls [] σ := by
  refine y_aload X (k := 1) (lv_at hl 2 rfl) dL_law_1372 ?_
  refine y_call X (d2 := 16) (M2 := mX8_digest) (k := 0) [] dL_law_1373 kl_168 mvX8_digest gk_0 rfl rfl rfl (Nat.le_of_ble_eq_true rfl) (by decide) hl.1 ?_
  refine (c_digest (d := 0) hw hi).mono ?_
  intro v σ2 q
  obtain ⟨rfl, i2, f2⟩ := q
  have t2 := ht.cl f2
  refine y_aload X (k := 2) (lv_at hl 1 rfl) dL_law_1376 ?_
  refine y_call X (d2 := 9) (M2 := mX9_digest) (k := 1) [] dL_law_1377 kl_172 mvX9_digest gk_1 rfl rfl rfl (Nat.le_of_ble_eq_true rfl) (by decide) hl.1 ?_
  refine (m_digest (d := 0) hw t2).mono ?_
  intro v σ3 q
  obtain ⟨rfl, t3, f3⟩ := q
  replace f3 := FSc.mo f3
  exact y_leq X (tgt := 1386) dL_law_1380 dL_law_1381 rfl (nx _ σ3 (hw) (i2.mo f3) t3)
set_option maxHeartbeats 4000000 in
set_option maxRecDepth 20000 in
theorem q_switch {D : va_G} {ad : Nat → Nat} {dA : Nat → ClassId} {p : Program} {l : Launch} {e : Env} {s : State} {m : MethodId} {args : Array Value} {below : List Frame} {meth : Method} {c : Code} {Q : State → Prop} {ls : Array Slot} {σ τ : gw_S} {b Lx i : Nat} {xs : Nat → Int32} {v : Int32} (X : lX D ad dA p s m args c b Lx xs) (hw : WF τ) (hi : IC τ σ) (ht : TM τ σ) (hl : lv_has ls 4 [(3, .int (nI i)), (2, .ref (ad 1)), (1, .ref (ad 0)), (0, .ref b)]) (hb : i + 6 ≤ Lx) (hL : Lx ≤ 384) (nx : ∀ τ2 σ2, WF τ2 → IC τ2 σ2 → TM τ2 σ2 → lZ D ad dA p l e s m args below meth c Q 1386 ls [] σ2) : lZ D ad dA p l e s m args below meth c Q 33 ls [.int v] σ := by
  intro H locs hP hS
  by_cases h1 : v.toInt < 0 ∨ 37 < v.toInt
  · exact lv_tableOut X.1 X.2.1 dL_law_33 h1 (tgt := 1386) rfl (nx τ σ hw hi ht H locs hP hS)
  · have hlo : ¬ v.toInt < 0 := fun q => h1 (Or.inl q)
    have hhi : ¬ 37 < v.toInt := fun q => h1 (Or.inr q)
    have : v.toInt = 0 ∨ v.toInt = 1 ∨ v.toInt = 2 ∨ v.toInt = 3 ∨ v.toInt = 4 ∨ v.toInt = 5 ∨ v.toInt = 6 ∨ v.toInt = 7 ∨ v.toInt = 8 ∨ v.toInt = 9 ∨ v.toInt = 10 ∨ v.toInt = 11 ∨ v.toInt = 12 ∨ v.toInt = 13 ∨ v.toInt = 14 ∨ v.toInt = 15 ∨ v.toInt = 16 ∨ v.toInt = 17 ∨ v.toInt = 18 ∨ v.toInt = 19 ∨ v.toInt = 20 ∨ v.toInt = 21 ∨ v.toInt = 22 ∨ v.toInt = 23 ∨ v.toInt = 24 ∨ v.toInt = 25 ∨ v.toInt = 26 ∨ v.toInt = 27 ∨ v.toInt = 28 ∨ v.toInt = 29 ∨ v.toInt = 30 ∨ v.toInt = 31 ∨ v.toInt = 32 ∨ v.toInt = 33 ∨ v.toInt = 34 ∨ v.toInt = 35 ∨ v.toInt = 36 ∨ v.toInt = 37 := by omega
    rcases this with h | h | h | h | h | h | h | h | h | h | h | h | h | h | h | h | h | h | h | h | h | h | h | h | h | h | h | h | h | h | h | h | h | h | h | h | h | h
    · exact lv_tableIn X.1 X.2.1 dL_law_33 hlo hhi (off := 167) (by rw [h]; rfl) (tgt := 200) rfl (q_type X hw hi ht hl hb hL nx H locs hP hS)
    · exact lv_tableIn X.1 X.2.1 dL_law_33 hlo hhi (off := 200) (by rw [h]; rfl) (tgt := 233) rfl (q_wipe X hw hi ht hl hb hL nx H locs hP hS)
    · exact lv_tableIn X.1 X.2.1 dL_law_33 hlo hhi (off := 223) (by rw [h]; rfl) (tgt := 256) rfl (q_undo X hw hi ht hl hb hL nx H locs hP hS)
    · exact lv_tableIn X.1 X.2.1 dL_law_33 hlo hhi (off := 246) (by rw [h]; rfl) (tgt := 279) rfl (q_fault X hw hi ht hl hb hL nx H locs hP hS)
    · exact lv_tableIn X.1 X.2.1 dL_law_33 hlo hhi (off := 269) (by rw [h]; rfl) (tgt := 302) rfl (q_bottle X hw hi ht hl hb hL nx H locs hP hS)
    · exact lv_tableIn X.1 X.2.1 dL_law_33 hlo hhi (off := 302) (by rw [h]; rfl) (tgt := 335) rfl (q_note X hw hi ht hl hb hL nx H locs hP hS)
    · exact lv_tableIn X.1 X.2.1 dL_law_33 hlo hhi (off := 325) (by rw [h]; rfl) (tgt := 358) rfl (q_burst X hw hi ht hl hb hL nx H locs hP hS)
    · exact lv_tableIn X.1 X.2.1 dL_law_33 hlo hhi (off := 348) (by rw [h]; rfl) (tgt := 381) rfl (q_hot X hw hi ht hl hb hL nx H locs hP hS)
    · exact lv_tableIn X.1 X.2.1 dL_law_33 hlo hhi (off := 371) (by rw [h]; rfl) (tgt := 404) rfl (q_act X hw hi ht hl hb hL nx H locs hP hS)
    · exact lv_tableIn X.1 X.2.1 dL_law_33 hlo hhi (off := 424) (by rw [h]; rfl) (tgt := 457) rfl (q_back X hw hi ht hl hb hL nx H locs hP hS)
    · exact lv_tableIn X.1 X.2.1 dL_law_33 hlo hhi (off := 447) (by rw [h]; rfl) (tgt := 480) rfl (q_read X hw hi ht hl hb hL nx H locs hP hS)
    · exact lv_tableIn X.1 X.2.1 dL_law_33 hlo hhi (off := 470) (by rw [h]; rfl) (tgt := 503) rfl (q_holds X hw hi ht hl hb hL nx H locs hP hS)
    · exact lv_tableIn X.1 X.2.1 dL_law_33 hlo hhi (off := 513) (by rw [h]; rfl) (tgt := 546) rfl (q_who X hw hi ht hl hb hL nx H locs hP hS)
    · exact lv_tableIn X.1 X.2.1 dL_law_33 hlo hhi (off := 546) (by rw [h]; rfl) (tgt := 579) rfl (q_whole X hw hi ht hl hb hL nx H locs hP hS)
    · exact lv_tableIn X.1 X.2.1 dL_law_33 hlo hhi (off := 579) (by rw [h]; rfl) (tgt := 612) rfl (q_has X hw hi ht hl hb hL nx H locs hP hS)
    · exact lv_tableIn X.1 X.2.1 dL_law_33 hlo hhi (off := 612) (by rw [h]; rfl) (tgt := 645) rfl (q_heard X hw hi ht hl hb hL nx H locs hP hS)
    · exact lv_tableIn X.1 X.2.1 dL_law_33 hlo hhi (off := 645) (by rw [h]; rfl) (tgt := 678) rfl (q_spilled X hw hi ht hl hb hL nx H locs hP hS)
    · exact lv_tableIn X.1 X.2.1 dL_law_33 hlo hhi (off := 678) (by rw [h]; rfl) (tgt := 711) rfl (q_leaked X hw hi ht hl hb hL nx H locs hP hS)
    · exact lv_tableIn X.1 X.2.1 dL_law_33 hlo hhi (off := 701) (by rw [h]; rfl) (tgt := 734) rfl (q_lost X hw hi ht hl hb hL nx H locs hP hS)
    · exact lv_tableIn X.1 X.2.1 dL_law_33 hlo hhi (off := 724) (by rw [h]; rfl) (tgt := 757) rfl (q_works X hw hi ht hl hb hL nx H locs hP hS)
    · exact lv_tableIn X.1 X.2.1 dL_law_33 hlo hhi (off := 747) (by rw [h]; rfl) (tgt := 780) rfl (q_sing X hw hi ht hl hb hL nx H locs hP hS)
    · exact lv_tableIn X.1 X.2.1 dL_law_33 hlo hhi (off := 780) (by rw [h]; rfl) (tgt := 813) rfl (q_corks X hw hi ht hl hb hL nx H locs hP hS)
    · exact lv_tableIn X.1 X.2.1 dL_law_33 hlo hhi (off := 813) (by rw [h]; rfl) (tgt := 846) rfl (q_most X hw hi ht hl hb hL nx H locs hP hS)
    · exact lv_tableIn X.1 X.2.1 dL_law_33 hlo hhi (off := 846) (by rw [h]; rfl) (tgt := 879) rfl (q_weighed X hw hi ht hl hb hL nx H locs hP hS)
    · exact lv_tableIn X.1 X.2.1 dL_law_33 hlo hhi (off := 889) (by rw [h]; rfl) (tgt := 922) rfl (q_forget X hw hi ht hl hb hL nx H locs hP hS)
    · exact lv_tableIn X.1 X.2.1 dL_law_33 hlo hhi (off := 902) (by rw [h]; rfl) (tgt := 935) rfl (q_hid X hw hi ht hl hb hL nx H locs hP hS)
    · exact lv_tableIn X.1 X.2.1 dL_law_33 hlo hhi (off := 915) (by rw [h]; rfl) (tgt := 948) rfl (q_swapped X hw hi ht hl hb hL nx H locs hP hS)
    · exact lv_tableIn X.1 X.2.1 dL_law_33 hlo hhi (off := 938) (by rw [h]; rfl) (tgt := 971) rfl (q_weigh X hw hi ht hl hb hL nx H locs hP hS)
    · exact lv_tableIn X.1 X.2.1 dL_law_33 hlo hhi (off := 961) (by rw [h]; rfl) (tgt := 994) rfl (q_heat X hw hi ht hl hb hL nx H locs hP hS)
    · exact lv_tableIn X.1 X.2.1 dL_law_33 hlo hhi (off := 1015) (by rw [h]; rfl) (tgt := 1048) rfl (q_market X hw hi ht hl hb hL nx H locs hP hS)
    · exact lv_tableIn X.1 X.2.1 dL_law_33 hlo hhi (off := 1058) (by rw [h]; rfl) (tgt := 1091) rfl (q_sheet X hw hi ht hl hb hL nx H locs hP hS)
    · exact lv_tableIn X.1 X.2.1 dL_law_33 hlo hhi (off := 1101) (by rw [h]; rfl) (tgt := 1134) rfl (q_lose X hw hi ht hl hb hL nx H locs hP hS)
    · exact lv_tableIn X.1 X.2.1 dL_law_33 hlo hhi (off := 1124) (by rw [h]; rfl) (tgt := 1157) rfl (q_put X hw hi ht hl hb hL nx H locs hP hS)
    · exact lv_tableIn X.1 X.2.1 dL_law_33 hlo hhi (off := 1177) (by rw [h]; rfl) (tgt := 1210) rfl (q_get X hw hi ht hl hb hL nx H locs hP hS)
    · exact lv_tableIn X.1 X.2.1 dL_law_33 hlo hhi (off := 1220) (by rw [h]; rfl) (tgt := 1253) rfl (q_copy X hw hi ht hl hb hL nx H locs hP hS)
    · exact lv_tableIn X.1 X.2.1 dL_law_33 hlo hhi (off := 1283) (by rw [h]; rfl) (tgt := 1316) rfl (q_write X hw hi ht hl hb hL nx H locs hP hS)
    · exact lv_tableIn X.1 X.2.1 dL_law_33 hlo hhi (off := 1316) (by rw [h]; rfl) (tgt := 1349) rfl (q_count X hw hi ht hl hb hL nx H locs hP hS)
    · exact lv_tableIn X.1 X.2.1 dL_law_33 hlo hhi (off := 1339) (by rw [h]; rfl) (tgt := 1372) rfl (q_digest X hw hi ht hl hb hL nx H locs hP hS)
