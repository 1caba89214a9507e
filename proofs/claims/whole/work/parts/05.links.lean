set_option maxRecDepth 20000 in
theorem lgX0 : ∀ w ∈ wsX00, w ∈ gw_tb := fun w h => gw_in (inX0 w h) (List.all_eq_true.mp (show (wsX00).all goodWord = true by decide +kernel) w h)
set_option maxRecDepth 20000 in
theorem lgX1 : ∀ w ∈ wsX10, w ∈ gw_tb := fun w h => gw_in (inX1 w h) (List.all_eq_true.mp (show (wsX10).all goodWord = true by decide +kernel) w h)
set_option maxRecDepth 20000 in
theorem lgX2 : ∀ w ∈ wsX20, w ∈ gw_tb := fun w h => gw_in (inX2 w h) (List.all_eq_true.mp (show (wsX20).all goodWord = true by decide +kernel) w h)
set_option maxRecDepth 20000 in
theorem lgX3 : ∀ w ∈ wsX30, w ∈ gw_tb := fun w h => gw_in (inX3 w h) (List.all_eq_true.mp (show (wsX30).all goodWord = true by decide +kernel) w h)
set_option maxRecDepth 20000 in
theorem lgX4 : ∀ w ∈ wsX40, w ∈ gw_tb := fun w h => gw_in (inX4 w h) (List.all_eq_true.mp (show (wsX40).all goodWord = true by decide +kernel) w h)
set_option maxRecDepth 20000 in
theorem lgX5 : ∀ w ∈ wsX50, w ∈ gw_tb := fun w h => gw_in (inX5 w h) (List.all_eq_true.mp (show (wsX50).all goodWord = true by decide +kernel) w h)
set_option maxRecDepth 20000 in
theorem lgX6 : ∀ w ∈ wsX60, w ∈ gw_tb := fun w h => gw_in (inX6 w h) (List.all_eq_true.mp (show (wsX60).all goodWord = true by decide +kernel) w h)
set_option maxRecDepth 20000 in
theorem lgX7 : ∀ w ∈ wsX70, w ∈ gw_tb := fun w h => gw_in (inX7 w h) (List.all_eq_true.mp (show (wsX70).all goodWord = true by decide +kernel) w h)
set_option maxRecDepth 20000 in
theorem lgX8 : ∀ w ∈ wsX80, w ∈ gw_tb := fun w h => gw_in (inX8 w h) (List.all_eq_true.mp (show (wsX80).all goodWord = true by decide +kernel) w h)
set_option maxRecDepth 20000 in
theorem lgX9 : ∀ w ∈ wsX90, w ∈ gw_tb := fun w h => gw_in (inX9 w h) (List.all_eq_true.mp (show (wsX90).all goodWord = true by decide +kernel) w h)
abbrev mJ13_numberOfTrailingZeros_95d88 : gw_M := (yJ13_numberOfTrailingZeros_95d88, cJ13_numberOfTrailingZeros_95d88, 3, some .int)
set_option maxRecDepth 20000 in
theorem moJ13_numberOfTrailingZeros_95d88 : gw_mo mJ13_numberOfTrailingZeros_95d88 1 := ⟨gw_in (List.mem_append_right _ (List.mem_append_right _ (List.mem_append_right _ (List.mem_append_left _ (List.mem_of_getElem? (i := 179) rfl))))) rfl, gw_in (List.mem_append_right _ (List.mem_append_left _ (List.mem_of_getElem? (i := 16) rfl))) rfl, by decide +kernel, by decide⟩
set_option maxRecDepth 20000 in
theorem msJ13_numberOfTrailingZeros_95d88 : gw_ms mJ13_numberOfTrailingZeros_95d88 1 := ⟨moJ13_numberOfTrailingZeros_95d88, gw_in (List.mem_append_right _ (List.mem_append_right _ (List.mem_append_right _ (List.mem_append_left _ (List.mem_of_getElem? (i := 178) rfl))))) rfl⟩
abbrev mJ6_bitCount_0f7a4 : gw_M := (yJ6_bitCount_0f7a4, cJ6_bitCount_0f7a4, 1, some .int)
set_option maxRecDepth 20000 in
theorem moJ6_bitCount_0f7a4 : gw_mo mJ6_bitCount_0f7a4 1 := ⟨gw_in (List.mem_append_right _ (List.mem_append_right _ (List.mem_append_right _ (List.mem_append_left _ (List.mem_of_getElem? (i := 88) rfl))))) rfl, gw_in (List.mem_append_right _ (List.mem_append_left _ (List.mem_of_getElem? (i := 14) rfl))) rfl, by decide +kernel, by decide⟩
set_option maxRecDepth 20000 in
theorem msJ6_bitCount_0f7a4 : gw_ms mJ6_bitCount_0f7a4 1 := ⟨moJ6_bitCount_0f7a4, gw_in (List.mem_append_right _ (List.mem_append_right _ (List.mem_append_right _ (List.mem_append_left _ (List.mem_of_getElem? (i := 87) rfl))))) rfl⟩
abbrev mJ6_numberOfTrailingZeros_0f7a4 : gw_M := (yJ6_numberOfTrailingZeros_0f7a4, cJ6_numberOfTrailingZeros_0f7a4, 2, some .int)
set_option maxRecDepth 20000 in
theorem moJ6_numberOfTrailingZeros_0f7a4 : gw_mo mJ6_numberOfTrailingZeros_0f7a4 1 := ⟨gw_in (List.mem_append_right _ (List.mem_append_right _ (List.mem_append_right _ (List.mem_append_left _ (List.mem_of_getElem? (i := 182) rfl))))) rfl, gw_in (List.mem_append_right _ (List.mem_append_left _ (List.mem_of_getElem? (i := 14) rfl))) rfl, by decide +kernel, by decide⟩
set_option maxRecDepth 20000 in
theorem msJ6_numberOfTrailingZeros_0f7a4 : gw_ms mJ6_numberOfTrailingZeros_0f7a4 1 := ⟨moJ6_numberOfTrailingZeros_0f7a4, gw_in (List.mem_append_right _ (List.mem_append_right _ (List.mem_append_right _ (List.mem_append_left _ (List.mem_of_getElem? (i := 181) rfl))))) rfl⟩
abbrev mJ7_fill_53178 : gw_M := (yJ7_fill_53178, cJ7_fill_53178, 4, none)
set_option maxRecDepth 20000 in
theorem moJ7_fill_53178 : gw_mo mJ7_fill_53178 2 := ⟨gw_in (List.mem_append_right _ (List.mem_append_left _ (List.mem_of_getElem? (i := 207) rfl))) rfl, gw_in (List.mem_append_right _ (List.mem_append_left _ (List.mem_of_getElem? (i := 10) rfl))) rfl, by decide +kernel, by decide⟩
set_option maxRecDepth 20000 in
theorem msJ7_fill_53178 : gw_ms mJ7_fill_53178 2 := ⟨moJ7_fill_53178, gw_in (List.mem_append_right _ (List.mem_append_left _ (List.mem_of_getElem? (i := 206) rfl))) rfl⟩
abbrev mJ9_max_7cf53 : gw_M := (yJ9_max_7cf53, cJ9_max_7cf53, 2, some .int)
set_option maxRecDepth 20000 in
theorem moJ9_max_7cf53 : gw_mo mJ9_max_7cf53 2 := ⟨gw_in (List.mem_append_right _ (List.mem_append_right _ (List.mem_append_right _ (List.mem_append_left _ (List.mem_of_getElem? (i := 134) rfl))))) rfl, gw_in (List.mem_append_right _ (List.mem_append_left _ (List.mem_of_getElem? (i := 3) rfl))) rfl, by decide +kernel, by decide⟩
set_option maxRecDepth 20000 in
theorem msJ9_max_7cf53 : gw_ms mJ9_max_7cf53 2 := ⟨moJ9_max_7cf53, gw_in (List.mem_append_right _ (List.mem_append_right _ (List.mem_append_right _ (List.mem_append_left _ (List.mem_of_getElem? (i := 133) rfl))))) rfl⟩
abbrev mJ9_min_7cf53 : gw_M := (yJ9_min_7cf53, cJ9_min_7cf53, 2, some .int)
set_option maxRecDepth 20000 in
theorem moJ9_min_7cf53 : gw_mo mJ9_min_7cf53 2 := ⟨gw_in (List.mem_append_right _ (List.mem_append_left _ (List.mem_of_getElem? (i := 33) rfl))) rfl, gw_in (List.mem_append_right _ (List.mem_append_left _ (List.mem_of_getElem? (i := 3) rfl))) rfl, by decide +kernel, by decide⟩
set_option maxRecDepth 20000 in
theorem msJ9_min_7cf53 : gw_ms mJ9_min_7cf53 2 := ⟨moJ9_min_7cf53, gw_in (List.mem_append_right _ (List.mem_append_left _ (List.mem_of_getElem? (i := 32) rfl))) rfl⟩
abbrev mX1_findingAt : gw_M := (yX1_findingAt, cX1_findingAt, 4, some .int)
set_option maxRecDepth 20000 in
theorem moX1_findingAt : gw_mo mX1_findingAt 3 := ⟨gw_in (List.mem_append_right _ (List.mem_append_right _ (List.mem_append_right _ (List.mem_append_left _ (List.mem_of_getElem? (i := 210) rfl))))) rfl, gw_in (List.mem_append_right _ (List.mem_append_left _ (List.mem_of_getElem? (i := 9) rfl))) rfl, by decide +kernel, by decide⟩
set_option maxRecDepth 20000 in
theorem mvX1_findingAt : gw_mv mX1_findingAt 3 := ⟨moX1_findingAt, gw_in (List.mem_append_right _ (List.mem_append_right _ (List.mem_append_right _ (List.mem_append_left _ (List.mem_of_getElem? (i := 208) rfl))))) rfl, gw_in (List.mem_append_right _ (List.mem_append_right _ (List.mem_append_right _ (List.mem_append_left _ (List.mem_of_getElem? (i := 209) rfl))))) rfl⟩
abbrev mX1_hasItems : gw_M := (yX1_hasItems, cX1_hasItems, 4, some .boolean)
set_option maxRecDepth 20000 in
theorem moX1_hasItems : gw_mo mX1_hasItems 3 := ⟨gw_in (List.mem_append_right _ (List.mem_append_right _ (List.mem_append_right _ (List.mem_append_left _ (List.mem_of_getElem? (i := 228) rfl))))) rfl, gw_in (List.mem_append_right _ (List.mem_append_left _ (List.mem_of_getElem? (i := 9) rfl))) rfl, by decide +kernel, by decide⟩
set_option maxRecDepth 20000 in
theorem mvX1_hasItems : gw_mv mX1_hasItems 3 := ⟨moX1_hasItems, gw_in (List.mem_append_right _ (List.mem_append_right _ (List.mem_append_right _ (List.mem_append_left _ (List.mem_of_getElem? (i := 226) rfl))))) rfl, gw_in (List.mem_append_right _ (List.mem_append_right _ (List.mem_append_right _ (List.mem_append_left _ (List.mem_of_getElem? (i := 227) rfl))))) rfl⟩
abbrev mX1_setItem : gw_M := (yX1_setItem, cX1_setItem, 4, none)
set_option maxRecDepth 20000 in
theorem moX1_setItem : gw_mo mX1_setItem 3 := ⟨gw_in (List.mem_append_right _ (List.mem_append_right _ (List.mem_append_right _ (List.mem_append_left _ (List.mem_of_getElem? (i := 215) rfl))))) rfl, gw_in (List.mem_append_right _ (List.mem_append_left _ (List.mem_of_getElem? (i := 9) rfl))) rfl, by decide +kernel, by decide⟩
set_option maxRecDepth 20000 in
theorem mvX1_setItem : gw_mv mX1_setItem 3 := ⟨moX1_setItem, gw_in (List.mem_append_right _ (List.mem_append_right _ (List.mem_append_right _ (List.mem_append_left _ (List.mem_of_getElem? (i := 213) rfl))))) rfl, gw_in (List.mem_append_right _ (List.mem_append_right _ (List.mem_append_right _ (List.mem_append_left _ (List.mem_of_getElem? (i := 214) rfl))))) rfl⟩
abbrev mX2_isFree : gw_M := (yX2_isFree, cX2_isFree, 4, some .boolean)
set_option maxRecDepth 20000 in
theorem moX2_isFree : gw_mo mX2_isFree 3 := ⟨gw_in (List.mem_append_right _ (List.mem_append_right _ (List.mem_append_right _ (List.mem_append_left _ (List.mem_of_getElem? (i := 73) rfl))))) rfl, gw_in (List.mem_append_right _ (List.mem_append_left _ (List.mem_of_getElem? (i := 7) rfl))) rfl, by decide +kernel, by decide⟩
set_option maxRecDepth 20000 in
theorem mvX2_isFree : gw_mv mX2_isFree 3 := ⟨moX2_isFree, gw_in (List.mem_append_right _ (List.mem_append_right _ (List.mem_append_right _ (List.mem_append_left _ (List.mem_of_getElem? (i := 72) rfl))))) rfl, gw_in (List.mem_append_left _ (List.mem_of_getElem? (i := 11) rfl)) rfl⟩
abbrev mX2_leastFrom : gw_M := (yX2_leastFrom, cX2_leastFrom, 5, some .int)
set_option maxRecDepth 20000 in
theorem moX2_leastFrom : gw_mo mX2_leastFrom 3 := ⟨gw_in (List.mem_append_right _ (List.mem_append_right _ (List.mem_append_right _ (List.mem_append_left _ (List.mem_of_getElem? (i := 69) rfl))))) rfl, gw_in (List.mem_append_right _ (List.mem_append_left _ (List.mem_of_getElem? (i := 7) rfl))) rfl, by decide +kernel, by decide⟩
set_option maxRecDepth 20000 in
theorem msX2_leastFrom : gw_ms mX2_leastFrom 3 := ⟨moX2_leastFrom, gw_in (List.mem_append_right _ (List.mem_append_right _ (List.mem_append_right _ (List.mem_append_left _ (List.mem_of_getElem? (i := 68) rfl))))) rfl⟩
abbrev mX2_leastNext : gw_M := (yX2_leastNext, cX2_leastNext, 5, some .int)
set_option maxRecDepth 20000 in
theorem moX2_leastNext : gw_mo mX2_leastNext 2 := ⟨gw_in (List.mem_append_right _ (List.mem_append_right _ (List.mem_append_right _ (List.mem_append_left _ (List.mem_of_getElem? (i := 77) rfl))))) rfl, gw_in (List.mem_append_right _ (List.mem_append_left _ (List.mem_of_getElem? (i := 7) rfl))) rfl, by decide +kernel, by decide⟩
set_option maxRecDepth 20000 in
theorem mvX2_leastNext : gw_mv mX2_leastNext 2 := ⟨moX2_leastNext, gw_in (List.mem_append_right _ (List.mem_append_right _ (List.mem_append_right _ (List.mem_append_left _ (List.mem_of_getElem? (i := 76) rfl))))) rfl, gw_in (List.mem_append_left _ (List.mem_of_getElem? (i := 12) rfl)) rfl⟩
abbrev mX2_seekLeast : gw_M := (yX2_seekLeast, cX2_seekLeast, 5, none)
set_option maxRecDepth 20000 in
theorem moX2_seekLeast : gw_mo mX2_seekLeast 1 := ⟨gw_in (List.mem_append_right _ (List.mem_append_right _ (List.mem_append_right _ (List.mem_append_left _ (List.mem_of_getElem? (i := 57) rfl))))) rfl, gw_in (List.mem_append_right _ (List.mem_append_left _ (List.mem_of_getElem? (i := 7) rfl))) rfl, by decide +kernel, by decide⟩
set_option maxRecDepth 20000 in
theorem mvX2_seekLeast : gw_mv mX2_seekLeast 1 := ⟨moX2_seekLeast, gw_in (List.mem_append_right _ (List.mem_append_right _ (List.mem_append_right _ (List.mem_append_left _ (List.mem_of_getElem? (i := 55) rfl))))) rfl, gw_in (List.mem_append_right _ (List.mem_append_right _ (List.mem_append_right _ (List.mem_append_left _ (List.mem_of_getElem? (i := 56) rfl))))) rfl⟩
abbrev mX2_seekRow : gw_M := (yX2_seekRow, cX2_seekRow, 4, none)
set_option maxRecDepth 20000 in
theorem moX2_seekRow : gw_mo mX2_seekRow 1 := ⟨gw_in (List.mem_append_right _ (List.mem_append_right _ (List.mem_append_right _ (List.mem_append_left _ (List.mem_of_getElem? (i := 53) rfl))))) rfl, gw_in (List.mem_append_right _ (List.mem_append_left _ (List.mem_of_getElem? (i := 7) rfl))) rfl, by decide +kernel, by decide⟩
set_option maxRecDepth 20000 in
theorem mvX2_seekRow : gw_mv mX2_seekRow 1 := ⟨moX2_seekRow, gw_in (List.mem_append_right _ (List.mem_append_right _ (List.mem_append_right _ (List.mem_append_left _ (List.mem_of_getElem? (i := 51) rfl))))) rfl, gw_in (List.mem_append_right _ (List.mem_append_right _ (List.mem_append_right _ (List.mem_append_left _ (List.mem_of_getElem? (i := 52) rfl))))) rfl⟩
abbrev mX2_takeFrom : gw_M := (yX2_takeFrom, cX2_takeFrom, 3, none)
set_option maxRecDepth 20000 in
theorem moX2_takeFrom : gw_mo mX2_takeFrom 1 := ⟨gw_in (List.mem_append_right _ (List.mem_append_right _ (List.mem_append_left _ (List.mem_of_getElem? (i := 118) rfl)))) rfl, gw_in (List.mem_append_right _ (List.mem_append_left _ (List.mem_of_getElem? (i := 7) rfl))) rfl, by decide +kernel, by decide⟩
set_option maxRecDepth 20000 in
theorem mvX2_takeFrom : gw_mv mX2_takeFrom 1 := ⟨moX2_takeFrom, gw_in (List.mem_append_right _ (List.mem_append_right _ (List.mem_append_left _ (List.mem_of_getElem? (i := 116) rfl)))) rfl, gw_in (List.mem_append_right _ (List.mem_append_right _ (List.mem_append_left _ (List.mem_of_getElem? (i := 117) rfl)))) rfl⟩
abbrev mX2_voices : gw_M := (yX2_voices, cX2_voices, 3, some .int)
set_option maxRecDepth 20000 in
theorem moX2_voices : gw_mo mX2_voices 0 := ⟨gw_in (List.mem_append_right _ (List.mem_append_right _ (List.mem_append_right _ (List.mem_append_left _ (List.mem_of_getElem? (i := 61) rfl))))) rfl, gw_in (List.mem_append_right _ (List.mem_append_left _ (List.mem_of_getElem? (i := 7) rfl))) rfl, by decide +kernel, by decide⟩
set_option maxRecDepth 20000 in
theorem mvX2_voices : gw_mv mX2_voices 0 := ⟨moX2_voices, gw_in (List.mem_append_right _ (List.mem_append_right _ (List.mem_append_right _ (List.mem_append_left _ (List.mem_of_getElem? (i := 60) rfl))))) rfl, gw_in (List.mem_append_left _ (List.mem_of_getElem? (i := 10) rfl)) rfl⟩
abbrev mX3_allIn : gw_M := (yX3_allIn, cX3_allIn, 4, some .int)
set_option maxRecDepth 20000 in
theorem moX3_allIn : gw_mo mX3_allIn 1 := ⟨gw_in (List.mem_append_right _ (List.mem_append_right _ (List.mem_append_left _ (List.mem_of_getElem? (i := 235) rfl)))) rfl, gw_in (List.mem_append_right _ (List.mem_append_left _ (List.mem_of_getElem? (i := 11) rfl))) rfl, by decide +kernel, by decide⟩
set_option maxRecDepth 20000 in
theorem mvX3_allIn : gw_mv mX3_allIn 1 := ⟨moX3_allIn, gw_in (List.mem_append_right _ (List.mem_append_right _ (List.mem_append_left _ (List.mem_of_getElem? (i := 233) rfl)))) rfl, gw_in (List.mem_append_right _ (List.mem_append_right _ (List.mem_append_left _ (List.mem_of_getElem? (i := 234) rfl)))) rfl⟩
abbrev mX3_become : gw_M := (yX3_become, cX3_become, 2, none)
set_option maxRecDepth 20000 in
theorem moX3_become : gw_mo mX3_become 1 := ⟨gw_in (List.mem_append_right _ (List.mem_append_right _ (List.mem_append_right _ (List.mem_append_left _ (List.mem_of_getElem? (i := 169) rfl))))) rfl, gw_in (List.mem_append_right _ (List.mem_append_left _ (List.mem_of_getElem? (i := 11) rfl))) rfl, by decide +kernel, by decide⟩
set_option maxRecDepth 20000 in
theorem mvX3_become : gw_mv mX3_become 1 := ⟨moX3_become, gw_in (List.mem_append_right _ (List.mem_append_right _ (List.mem_append_right _ (List.mem_append_left _ (List.mem_of_getElem? (i := 167) rfl))))) rfl, gw_in (List.mem_append_right _ (List.mem_append_right _ (List.mem_append_right _ (List.mem_append_left _ (List.mem_of_getElem? (i := 168) rfl))))) rfl⟩
abbrev mX3_begin : gw_M := (yX3_begin, cX3_begin, 6, none)
set_option maxRecDepth 20000 in
theorem moX3_begin : gw_mo mX3_begin 3 := ⟨gw_in (List.mem_append_right _ (List.mem_append_right _ (List.mem_append_left _ (List.mem_of_getElem? (i := 193) rfl)))) rfl, gw_in (List.mem_append_right _ (List.mem_append_left _ (List.mem_of_getElem? (i := 11) rfl))) rfl, by decide +kernel, by decide⟩
set_option maxRecDepth 20000 in
theorem mvX3_begin : gw_mv mX3_begin 3 := ⟨moX3_begin, gw_in (List.mem_append_right _ (List.mem_append_right _ (List.mem_append_left _ (List.mem_of_getElem? (i := 191) rfl)))) rfl, gw_in (List.mem_append_right _ (List.mem_append_right _ (List.mem_append_left _ (List.mem_of_getElem? (i := 192) rfl)))) rfl⟩
abbrev mX3_burstAll : gw_M := (yX3_burstAll, cX3_burstAll, 3, none)
set_option maxRecDepth 20000 in
theorem moX3_burstAll : gw_mo mX3_burstAll 1 := ⟨gw_in (List.mem_append_right _ (List.mem_append_right _ (List.mem_append_left _ (List.mem_of_getElem? (i := 239) rfl)))) rfl, gw_in (List.mem_append_right _ (List.mem_append_left _ (List.mem_of_getElem? (i := 11) rfl))) rfl, by decide +kernel, by decide⟩
set_option maxRecDepth 20000 in
theorem mvX3_burstAll : gw_mv mX3_burstAll 1 := ⟨moX3_burstAll, gw_in (List.mem_append_right _ (List.mem_append_right _ (List.mem_append_left _ (List.mem_of_getElem? (i := 237) rfl)))) rfl, gw_in (List.mem_append_right _ (List.mem_append_right _ (List.mem_append_left _ (List.mem_of_getElem? (i := 238) rfl)))) rfl⟩
abbrev mX3_doAct : gw_M := (yX3_doAct, cX3_doAct, 5, some .boolean)
set_option maxRecDepth 20000 in
theorem moX3_doAct : gw_mo mX3_doAct 3 := ⟨gw_in (List.mem_append_right _ (List.mem_append_right _ (List.mem_append_left _ (List.mem_of_getElem? (i := 206) rfl)))) rfl, gw_in (List.mem_append_right _ (List.mem_append_left _ (List.mem_of_getElem? (i := 11) rfl))) rfl, by decide +kernel, by decide⟩
set_option maxRecDepth 20000 in
theorem mvX3_doAct : gw_mv mX3_doAct 3 := ⟨moX3_doAct, gw_in (List.mem_append_right _ (List.mem_append_right _ (List.mem_append_left _ (List.mem_of_getElem? (i := 204) rfl)))) rfl, gw_in (List.mem_append_right _ (List.mem_append_right _ (List.mem_append_left _ (List.mem_of_getElem? (i := 205) rfl)))) rfl⟩
abbrev mX3_isWhole : gw_M := (yX3_isWhole, cX3_isWhole, 2, some .boolean)
set_option maxRecDepth 20000 in
theorem moX3_isWhole : gw_mo mX3_isWhole 1 := ⟨gw_in (List.mem_append_right _ (List.mem_append_right _ (List.mem_append_left _ (List.mem_of_getElem? (i := 211) rfl)))) rfl, gw_in (List.mem_append_right _ (List.mem_append_left _ (List.mem_of_getElem? (i := 11) rfl))) rfl, by decide +kernel, by decide⟩
set_option maxRecDepth 20000 in
theorem mvX3_isWhole : gw_mv mX3_isWhole 1 := ⟨moX3_isWhole, gw_in (List.mem_append_right _ (List.mem_append_right _ (List.mem_append_left _ (List.mem_of_getElem? (i := 209) rfl)))) rfl, gw_in (List.mem_append_right _ (List.mem_append_right _ (List.mem_append_left _ (List.mem_of_getElem? (i := 210) rfl)))) rfl⟩
abbrev mX3_leak : gw_M := (yX3_leak, cX3_leak, 4, none)
set_option maxRecDepth 20000 in
theorem moX3_leak : gw_mo mX3_leak 0 := ⟨gw_in (List.mem_append_right _ (List.mem_append_right _ (List.mem_append_left _ (List.mem_of_getElem? (i := 223) rfl)))) rfl, gw_in (List.mem_append_right _ (List.mem_append_left _ (List.mem_of_getElem? (i := 11) rfl))) rfl, by decide +kernel, by decide⟩
set_option maxRecDepth 20000 in
theorem mvX3_leak : gw_mv mX3_leak 0 := ⟨moX3_leak, gw_in (List.mem_append_right _ (List.mem_append_right _ (List.mem_append_left _ (List.mem_of_getElem? (i := 222) rfl)))) rfl, gw_in (List.mem_append_left _ (List.mem_of_getElem? (i := 9) rfl)) rfl⟩
abbrev mX3_letGo : gw_M := (yX3_letGo, cX3_letGo, 4, none)
set_option maxRecDepth 20000 in
theorem moX3_letGo : gw_mo mX3_letGo 2 := ⟨gw_in (List.mem_append_right _ (List.mem_append_right _ (List.mem_append_left _ (List.mem_of_getElem? (i := 219) rfl)))) rfl, gw_in (List.mem_append_right _ (List.mem_append_left _ (List.mem_of_getElem? (i := 11) rfl))) rfl, by decide +kernel, by decide⟩
set_option maxRecDepth 20000 in
theorem mvX3_letGo : gw_mv mX3_letGo 2 := ⟨moX3_letGo, gw_in (List.mem_append_right _ (List.mem_append_right _ (List.mem_append_left _ (List.mem_of_getElem? (i := 218) rfl)))) rfl, gw_in (List.mem_append_left _ (List.mem_of_getElem? (i := 8) rfl)) rfl⟩
abbrev mX3_muchOf : gw_M := (yX3_muchOf, cX3_muchOf, 5, some .int)
set_option maxRecDepth 20000 in
theorem moX3_muchOf : gw_mo mX3_muchOf 2 := ⟨gw_in (List.mem_append_right _ (List.mem_append_right _ (List.mem_append_right _ (List.mem_append_left _ (List.mem_of_getElem? (i := 4) rfl))))) rfl, gw_in (List.mem_append_right _ (List.mem_append_left _ (List.mem_of_getElem? (i := 11) rfl))) rfl, by decide +kernel, by decide⟩
set_option maxRecDepth 20000 in
theorem mvX3_muchOf : gw_mv mX3_muchOf 2 := ⟨moX3_muchOf, gw_in (List.mem_append_right _ (List.mem_append_right _ (List.mem_append_right _ (List.mem_append_left _ (List.mem_of_getElem? (i := 2) rfl))))) rfl, gw_in (List.mem_append_right _ (List.mem_append_right _ (List.mem_append_right _ (List.mem_append_left _ (List.mem_of_getElem? (i := 3) rfl))))) rfl⟩
abbrev mX3_passDay : gw_M := (yX3_passDay, cX3_passDay, 3, none)
set_option maxRecDepth 20000 in
theorem moX3_passDay : gw_mo mX3_passDay 2 := ⟨gw_in (List.mem_append_right _ (List.mem_append_right _ (List.mem_append_left _ (List.mem_of_getElem? (i := 198) rfl)))) rfl, gw_in (List.mem_append_right _ (List.mem_append_left _ (List.mem_of_getElem? (i := 11) rfl))) rfl, by decide +kernel, by decide⟩
set_option maxRecDepth 20000 in
theorem mvX3_passDay : gw_mv mX3_passDay 2 := ⟨moX3_passDay, gw_in (List.mem_append_right _ (List.mem_append_right _ (List.mem_append_left _ (List.mem_of_getElem? (i := 196) rfl)))) rfl, gw_in (List.mem_append_right _ (List.mem_append_right _ (List.mem_append_left _ (List.mem_of_getElem? (i := 197) rfl)))) rfl⟩
abbrev mX3_passUntilHeat : gw_M := (yX3_passUntilHeat, cX3_passUntilHeat, 4, none)
set_option maxRecDepth 20000 in
theorem moX3_passUntilHeat : gw_mo mX3_passUntilHeat 2 := ⟨gw_in (List.mem_append_right _ (List.mem_append_right _ (List.mem_append_left _ (List.mem_of_getElem? (i := 202) rfl)))) rfl, gw_in (List.mem_append_right _ (List.mem_append_left _ (List.mem_of_getElem? (i := 11) rfl))) rfl, by decide +kernel, by decide⟩
set_option maxRecDepth 20000 in
theorem mvX3_passUntilHeat : gw_mv mX3_passUntilHeat 2 := ⟨moX3_passUntilHeat, gw_in (List.mem_append_right _ (List.mem_append_right _ (List.mem_append_left _ (List.mem_of_getElem? (i := 200) rfl)))) rfl, gw_in (List.mem_append_right _ (List.mem_append_right _ (List.mem_append_left _ (List.mem_of_getElem? (i := 201) rfl)))) rfl⟩
abbrev mX3_pourInto : gw_M := (yX3_pourInto, cX3_pourInto, 5, none)
set_option maxRecDepth 20000 in
theorem moX3_pourInto : gw_mo mX3_pourInto 2 := ⟨gw_in (List.mem_append_right _ (List.mem_append_right _ (List.mem_append_left _ (List.mem_of_getElem? (i := 215) rfl)))) rfl, gw_in (List.mem_append_right _ (List.mem_append_left _ (List.mem_of_getElem? (i := 11) rfl))) rfl, by decide +kernel, by decide⟩
set_option maxRecDepth 20000 in
theorem mvX3_pourInto : gw_mv mX3_pourInto 2 := ⟨moX3_pourInto, gw_in (List.mem_append_right _ (List.mem_append_right _ (List.mem_append_left _ (List.mem_of_getElem? (i := 214) rfl)))) rfl, gw_in (List.mem_append_left _ (List.mem_of_getElem? (i := 7) rfl)) rfl⟩
abbrev mX3_ripeBottles : gw_M := (yX3_ripeBottles, cX3_ripeBottles, 4, some .int)
set_option maxRecDepth 20000 in
theorem moX3_ripeBottles : gw_mo mX3_ripeBottles 1 := ⟨gw_in (List.mem_append_right _ (List.mem_append_right _ (List.mem_append_left _ (List.mem_of_getElem? (i := 231) rfl)))) rfl, gw_in (List.mem_append_right _ (List.mem_append_left _ (List.mem_of_getElem? (i := 11) rfl))) rfl, by decide +kernel, by decide⟩
set_option maxRecDepth 20000 in
theorem mvX3_ripeBottles : gw_mv mX3_ripeBottles 1 := ⟨moX3_ripeBottles, gw_in (List.mem_append_right _ (List.mem_append_right _ (List.mem_append_left _ (List.mem_of_getElem? (i := 229) rfl)))) rfl, gw_in (List.mem_append_right _ (List.mem_append_right _ (List.mem_append_left _ (List.mem_of_getElem? (i := 230) rfl)))) rfl⟩
abbrev mX3_voicesWith : gw_M := (yX3_voicesWith, cX3_voicesWith, 4, some .int)
set_option maxRecDepth 20000 in
theorem moX3_voicesWith : gw_mo mX3_voicesWith 1 := ⟨gw_in (List.mem_append_right _ (List.mem_append_right _ (List.mem_append_right _ (List.mem_append_left _ (List.mem_of_getElem? (i := 21) rfl))))) rfl, gw_in (List.mem_append_right _ (List.mem_append_left _ (List.mem_of_getElem? (i := 11) rfl))) rfl, by decide +kernel, by decide⟩
set_option maxRecDepth 20000 in
theorem mvX3_voicesWith : gw_mv mX3_voicesWith 1 := ⟨moX3_voicesWith, gw_in (List.mem_append_right _ (List.mem_append_right _ (List.mem_append_right _ (List.mem_append_left _ (List.mem_of_getElem? (i := 19) rfl))))) rfl, gw_in (List.mem_append_right _ (List.mem_append_right _ (List.mem_append_right _ (List.mem_append_left _ (List.mem_of_getElem? (i := 20) rfl))))) rfl⟩
abbrev mX4_takeFrom : gw_M := (yX4_takeFrom, cX4_takeFrom, 4, none)
set_option maxRecDepth 20000 in
theorem moX4_takeFrom : gw_mo mX4_takeFrom 1 := ⟨gw_in (List.mem_append_right _ (List.mem_append_right _ (List.mem_append_left _ (List.mem_of_getElem? (i := 99) rfl)))) rfl, gw_in (List.mem_append_right _ (List.mem_append_left _ (List.mem_of_getElem? (i := 5) rfl))) rfl, by decide +kernel, by decide⟩
set_option maxRecDepth 20000 in
theorem mvX4_takeFrom : gw_mv mX4_takeFrom 1 := ⟨moX4_takeFrom, gw_in (List.mem_append_right _ (List.mem_append_right _ (List.mem_append_left _ (List.mem_of_getElem? (i := 97) rfl)))) rfl, gw_in (List.mem_append_right _ (List.mem_append_right _ (List.mem_append_left _ (List.mem_of_getElem? (i := 98) rfl)))) rfl⟩
abbrev mX4_voices : gw_M := (yX4_voices, cX4_voices, 3, some .int)
set_option maxRecDepth 20000 in
theorem moX4_voices : gw_mo mX4_voices 0 := ⟨gw_in (List.mem_append_right _ (List.mem_append_right _ (List.mem_append_right _ (List.mem_append_left _ (List.mem_of_getElem? (i := 41) rfl))))) rfl, gw_in (List.mem_append_right _ (List.mem_append_left _ (List.mem_of_getElem? (i := 5) rfl))) rfl, by decide +kernel, by decide⟩
set_option maxRecDepth 20000 in
theorem mvX4_voices : gw_mv mX4_voices 0 := ⟨moX4_voices, gw_in (List.mem_append_right _ (List.mem_append_right _ (List.mem_append_right _ (List.mem_append_left _ (List.mem_of_getElem? (i := 39) rfl))))) rfl, gw_in (List.mem_append_right _ (List.mem_append_right _ (List.mem_append_right _ (List.mem_append_left _ (List.mem_of_getElem? (i := 40) rfl))))) rfl⟩
abbrev mX5_faultAsBottles : gw_M := (yX5_faultAsBottles, cX5_faultAsBottles, 2, some .int)
set_option maxRecDepth 20000 in
theorem moX5_faultAsBottles : gw_mo mX5_faultAsBottles 0 := ⟨gw_in (List.mem_append_right _ (List.mem_append_right _ (List.mem_append_left _ (List.mem_of_getElem? (i := 103) rfl)))) rfl, gw_in (List.mem_append_right _ (List.mem_append_left _ (List.mem_of_getElem? (i := 2) rfl))) rfl, by decide +kernel, by decide⟩
set_option maxRecDepth 20000 in
theorem mvX5_faultAsBottles : gw_mv mX5_faultAsBottles 0 := ⟨moX5_faultAsBottles, gw_in (List.mem_append_right _ (List.mem_append_right _ (List.mem_append_left _ (List.mem_of_getElem? (i := 101) rfl)))) rfl, gw_in (List.mem_append_right _ (List.mem_append_right _ (List.mem_append_left _ (List.mem_of_getElem? (i := 102) rfl)))) rfl⟩
abbrev mX5_faultAsSong : gw_M := (yX5_faultAsSong, cX5_faultAsSong, 2, some .int)
set_option maxRecDepth 20000 in
theorem moX5_faultAsSong : gw_mo mX5_faultAsSong 0 := ⟨gw_in (List.mem_append_right _ (List.mem_append_right _ (List.mem_append_left _ (List.mem_of_getElem? (i := 122) rfl)))) rfl, gw_in (List.mem_append_right _ (List.mem_append_left _ (List.mem_of_getElem? (i := 2) rfl))) rfl, by decide +kernel, by decide⟩
set_option maxRecDepth 20000 in
theorem mvX5_faultAsSong : gw_mv mX5_faultAsSong 0 := ⟨moX5_faultAsSong, gw_in (List.mem_append_right _ (List.mem_append_right _ (List.mem_append_left _ (List.mem_of_getElem? (i := 120) rfl)))) rfl, gw_in (List.mem_append_right _ (List.mem_append_right _ (List.mem_append_left _ (List.mem_of_getElem? (i := 121) rfl)))) rfl⟩
abbrev mX5_isFigure : gw_M := (yX5_isFigure, cX5_isFigure, 1, some .boolean)
set_option maxRecDepth 20000 in
theorem moX5_isFigure : gw_mo mX5_isFigure 1 := ⟨gw_in (List.mem_append_right _ (List.mem_append_right _ (List.mem_append_left _ (List.mem_of_getElem? (i := 113) rfl)))) rfl, gw_in (List.mem_append_right _ (List.mem_append_left _ (List.mem_of_getElem? (i := 2) rfl))) rfl, by decide +kernel, by decide⟩
set_option maxRecDepth 20000 in
theorem msX5_isFigure : gw_ms mX5_isFigure 1 := ⟨moX5_isFigure, gw_in (List.mem_append_right _ (List.mem_append_right _ (List.mem_append_left _ (List.mem_of_getElem? (i := 112) rfl)))) rfl⟩
abbrev mX5_isLetter : gw_M := (yX5_isLetter, cX5_isLetter, 1, some .boolean)
set_option maxRecDepth 20000 in
theorem moX5_isLetter : gw_mo mX5_isLetter 1 := ⟨gw_in (List.mem_append_right _ (List.mem_append_right _ (List.mem_append_left _ (List.mem_of_getElem? (i := 110) rfl)))) rfl, gw_in (List.mem_append_right _ (List.mem_append_left _ (List.mem_of_getElem? (i := 2) rfl))) rfl, by decide +kernel, by decide⟩
set_option maxRecDepth 20000 in
theorem msX5_isLetter : gw_ms mX5_isLetter 1 := ⟨moX5_isLetter, gw_in (List.mem_append_right _ (List.mem_append_right _ (List.mem_append_left _ (List.mem_of_getElem? (i := 109) rfl)))) rfl⟩
abbrev mX5_mayStandAt : gw_M := (yX5_mayStandAt, cX5_mayStandAt, 3, some .boolean)
set_option maxRecDepth 20000 in
theorem moX5_mayStandAt : gw_mo mX5_mayStandAt 1 := ⟨gw_in (List.mem_append_right _ (List.mem_append_right _ (List.mem_append_left _ (List.mem_of_getElem? (i := 107) rfl)))) rfl, gw_in (List.mem_append_right _ (List.mem_append_left _ (List.mem_of_getElem? (i := 2) rfl))) rfl, by decide +kernel, by decide⟩
set_option maxRecDepth 20000 in
theorem mvX5_mayStandAt : gw_mv mX5_mayStandAt 1 := ⟨moX5_mayStandAt, gw_in (List.mem_append_right _ (List.mem_append_right _ (List.mem_append_left _ (List.mem_of_getElem? (i := 106) rfl)))) rfl, gw_in (List.mem_append_left _ (List.mem_of_getElem? (i := 2) rfl)) rfl⟩
abbrev mX6_isHot : gw_M := (yX6_isHot, cX6_isHot, 3, some .boolean)
set_option maxRecDepth 20000 in
theorem moX6_isHot : gw_mo mX6_isHot 1 := ⟨gw_in (List.mem_append_right _ (List.mem_append_right _ (List.mem_append_left _ (List.mem_of_getElem? (i := 227) rfl)))) rfl, gw_in (List.mem_append_right _ (List.mem_append_left _ (List.mem_of_getElem? (i := 4) rfl))) rfl, by decide +kernel, by decide⟩
set_option maxRecDepth 20000 in
theorem mvX6_isHot : gw_mv mX6_isHot 1 := ⟨moX6_isHot, gw_in (List.mem_append_right _ (List.mem_append_right _ (List.mem_append_left _ (List.mem_of_getElem? (i := 225) rfl)))) rfl, gw_in (List.mem_append_right _ (List.mem_append_right _ (List.mem_append_left _ (List.mem_of_getElem? (i := 226) rfl)))) rfl⟩
abbrev mX7_agreeWith : gw_M := (yX7_agreeWith, cX7_agreeWith, 3, some .boolean)
set_option maxRecDepth 20000 in
theorem moX7_agreeWith : gw_mo mX7_agreeWith 1 := ⟨gw_in (List.mem_append_right _ (List.mem_append_right _ (List.mem_append_right _ (List.mem_append_left _ (List.mem_of_getElem? (i := 138) rfl))))) rfl, gw_in (List.mem_append_right _ (List.mem_append_left _ (List.mem_of_getElem? (i := 8) rfl))) rfl, by decide +kernel, by decide⟩
set_option maxRecDepth 20000 in
theorem mvX7_agreeWith : gw_mv mX7_agreeWith 1 := ⟨moX7_agreeWith, gw_in (List.mem_append_right _ (List.mem_append_right _ (List.mem_append_right _ (List.mem_append_left _ (List.mem_of_getElem? (i := 136) rfl))))) rfl, gw_in (List.mem_append_right _ (List.mem_append_right _ (List.mem_append_right _ (List.mem_append_left _ (List.mem_of_getElem? (i := 137) rfl))))) rfl⟩
abbrev mX7_lastDay : gw_M := (yX7_lastDay, cX7_lastDay, 3, some .int)
set_option maxRecDepth 20000 in
theorem moX7_lastDay : gw_mo mX7_lastDay 0 := ⟨gw_in (List.mem_append_right _ (List.mem_append_right _ (List.mem_append_right _ (List.mem_append_left _ (List.mem_of_getElem? (i := 131) rfl))))) rfl, gw_in (List.mem_append_right _ (List.mem_append_left _ (List.mem_of_getElem? (i := 8) rfl))) rfl, by decide +kernel, by decide⟩
set_option maxRecDepth 20000 in
theorem mvX7_lastDay : gw_mv mX7_lastDay 0 := ⟨moX7_lastDay, gw_in (List.mem_append_right _ (List.mem_append_right _ (List.mem_append_right _ (List.mem_append_left _ (List.mem_of_getElem? (i := 129) rfl))))) rfl, gw_in (List.mem_append_right _ (List.mem_append_right _ (List.mem_append_right _ (List.mem_append_left _ (List.mem_of_getElem? (i := 130) rfl))))) rfl⟩
abbrev mX8_act : gw_M := (yX8_act, cX8_act, 7, some .int)
set_option maxRecDepth 20000 in
theorem moX8_act : gw_mo mX8_act 4 := ⟨gw_in (List.mem_append_right _ (List.mem_append_right _ (List.mem_append_left _ (List.mem_of_getElem? (i := 165) rfl)))) rfl, gw_in (List.mem_append_right _ (List.mem_append_left _ (List.mem_of_getElem? (i := 1) rfl))) rfl, by decide +kernel, by decide⟩
set_option maxRecDepth 20000 in
theorem mvX8_act : gw_mv mX8_act 4 := ⟨moX8_act, gw_in (List.mem_append_right _ (List.mem_append_right _ (List.mem_append_left _ (List.mem_of_getElem? (i := 163) rfl)))) rfl, gw_in (List.mem_append_right _ (List.mem_append_right _ (List.mem_append_left _ (List.mem_of_getElem? (i := 164) rfl)))) rfl⟩
abbrev mX8_areBottles : gw_M := (yX8_areBottles, cX8_areBottles, 2, some .boolean)
set_option maxRecDepth 20000 in
theorem moX8_areBottles : gw_mo mX8_areBottles 1 := ⟨gw_in (List.mem_append_right _ (List.mem_append_right _ (List.mem_append_right _ (List.mem_append_left _ (List.mem_of_getElem? (i := 95) rfl))))) rfl, gw_in (List.mem_append_right _ (List.mem_append_left _ (List.mem_of_getElem? (i := 1) rfl))) rfl, by decide +kernel, by decide⟩
set_option maxRecDepth 20000 in
theorem mvX8_areBottles : gw_mv mX8_areBottles 1 := ⟨moX8_areBottles, gw_in (List.mem_append_right _ (List.mem_append_right _ (List.mem_append_right _ (List.mem_append_left _ (List.mem_of_getElem? (i := 94) rfl))))) rfl, gw_in (List.mem_append_left _ (List.mem_of_getElem? (i := 14) rfl)) rfl⟩
abbrev mX8_back : gw_M := (yX8_back, cX8_back, 3, some .int)
set_option maxRecDepth 20000 in
theorem moX8_back : gw_mo mX8_back 1 := ⟨gw_in (List.mem_append_right _ (List.mem_append_right _ (List.mem_append_left _ (List.mem_of_getElem? (i := 172) rfl)))) rfl, gw_in (List.mem_append_right _ (List.mem_append_left _ (List.mem_of_getElem? (i := 1) rfl))) rfl, by decide +kernel, by decide⟩
set_option maxRecDepth 20000 in
theorem mvX8_back : gw_mv mX8_back 1 := ⟨moX8_back, gw_in (List.mem_append_right _ (List.mem_append_right _ (List.mem_append_left _ (List.mem_of_getElem? (i := 170) rfl)))) rfl, gw_in (List.mem_append_right _ (List.mem_append_right _ (List.mem_append_left _ (List.mem_of_getElem? (i := 171) rfl)))) rfl⟩
abbrev mX8_behind : gw_M := (yX8_behind, cX8_behind, 3, some (.object "BreathSold$State"))
set_option maxRecDepth 20000 in
theorem moX8_behind : gw_mo mX8_behind 1 := ⟨gw_in (List.mem_append_right _ (List.mem_append_right _ (List.mem_append_left _ (List.mem_of_getElem? (i := 189) rfl)))) rfl, gw_in (List.mem_append_right _ (List.mem_append_left _ (List.mem_of_getElem? (i := 1) rfl))) rfl, by decide +kernel, by decide⟩
set_option maxRecDepth 20000 in
theorem mvX8_behind : gw_mv mX8_behind 1 := ⟨moX8_behind, gw_in (List.mem_append_right _ (List.mem_append_right _ (List.mem_append_left _ (List.mem_of_getElem? (i := 188) rfl)))) rfl, gw_in (List.mem_append_left _ (List.mem_of_getElem? (i := 6) rfl)) rfl⟩
abbrev mX8_bottle : gw_M := (yX8_bottle, cX8_bottle, 3, some .int)
set_option maxRecDepth 20000 in
theorem moX8_bottle : gw_mo mX8_bottle 2 := ⟨gw_in (List.mem_append_right _ (List.mem_append_right _ (List.mem_append_left _ (List.mem_of_getElem? (i := 145) rfl)))) rfl, gw_in (List.mem_append_right _ (List.mem_append_left _ (List.mem_of_getElem? (i := 1) rfl))) rfl, by decide +kernel, by decide⟩
set_option maxRecDepth 20000 in
theorem mvX8_bottle : gw_mv mX8_bottle 2 := ⟨moX8_bottle, gw_in (List.mem_append_right _ (List.mem_append_right _ (List.mem_append_left _ (List.mem_of_getElem? (i := 143) rfl)))) rfl, gw_in (List.mem_append_right _ (List.mem_append_right _ (List.mem_append_left _ (List.mem_of_getElem? (i := 144) rfl)))) rfl⟩
abbrev mX8_burst : gw_M := (yX8_burst, cX8_burst, 3, some .int)
set_option maxRecDepth 20000 in
theorem moX8_burst : gw_mo mX8_burst 1 := ⟨gw_in (List.mem_append_right _ (List.mem_append_right _ (List.mem_append_left _ (List.mem_of_getElem? (i := 157) rfl)))) rfl, gw_in (List.mem_append_right _ (List.mem_append_left _ (List.mem_of_getElem? (i := 1) rfl))) rfl, by decide +kernel, by decide⟩
set_option maxRecDepth 20000 in
theorem mvX8_burst : gw_mv mX8_burst 1 := ⟨moX8_burst, gw_in (List.mem_append_right _ (List.mem_append_right _ (List.mem_append_left _ (List.mem_of_getElem? (i := 155) rfl)))) rfl, gw_in (List.mem_append_right _ (List.mem_append_right _ (List.mem_append_left _ (List.mem_of_getElem? (i := 156) rfl)))) rfl⟩
abbrev mX8_comesOut : gw_M := (yX8_comesOut, cX8_comesOut, 6, some .boolean)
set_option maxRecDepth 20000 in
theorem moX8_comesOut : gw_mo mX8_comesOut 3 := ⟨gw_in (List.mem_append_right _ (List.mem_append_right _ (List.mem_append_right _ (List.mem_append_left _ (List.mem_of_getElem? (i := 127) rfl))))) rfl, gw_in (List.mem_append_right _ (List.mem_append_left _ (List.mem_of_getElem? (i := 1) rfl))) rfl, by decide +kernel, by decide⟩
set_option maxRecDepth 20000 in
theorem mvX8_comesOut : gw_mv mX8_comesOut 3 := ⟨moX8_comesOut, gw_in (List.mem_append_right _ (List.mem_append_right _ (List.mem_append_right _ (List.mem_append_left _ (List.mem_of_getElem? (i := 126) rfl))))) rfl, gw_in (List.mem_append_left _ (List.mem_of_getElem? (i := 17) rfl)) rfl⟩
abbrev mX8_copy : gw_M := (yX8_copy, cX8_copy, 6, some .int)
set_option maxRecDepth 20000 in
theorem moX8_copy : gw_mo mX8_copy 5 := ⟨gw_in (List.mem_append_right _ (List.mem_append_right _ (List.mem_append_right _ (List.mem_append_left _ (List.mem_of_getElem? (i := 224) rfl))))) rfl, gw_in (List.mem_append_right _ (List.mem_append_left _ (List.mem_of_getElem? (i := 1) rfl))) rfl, by decide +kernel, by decide⟩
set_option maxRecDepth 20000 in
theorem mvX8_copy : gw_mv mX8_copy 5 := ⟨moX8_copy, gw_in (List.mem_append_right _ (List.mem_append_right _ (List.mem_append_right _ (List.mem_append_left _ (List.mem_of_getElem? (i := 222) rfl))))) rfl, gw_in (List.mem_append_right _ (List.mem_append_right _ (List.mem_append_right _ (List.mem_append_left _ (List.mem_of_getElem? (i := 223) rfl))))) rfl⟩
abbrev mX8_corkedAt : gw_M := (yX8_corkedAt, cX8_corkedAt, 4, some .int)
set_option maxRecDepth 20000 in
theorem moX8_corkedAt : gw_mo mX8_corkedAt 1 := ⟨gw_in (List.mem_append_right _ (List.mem_append_right _ (List.mem_append_right _ (List.mem_append_left _ (List.mem_of_getElem? (i := 107) rfl))))) rfl, gw_in (List.mem_append_right _ (List.mem_append_left _ (List.mem_of_getElem? (i := 1) rfl))) rfl, by decide +kernel, by decide⟩
set_option maxRecDepth 20000 in
theorem mvX8_corkedAt : gw_mv mX8_corkedAt 1 := ⟨moX8_corkedAt, gw_in (List.mem_append_right _ (List.mem_append_right _ (List.mem_append_right _ (List.mem_append_left _ (List.mem_of_getElem? (i := 106) rfl))))) rfl, gw_in (List.mem_append_left _ (List.mem_of_getElem? (i := 16) rfl)) rfl⟩
abbrev mX8_corks : gw_M := (yX8_corks, cX8_corks, 3, some .int)
set_option maxRecDepth 20000 in
theorem moX8_corks : gw_mo mX8_corks 2 := ⟨gw_in (List.mem_append_right _ (List.mem_append_right _ (List.mem_append_right _ (List.mem_append_left _ (List.mem_of_getElem? (i := 81) rfl))))) rfl, gw_in (List.mem_append_right _ (List.mem_append_left _ (List.mem_of_getElem? (i := 1) rfl))) rfl, by decide +kernel, by decide⟩
set_option maxRecDepth 20000 in
theorem mvX8_corks : gw_mv mX8_corks 2 := ⟨moX8_corks, gw_in (List.mem_append_right _ (List.mem_append_right _ (List.mem_append_right _ (List.mem_append_left _ (List.mem_of_getElem? (i := 79) rfl))))) rfl, gw_in (List.mem_append_right _ (List.mem_append_right _ (List.mem_append_right _ (List.mem_append_left _ (List.mem_of_getElem? (i := 80) rfl))))) rfl⟩
abbrev mX8_count : gw_M := (yX8_count, cX8_count, 2, some .int)
set_option maxRecDepth 20000 in
theorem moX8_count : gw_mo mX8_count 1 := ⟨gw_in (List.mem_append_right _ (List.mem_append_right _ (List.mem_append_right _ (List.mem_append_left _ (List.mem_of_getElem? (i := 237) rfl))))) rfl, gw_in (List.mem_append_right _ (List.mem_append_left _ (List.mem_of_getElem? (i := 1) rfl))) rfl, by decide +kernel, by decide⟩
set_option maxRecDepth 20000 in
theorem mvX8_count : gw_mv mX8_count 1 := ⟨moX8_count, gw_in (List.mem_append_right _ (List.mem_append_right _ (List.mem_append_right _ (List.mem_append_left _ (List.mem_of_getElem? (i := 235) rfl))))) rfl, gw_in (List.mem_append_right _ (List.mem_append_right _ (List.mem_append_right _ (List.mem_append_left _ (List.mem_of_getElem? (i := 236) rfl))))) rfl⟩
abbrev mX8_digest : gw_M := (yX8_digest, cX8_digest, 5, some .long)
set_option maxRecDepth 20000 in
theorem moX8_digest : gw_mo mX8_digest 0 := ⟨gw_in (List.mem_append_right _ (List.mem_append_right _ (List.mem_append_right _ (List.mem_append_right _ (List.mem_append_left _ (List.mem_of_getElem? (i := 1) rfl)))))) rfl, gw_in (List.mem_append_right _ (List.mem_append_left _ (List.mem_of_getElem? (i := 1) rfl))) rfl, by decide +kernel, by decide⟩
set_option maxRecDepth 20000 in
theorem mvX8_digest : gw_mv mX8_digest 0 := ⟨moX8_digest, gw_in (List.mem_append_right _ (List.mem_append_right _ (List.mem_append_right _ (List.mem_append_left _ (List.mem_of_getElem? (i := 239) rfl))))) rfl, gw_in (List.mem_append_right _ (List.mem_append_right _ (List.mem_append_right _ (List.mem_append_right _ (List.mem_append_left _ (List.mem_of_getElem? (i := 0) rfl)))))) rfl⟩
abbrev mX8_fault : gw_M := (yX8_fault, cX8_fault, 2, some .int)
set_option maxRecDepth 20000 in
theorem moX8_fault : gw_mo mX8_fault 1 := ⟨gw_in (List.mem_append_right _ (List.mem_append_right _ (List.mem_append_left _ (List.mem_of_getElem? (i := 139) rfl)))) rfl, gw_in (List.mem_append_right _ (List.mem_append_left _ (List.mem_of_getElem? (i := 1) rfl))) rfl, by decide +kernel, by decide⟩
set_option maxRecDepth 20000 in
theorem mvX8_fault : gw_mv mX8_fault 1 := ⟨moX8_fault, gw_in (List.mem_append_right _ (List.mem_append_right _ (List.mem_append_left _ (List.mem_of_getElem? (i := 137) rfl)))) rfl, gw_in (List.mem_append_right _ (List.mem_append_right _ (List.mem_append_left _ (List.mem_of_getElem? (i := 138) rfl)))) rfl⟩
abbrev mX8_find : gw_M := (yX8_find, cX8_find, 2, some .int)
set_option maxRecDepth 20000 in
theorem moX8_find : gw_mo mX8_find 1 := ⟨gw_in (List.mem_append_right _ (List.mem_append_right _ (List.mem_append_left _ (List.mem_of_getElem? (i := 180) rfl)))) rfl, gw_in (List.mem_append_right _ (List.mem_append_left _ (List.mem_of_getElem? (i := 1) rfl))) rfl, by decide +kernel, by decide⟩
set_option maxRecDepth 20000 in
theorem mvX8_find : gw_mv mX8_find 1 := ⟨moX8_find, gw_in (List.mem_append_right _ (List.mem_append_right _ (List.mem_append_left _ (List.mem_of_getElem? (i := 179) rfl)))) rfl, gw_in (List.mem_append_left _ (List.mem_of_getElem? (i := 5) rfl)) rfl⟩
abbrev mX8_forget : gw_M := (yX8_forget, cX8_forget, 2, some .int)
set_option maxRecDepth 20000 in
theorem moX8_forget : gw_mo mX8_forget 0 := ⟨gw_in (List.mem_append_right _ (List.mem_append_right _ (List.mem_append_right _ (List.mem_append_left _ (List.mem_of_getElem? (i := 119) rfl))))) rfl, gw_in (List.mem_append_right _ (List.mem_append_left _ (List.mem_of_getElem? (i := 1) rfl))) rfl, by decide +kernel, by decide⟩
set_option maxRecDepth 20000 in
theorem mvX8_forget : gw_mv mX8_forget 0 := ⟨moX8_forget, gw_in (List.mem_append_right _ (List.mem_append_right _ (List.mem_append_right _ (List.mem_append_left _ (List.mem_of_getElem? (i := 117) rfl))))) rfl, gw_in (List.mem_append_right _ (List.mem_append_right _ (List.mem_append_right _ (List.mem_append_left _ (List.mem_of_getElem? (i := 118) rfl))))) rfl⟩
abbrev mX8_forgetDays : gw_M := (yX8_forgetDays, cX8_forgetDays, 1, none)
set_option maxRecDepth 20000 in
theorem moX8_forgetDays : gw_mo mX8_forgetDays 0 := ⟨gw_in (List.mem_append_right _ (List.mem_append_right _ (List.mem_append_left _ (List.mem_of_getElem? (i := 127) rfl)))) rfl, gw_in (List.mem_append_right _ (List.mem_append_left _ (List.mem_of_getElem? (i := 1) rfl))) rfl, by decide +kernel, by decide⟩
set_option maxRecDepth 20000 in
theorem mvX8_forgetDays : gw_mv mX8_forgetDays 0 := ⟨moX8_forgetDays, gw_in (List.mem_append_right _ (List.mem_append_right _ (List.mem_append_left _ (List.mem_of_getElem? (i := 126) rfl)))) rfl, gw_in (List.mem_append_left _ (List.mem_of_getElem? (i := 3) rfl)) rfl⟩
abbrev mX8_get : gw_M := (yX8_get, cX8_get, 5, some .int)
set_option maxRecDepth 20000 in
theorem moX8_get : gw_mo mX8_get 3 := ⟨gw_in (List.mem_append_right _ (List.mem_append_right _ (List.mem_append_right _ (List.mem_append_left _ (List.mem_of_getElem? (i := 219) rfl))))) rfl, gw_in (List.mem_append_right _ (List.mem_append_left _ (List.mem_of_getElem? (i := 1) rfl))) rfl, by decide +kernel, by decide⟩
set_option maxRecDepth 20000 in
theorem mvX8_get : gw_mv mX8_get 3 := ⟨moX8_get, gw_in (List.mem_append_right _ (List.mem_append_right _ (List.mem_append_right _ (List.mem_append_left _ (List.mem_of_getElem? (i := 217) rfl))))) rfl, gw_in (List.mem_append_right _ (List.mem_append_right _ (List.mem_append_right _ (List.mem_append_left _ (List.mem_of_getElem? (i := 218) rfl))))) rfl⟩
abbrev mX8_has : gw_M := (yX8_has, cX8_has, 3, some .int)
set_option maxRecDepth 20000 in
theorem moX8_has : gw_mo mX8_has 2 := ⟨gw_in (List.mem_append_right _ (List.mem_append_right _ (List.mem_append_right _ (List.mem_append_left _ (List.mem_of_getElem? (i := 17) rfl))))) rfl, gw_in (List.mem_append_right _ (List.mem_append_left _ (List.mem_of_getElem? (i := 1) rfl))) rfl, by decide +kernel, by decide⟩
set_option maxRecDepth 20000 in
theorem mvX8_has : gw_mv mX8_has 2 := ⟨moX8_has, gw_in (List.mem_append_right _ (List.mem_append_right _ (List.mem_append_right _ (List.mem_append_left _ (List.mem_of_getElem? (i := 15) rfl))))) rfl, gw_in (List.mem_append_right _ (List.mem_append_right _ (List.mem_append_right _ (List.mem_append_left _ (List.mem_of_getElem? (i := 16) rfl))))) rfl⟩
abbrev mX8_heard : gw_M := (yX8_heard, cX8_heard, 3, some .int)
set_option maxRecDepth 20000 in
theorem moX8_heard : gw_mo mX8_heard 2 := ⟨gw_in (List.mem_append_right _ (List.mem_append_right _ (List.mem_append_right _ (List.mem_append_left _ (List.mem_of_getElem? (i := 25) rfl))))) rfl, gw_in (List.mem_append_right _ (List.mem_append_left _ (List.mem_of_getElem? (i := 1) rfl))) rfl, by decide +kernel, by decide⟩
set_option maxRecDepth 20000 in
theorem mvX8_heard : gw_mv mX8_heard 2 := ⟨moX8_heard, gw_in (List.mem_append_right _ (List.mem_append_right _ (List.mem_append_right _ (List.mem_append_left _ (List.mem_of_getElem? (i := 23) rfl))))) rfl, gw_in (List.mem_append_right _ (List.mem_append_right _ (List.mem_append_right _ (List.mem_append_left _ (List.mem_of_getElem? (i := 24) rfl))))) rfl⟩
abbrev mX8_heat : gw_M := (yX8_heat, cX8_heat, 10, some .long)
set_option maxRecDepth 20000 in
theorem moX8_heat : gw_mo mX8_heat 4 := ⟨gw_in (List.mem_append_right _ (List.mem_append_right _ (List.mem_append_right _ (List.mem_append_left _ (List.mem_of_getElem? (i := 161) rfl))))) rfl, gw_in (List.mem_append_right _ (List.mem_append_left _ (List.mem_of_getElem? (i := 1) rfl))) rfl, by decide +kernel, by decide⟩
set_option maxRecDepth 20000 in
theorem mvX8_heat : gw_mv mX8_heat 4 := ⟨moX8_heat, gw_in (List.mem_append_right _ (List.mem_append_right _ (List.mem_append_right _ (List.mem_append_left _ (List.mem_of_getElem? (i := 159) rfl))))) rfl, gw_in (List.mem_append_right _ (List.mem_append_right _ (List.mem_append_right _ (List.mem_append_left _ (List.mem_of_getElem? (i := 160) rfl))))) rfl⟩
abbrev mX8_hid : gw_M := (yX8_hid, cX8_hid, 3, some .int)
set_option maxRecDepth 20000 in
theorem moX8_hid : gw_mo mX8_hid 0 := ⟨gw_in (List.mem_append_right _ (List.mem_append_right _ (List.mem_append_right _ (List.mem_append_left _ (List.mem_of_getElem? (i := 123) rfl))))) rfl, gw_in (List.mem_append_right _ (List.mem_append_left _ (List.mem_of_getElem? (i := 1) rfl))) rfl, by decide +kernel, by decide⟩
set_option maxRecDepth 20000 in
theorem mvX8_hid : gw_mv mX8_hid 0 := ⟨moX8_hid, gw_in (List.mem_append_right _ (List.mem_append_right _ (List.mem_append_right _ (List.mem_append_left _ (List.mem_of_getElem? (i := 121) rfl))))) rfl, gw_in (List.mem_append_right _ (List.mem_append_right _ (List.mem_append_right _ (List.mem_append_left _ (List.mem_of_getElem? (i := 122) rfl))))) rfl⟩
abbrev mX8_holdWithoutEach : gw_M := (yX8_holdWithoutEach, cX8_holdWithoutEach, 5, none)
set_option maxRecDepth 20000 in
theorem moX8_holdWithoutEach : gw_mo mX8_holdWithoutEach 2 := ⟨gw_in (List.mem_append_right _ (List.mem_append_right _ (List.mem_append_right _ (List.mem_append_left _ (List.mem_of_getElem? (i := 152) rfl))))) rfl, gw_in (List.mem_append_right _ (List.mem_append_left _ (List.mem_of_getElem? (i := 1) rfl))) rfl, by decide +kernel, by decide⟩
set_option maxRecDepth 20000 in
theorem mvX8_holdWithoutEach : gw_mv mX8_holdWithoutEach 2 := ⟨moX8_holdWithoutEach, gw_in (List.mem_append_right _ (List.mem_append_right _ (List.mem_append_right _ (List.mem_append_left _ (List.mem_of_getElem? (i := 151) rfl))))) rfl, gw_in (List.mem_append_left _ (List.mem_of_getElem? (i := 18) rfl)) rfl⟩
abbrev mX8_holds : gw_M := (yX8_holds, cX8_holds, 5, some .int)
set_option maxRecDepth 20000 in
theorem moX8_holds : gw_mo mX8_holds 3 := ⟨gw_in (List.mem_append_right _ (List.mem_append_right _ (List.mem_append_left _ (List.mem_of_getElem? (i := 185) rfl)))) rfl, gw_in (List.mem_append_right _ (List.mem_append_left _ (List.mem_of_getElem? (i := 1) rfl))) rfl, by decide +kernel, by decide⟩
set_option maxRecDepth 20000 in
theorem mvX8_holds : gw_mv mX8_holds 3 := ⟨moX8_holds, gw_in (List.mem_append_right _ (List.mem_append_right _ (List.mem_append_left _ (List.mem_of_getElem? (i := 183) rfl)))) rfl, gw_in (List.mem_append_right _ (List.mem_append_right _ (List.mem_append_left _ (List.mem_of_getElem? (i := 184) rfl)))) rfl⟩
abbrev mX8_hot : gw_M := (yX8_hot, cX8_hot, 2, some .int)
set_option maxRecDepth 20000 in
theorem moX8_hot : gw_mo mX8_hot 1 := ⟨gw_in (List.mem_append_right _ (List.mem_append_right _ (List.mem_append_left _ (List.mem_of_getElem? (i := 161) rfl)))) rfl, gw_in (List.mem_append_right _ (List.mem_append_left _ (List.mem_of_getElem? (i := 1) rfl))) rfl, by decide +kernel, by decide⟩
set_option maxRecDepth 20000 in
theorem mvX8_hot : gw_mv mX8_hot 1 := ⟨moX8_hot, gw_in (List.mem_append_right _ (List.mem_append_right _ (List.mem_append_left _ (List.mem_of_getElem? (i := 159) rfl)))) rfl, gw_in (List.mem_append_right _ (List.mem_append_right _ (List.mem_append_left _ (List.mem_of_getElem? (i := 160) rfl)))) rfl⟩
abbrev mX8_isAmong : gw_M := (yX8_isAmong, cX8_isAmong, 2, some .boolean)
set_option maxRecDepth 20000 in
theorem moX8_isAmong : gw_mo mX8_isAmong 2 := ⟨gw_in (List.mem_append_right _ (List.mem_append_right _ (List.mem_append_right _ (List.mem_append_left _ (List.mem_of_getElem? (i := 102) rfl))))) rfl, gw_in (List.mem_append_right _ (List.mem_append_left _ (List.mem_of_getElem? (i := 1) rfl))) rfl, by decide +kernel, by decide⟩
set_option maxRecDepth 20000 in
theorem msX8_isAmong : gw_ms mX8_isAmong 2 := ⟨moX8_isAmong, gw_in (List.mem_append_right _ (List.mem_append_right _ (List.mem_append_right _ (List.mem_append_left _ (List.mem_of_getElem? (i := 101) rfl))))) rfl⟩
abbrev mX8_isBottle : gw_M := (yX8_isBottle, cX8_isBottle, 2, some .boolean)
set_option maxRecDepth 20000 in
theorem moX8_isBottle : gw_mo mX8_isBottle 1 := ⟨gw_in (List.mem_append_right _ (List.mem_append_right _ (List.mem_append_left _ (List.mem_of_getElem? (i := 149) rfl)))) rfl, gw_in (List.mem_append_right _ (List.mem_append_left _ (List.mem_of_getElem? (i := 1) rfl))) rfl, by decide +kernel, by decide⟩
set_option maxRecDepth 20000 in
theorem mvX8_isBottle : gw_mv mX8_isBottle 1 := ⟨moX8_isBottle, gw_in (List.mem_append_right _ (List.mem_append_right _ (List.mem_append_left _ (List.mem_of_getElem? (i := 148) rfl)))) rfl, gw_in (List.mem_append_left _ (List.mem_of_getElem? (i := 4) rfl)) rfl⟩
abbrev mX8_isWithin : gw_M := (yX8_isWithin, cX8_isWithin, 2, some .boolean)
set_option maxRecDepth 20000 in
theorem moX8_isWithin : gw_mo mX8_isWithin 2 := ⟨gw_in (List.mem_append_right _ (List.mem_append_right _ (List.mem_append_left _ (List.mem_of_getElem? (i := 87) rfl)))) rfl, gw_in (List.mem_append_right _ (List.mem_append_left _ (List.mem_of_getElem? (i := 1) rfl))) rfl, by decide +kernel, by decide⟩
set_option maxRecDepth 20000 in
theorem msX8_isWithin : gw_ms mX8_isWithin 2 := ⟨moX8_isWithin, gw_in (List.mem_append_right _ (List.mem_append_right _ (List.mem_append_left _ (List.mem_of_getElem? (i := 86) rfl)))) rfl⟩
abbrev mX8_leaked : gw_M := (yX8_leaked, cX8_leaked, 2, some .int)
set_option maxRecDepth 20000 in
theorem moX8_leaked : gw_mo mX8_leaked 1 := ⟨gw_in (List.mem_append_right _ (List.mem_append_right _ (List.mem_append_right _ (List.mem_append_left _ (List.mem_of_getElem? (i := 33) rfl))))) rfl, gw_in (List.mem_append_right _ (List.mem_append_left _ (List.mem_of_getElem? (i := 1) rfl))) rfl, by decide +kernel, by decide⟩
set_option maxRecDepth 20000 in
theorem mvX8_leaked : gw_mv mX8_leaked 1 := ⟨moX8_leaked, gw_in (List.mem_append_right _ (List.mem_append_right _ (List.mem_append_right _ (List.mem_append_left _ (List.mem_of_getElem? (i := 31) rfl))))) rfl, gw_in (List.mem_append_right _ (List.mem_append_right _ (List.mem_append_right _ (List.mem_append_left _ (List.mem_of_getElem? (i := 32) rfl))))) rfl⟩
abbrev mX8_lose : gw_M := (yX8_lose, cX8_lose, 3, some .int)
set_option maxRecDepth 20000 in
theorem moX8_lose : gw_mo mX8_lose 1 := ⟨gw_in (List.mem_append_right _ (List.mem_append_right _ (List.mem_append_right _ (List.mem_append_left _ (List.mem_of_getElem? (i := 202) rfl))))) rfl, gw_in (List.mem_append_right _ (List.mem_append_left _ (List.mem_of_getElem? (i := 1) rfl))) rfl, by decide +kernel, by decide⟩
set_option maxRecDepth 20000 in
theorem mvX8_lose : gw_mv mX8_lose 1 := ⟨moX8_lose, gw_in (List.mem_append_right _ (List.mem_append_right _ (List.mem_append_right _ (List.mem_append_left _ (List.mem_of_getElem? (i := 200) rfl))))) rfl, gw_in (List.mem_append_right _ (List.mem_append_right _ (List.mem_append_right _ (List.mem_append_left _ (List.mem_of_getElem? (i := 201) rfl))))) rfl⟩
abbrev mX8_lost : gw_M := (yX8_lost, cX8_lost, 2, some .int)
set_option maxRecDepth 20000 in
theorem moX8_lost : gw_mo mX8_lost 1 := ⟨gw_in (List.mem_append_right _ (List.mem_append_right _ (List.mem_append_right _ (List.mem_append_left _ (List.mem_of_getElem? (i := 37) rfl))))) rfl, gw_in (List.mem_append_right _ (List.mem_append_left _ (List.mem_of_getElem? (i := 1) rfl))) rfl, by decide +kernel, by decide⟩
set_option maxRecDepth 20000 in
theorem mvX8_lost : gw_mv mX8_lost 1 := ⟨moX8_lost, gw_in (List.mem_append_right _ (List.mem_append_right _ (List.mem_append_right _ (List.mem_append_left _ (List.mem_of_getElem? (i := 35) rfl))))) rfl, gw_in (List.mem_append_right _ (List.mem_append_right _ (List.mem_append_right _ (List.mem_append_left _ (List.mem_of_getElem? (i := 36) rfl))))) rfl⟩
abbrev mX8_market : gw_M := (yX8_market, cX8_market, 9, some .int)
set_option maxRecDepth 20000 in
theorem moX8_market : gw_mo mX8_market 3 := ⟨gw_in (List.mem_append_right _ (List.mem_append_right _ (List.mem_append_right _ (List.mem_append_left _ (List.mem_of_getElem? (i := 188) rfl))))) rfl, gw_in (List.mem_append_right _ (List.mem_append_left _ (List.mem_of_getElem? (i := 1) rfl))) rfl, by decide +kernel, by decide⟩
set_option maxRecDepth 20000 in
theorem mvX8_market : gw_mv mX8_market 3 := ⟨moX8_market, gw_in (List.mem_append_right _ (List.mem_append_right _ (List.mem_append_right _ (List.mem_append_left _ (List.mem_of_getElem? (i := 186) rfl))))) rfl, gw_in (List.mem_append_right _ (List.mem_append_right _ (List.mem_append_right _ (List.mem_append_left _ (List.mem_of_getElem? (i := 187) rfl))))) rfl⟩
abbrev mX8_mayBeAct : gw_M := (yX8_mayBeAct, cX8_mayBeAct, 4, some .boolean)
set_option maxRecDepth 20000 in
theorem moX8_mayBeAct : gw_mo mX8_mayBeAct 4 := ⟨gw_in (List.mem_append_right _ (List.mem_append_right _ (List.mem_append_left _ (List.mem_of_getElem? (i := 168) rfl)))) rfl, gw_in (List.mem_append_right _ (List.mem_append_left _ (List.mem_of_getElem? (i := 1) rfl))) rfl, by decide +kernel, by decide⟩
set_option maxRecDepth 20000 in
theorem msX8_mayBeAct : gw_ms mX8_mayBeAct 4 := ⟨moX8_mayBeAct, gw_in (List.mem_append_right _ (List.mem_append_right _ (List.mem_append_left _ (List.mem_of_getElem? (i := 167) rfl)))) rfl⟩
abbrev mX8_mixBottle : gw_M := (yX8_mixBottle, cX8_mixBottle, 7, some .long)
set_option maxRecDepth 20000 in
theorem moX8_mixBottle : gw_mo mX8_mixBottle 2 := ⟨gw_in (List.mem_append_right _ (List.mem_append_right _ (List.mem_append_right _ (List.mem_append_right _ (List.mem_append_left _ (List.mem_of_getElem? (i := 9) rfl)))))) rfl, gw_in (List.mem_append_right _ (List.mem_append_left _ (List.mem_of_getElem? (i := 1) rfl))) rfl, by decide +kernel, by decide⟩
set_option maxRecDepth 20000 in
theorem mvX8_mixBottle : gw_mv mX8_mixBottle 2 := ⟨moX8_mixBottle, gw_in (List.mem_append_right _ (List.mem_append_right _ (List.mem_append_right _ (List.mem_append_right _ (List.mem_append_left _ (List.mem_of_getElem? (i := 8) rfl)))))) rfl, gw_in (List.mem_append_left _ (List.mem_of_getElem? (i := 20) rfl)) rfl⟩
abbrev mX8_most : gw_M := (yX8_most, cX8_most, 7, some .int)
set_option maxRecDepth 20000 in
theorem moX8_most : gw_mo mX8_most 2 := ⟨gw_in (List.mem_append_right _ (List.mem_append_right _ (List.mem_append_right _ (List.mem_append_left _ (List.mem_of_getElem? (i := 111) rfl))))) rfl, gw_in (List.mem_append_right _ (List.mem_append_left _ (List.mem_of_getElem? (i := 1) rfl))) rfl, by decide +kernel, by decide⟩
set_option maxRecDepth 20000 in
theorem mvX8_most : gw_mv mX8_most 2 := ⟨moX8_most, gw_in (List.mem_append_right _ (List.mem_append_right _ (List.mem_append_right _ (List.mem_append_left _ (List.mem_of_getElem? (i := 109) rfl))))) rfl, gw_in (List.mem_append_right _ (List.mem_append_right _ (List.mem_append_right _ (List.mem_append_left _ (List.mem_of_getElem? (i := 110) rfl))))) rfl⟩
abbrev mX8_mostAlike : gw_M := (yX8_mostAlike, cX8_mostAlike, 8, some .int)
set_option maxRecDepth 20000 in
theorem moX8_mostAlike : gw_mo mX8_mostAlike 2 := ⟨gw_in (List.mem_append_right _ (List.mem_append_right _ (List.mem_append_right _ (List.mem_append_left _ (List.mem_of_getElem? (i := 156) rfl))))) rfl, gw_in (List.mem_append_right _ (List.mem_append_left _ (List.mem_of_getElem? (i := 1) rfl))) rfl, by decide +kernel, by decide⟩
set_option maxRecDepth 20000 in
theorem mvX8_mostAlike : gw_mv mX8_mostAlike 2 := ⟨moX8_mostAlike, gw_in (List.mem_append_right _ (List.mem_append_right _ (List.mem_append_right _ (List.mem_append_left _ (List.mem_of_getElem? (i := 155) rfl))))) rfl, gw_in (List.mem_append_left _ (List.mem_of_getElem? (i := 19) rfl)) rfl⟩
abbrev mX8_nextSeed : gw_M := (yX8_nextSeed, cX8_nextSeed, 1, some .int)
set_option maxRecDepth 20000 in
theorem moX8_nextSeed : gw_mo mX8_nextSeed 1 := ⟨gw_in (List.mem_append_right _ (List.mem_append_right _ (List.mem_append_right _ (List.mem_append_left _ (List.mem_of_getElem? (i := 191) rfl))))) rfl, gw_in (List.mem_append_right _ (List.mem_append_left _ (List.mem_of_getElem? (i := 1) rfl))) rfl, by decide +kernel, by decide⟩
set_option maxRecDepth 20000 in
theorem msX8_nextSeed : gw_ms mX8_nextSeed 1 := ⟨moX8_nextSeed, gw_in (List.mem_append_right _ (List.mem_append_right _ (List.mem_append_right _ (List.mem_append_left _ (List.mem_of_getElem? (i := 190) rfl))))) rfl⟩
abbrev mX8_note : gw_M := (yX8_note, cX8_note, 2, some .int)
set_option maxRecDepth 20000 in
theorem moX8_note : gw_mo mX8_note 1 := ⟨gw_in (List.mem_append_right _ (List.mem_append_right _ (List.mem_append_left _ (List.mem_of_getElem? (i := 153) rfl)))) rfl, gw_in (List.mem_append_right _ (List.mem_append_left _ (List.mem_of_getElem? (i := 1) rfl))) rfl, by decide +kernel, by decide⟩
set_option maxRecDepth 20000 in
theorem mvX8_note : gw_mv mX8_note 1 := ⟨moX8_note, gw_in (List.mem_append_right _ (List.mem_append_right _ (List.mem_append_left _ (List.mem_of_getElem? (i := 151) rfl)))) rfl, gw_in (List.mem_append_right _ (List.mem_append_right _ (List.mem_append_left _ (List.mem_of_getElem? (i := 152) rfl)))) rfl⟩
abbrev mX8_put : gw_M := (yX8_put, cX8_put, 6, some .int)
set_option maxRecDepth 20000 in
theorem moX8_put : gw_mo mX8_put 4 := ⟨gw_in (List.mem_append_right _ (List.mem_append_right _ (List.mem_append_right _ (List.mem_append_left _ (List.mem_of_getElem? (i := 206) rfl))))) rfl, gw_in (List.mem_append_right _ (List.mem_append_left _ (List.mem_of_getElem? (i := 1) rfl))) rfl, by decide +kernel, by decide⟩
set_option maxRecDepth 20000 in
theorem mvX8_put : gw_mv mX8_put 4 := ⟨moX8_put, gw_in (List.mem_append_right _ (List.mem_append_right _ (List.mem_append_right _ (List.mem_append_left _ (List.mem_of_getElem? (i := 204) rfl))))) rfl, gw_in (List.mem_append_right _ (List.mem_append_right _ (List.mem_append_right _ (List.mem_append_left _ (List.mem_of_getElem? (i := 205) rfl))))) rfl⟩
abbrev mX8_read : gw_M := (yX8_read, cX8_read, 6, some .int)
set_option maxRecDepth 20000 in
theorem moX8_read : gw_mo mX8_read 1 := ⟨gw_in (List.mem_append_right _ (List.mem_append_right _ (List.mem_append_left _ (List.mem_of_getElem? (i := 176) rfl)))) rfl, gw_in (List.mem_append_right _ (List.mem_append_left _ (List.mem_of_getElem? (i := 1) rfl))) rfl, by decide +kernel, by decide⟩
set_option maxRecDepth 20000 in
theorem mvX8_read : gw_mv mX8_read 1 := ⟨moX8_read, gw_in (List.mem_append_right _ (List.mem_append_right _ (List.mem_append_left _ (List.mem_of_getElem? (i := 174) rfl)))) rfl, gw_in (List.mem_append_right _ (List.mem_append_right _ (List.mem_append_left _ (List.mem_of_getElem? (i := 175) rfl)))) rfl⟩
abbrev mX8_seekCorks : gw_M := (yX8_seekCorks, cX8_seekCorks, 4, some .int)
set_option maxRecDepth 20000 in
theorem moX8_seekCorks : gw_mo mX8_seekCorks 1 := ⟨gw_in (List.mem_append_right _ (List.mem_append_right _ (List.mem_append_right _ (List.mem_append_left _ (List.mem_of_getElem? (i := 85) rfl))))) rfl, gw_in (List.mem_append_right _ (List.mem_append_left _ (List.mem_of_getElem? (i := 1) rfl))) rfl, by decide +kernel, by decide⟩
set_option maxRecDepth 20000 in
theorem mvX8_seekCorks : gw_mv mX8_seekCorks 1 := ⟨moX8_seekCorks, gw_in (List.mem_append_right _ (List.mem_append_right _ (List.mem_append_right _ (List.mem_append_left _ (List.mem_of_getElem? (i := 84) rfl))))) rfl, gw_in (List.mem_append_left _ (List.mem_of_getElem? (i := 13) rfl)) rfl⟩
abbrev mX8_sheet : gw_M := (yX8_sheet, cX8_sheet, 4, some .int)
set_option maxRecDepth 20000 in
theorem moX8_sheet : gw_mo mX8_sheet 3 := ⟨gw_in (List.mem_append_right _ (List.mem_append_right _ (List.mem_append_right _ (List.mem_append_left _ (List.mem_of_getElem? (i := 197) rfl))))) rfl, gw_in (List.mem_append_right _ (List.mem_append_left _ (List.mem_of_getElem? (i := 1) rfl))) rfl, by decide +kernel, by decide⟩
set_option maxRecDepth 20000 in
theorem mvX8_sheet : gw_mv mX8_sheet 3 := ⟨moX8_sheet, gw_in (List.mem_append_right _ (List.mem_append_right _ (List.mem_append_right _ (List.mem_append_left _ (List.mem_of_getElem? (i := 195) rfl))))) rfl, gw_in (List.mem_append_right _ (List.mem_append_right _ (List.mem_append_right _ (List.mem_append_left _ (List.mem_of_getElem? (i := 196) rfl))))) rfl⟩
abbrev mX8_sing : gw_M := (yX8_sing, cX8_sing, 3, some .int)
set_option maxRecDepth 20000 in
theorem moX8_sing : gw_mo mX8_sing 2 := ⟨gw_in (List.mem_append_right _ (List.mem_append_right _ (List.mem_append_right _ (List.mem_append_left _ (List.mem_of_getElem? (i := 49) rfl))))) rfl, gw_in (List.mem_append_right _ (List.mem_append_left _ (List.mem_of_getElem? (i := 1) rfl))) rfl, by decide +kernel, by decide⟩
set_option maxRecDepth 20000 in
theorem mvX8_sing : gw_mv mX8_sing 2 := ⟨moX8_sing, gw_in (List.mem_append_right _ (List.mem_append_right _ (List.mem_append_right _ (List.mem_append_left _ (List.mem_of_getElem? (i := 47) rfl))))) rfl, gw_in (List.mem_append_right _ (List.mem_append_right _ (List.mem_append_right _ (List.mem_append_left _ (List.mem_of_getElem? (i := 48) rfl))))) rfl⟩
abbrev mX8_singsCorked : gw_M := (yX8_singsCorked, cX8_singsCorked, 4, some .boolean)
set_option maxRecDepth 20000 in
theorem moX8_singsCorked : gw_mo mX8_singsCorked 2 := ⟨gw_in (List.mem_append_right _ (List.mem_append_right _ (List.mem_append_right _ (List.mem_append_left _ (List.mem_of_getElem? (i := 99) rfl))))) rfl, gw_in (List.mem_append_right _ (List.mem_append_left _ (List.mem_of_getElem? (i := 1) rfl))) rfl, by decide +kernel, by decide⟩
set_option maxRecDepth 20000 in
theorem mvX8_singsCorked : gw_mv mX8_singsCorked 2 := ⟨moX8_singsCorked, gw_in (List.mem_append_right _ (List.mem_append_right _ (List.mem_append_right _ (List.mem_append_left _ (List.mem_of_getElem? (i := 98) rfl))))) rfl, gw_in (List.mem_append_left _ (List.mem_of_getElem? (i := 15) rfl)) rfl⟩
abbrev mX8_spilled : gw_M := (yX8_spilled, cX8_spilled, 3, some .int)
set_option maxRecDepth 20000 in
theorem moX8_spilled : gw_mo mX8_spilled 2 := ⟨gw_in (List.mem_append_right _ (List.mem_append_right _ (List.mem_append_right _ (List.mem_append_left _ (List.mem_of_getElem? (i := 29) rfl))))) rfl, gw_in (List.mem_append_right _ (List.mem_append_left _ (List.mem_of_getElem? (i := 1) rfl))) rfl, by decide +kernel, by decide⟩
set_option maxRecDepth 20000 in
theorem mvX8_spilled : gw_mv mX8_spilled 2 := ⟨moX8_spilled, gw_in (List.mem_append_right _ (List.mem_append_right _ (List.mem_append_right _ (List.mem_append_left _ (List.mem_of_getElem? (i := 27) rfl))))) rfl, gw_in (List.mem_append_right _ (List.mem_append_right _ (List.mem_append_right _ (List.mem_append_left _ (List.mem_of_getElem? (i := 28) rfl))))) rfl⟩
abbrev mX8_swapped : gw_M := (yX8_swapped, cX8_swapped, 6, some .int)
set_option maxRecDepth 20000 in
theorem moX8_swapped : gw_mo mX8_swapped 1 := ⟨gw_in (List.mem_append_right _ (List.mem_append_right _ (List.mem_append_right _ (List.mem_append_left _ (List.mem_of_getElem? (i := 143) rfl))))) rfl, gw_in (List.mem_append_right _ (List.mem_append_left _ (List.mem_of_getElem? (i := 1) rfl))) rfl, by decide +kernel, by decide⟩
set_option maxRecDepth 20000 in
theorem mvX8_swapped : gw_mv mX8_swapped 1 := ⟨moX8_swapped, gw_in (List.mem_append_right _ (List.mem_append_right _ (List.mem_append_right _ (List.mem_append_left _ (List.mem_of_getElem? (i := 141) rfl))))) rfl, gw_in (List.mem_append_right _ (List.mem_append_right _ (List.mem_append_right _ (List.mem_append_left _ (List.mem_of_getElem? (i := 142) rfl))))) rfl⟩
abbrev mX8_takeTexts : gw_M := (yX8_takeTexts, cX8_takeTexts, 1, none)
set_option maxRecDepth 20000 in
theorem moX8_takeTexts : gw_mo mX8_takeTexts 0 := ⟨gw_in (List.mem_append_right _ (List.mem_append_right _ (List.mem_append_left _ (List.mem_of_getElem? (i := 95) rfl)))) rfl, gw_in (List.mem_append_right _ (List.mem_append_left _ (List.mem_of_getElem? (i := 1) rfl))) rfl, by decide +kernel, by decide⟩
set_option maxRecDepth 20000 in
theorem mvX8_takeTexts : gw_mv mX8_takeTexts 0 := ⟨moX8_takeTexts, gw_in (List.mem_append_right _ (List.mem_append_right _ (List.mem_append_left _ (List.mem_of_getElem? (i := 94) rfl)))) rfl, gw_in (List.mem_append_left _ (List.mem_of_getElem? (i := 1) rfl)) rfl⟩
abbrev mX8_textOf : gw_M := (yX8_textOf, cX8_textOf, 2, some (.object "BreathSold$Text"))
set_option maxRecDepth 20000 in
theorem moX8_textOf : gw_mo mX8_textOf 1 := ⟨gw_in (List.mem_append_right _ (List.mem_append_right _ (List.mem_append_left _ (List.mem_of_getElem? (i := 91) rfl)))) rfl, gw_in (List.mem_append_right _ (List.mem_append_left _ (List.mem_of_getElem? (i := 1) rfl))) rfl, by decide +kernel, by decide⟩
set_option maxRecDepth 20000 in
theorem mvX8_textOf : gw_mv mX8_textOf 1 := ⟨moX8_textOf, gw_in (List.mem_append_right _ (List.mem_append_right _ (List.mem_append_left _ (List.mem_of_getElem? (i := 90) rfl)))) rfl, gw_in (List.mem_append_left _ (List.mem_of_getElem? (i := 0) rfl)) rfl⟩
abbrev mX8_type : gw_M := (yX8_type, cX8_type, 4, some .int)
set_option maxRecDepth 20000 in
theorem moX8_type : gw_mo mX8_type 2 := ⟨gw_in (List.mem_append_right _ (List.mem_append_right _ (List.mem_append_left _ (List.mem_of_getElem? (i := 84) rfl)))) rfl, gw_in (List.mem_append_right _ (List.mem_append_left _ (List.mem_of_getElem? (i := 1) rfl))) rfl, by decide +kernel, by decide⟩
set_option maxRecDepth 20000 in
theorem mvX8_type : gw_mv mX8_type 2 := ⟨moX8_type, gw_in (List.mem_append_right _ (List.mem_append_right _ (List.mem_append_left _ (List.mem_of_getElem? (i := 82) rfl)))) rfl, gw_in (List.mem_append_right _ (List.mem_append_right _ (List.mem_append_left _ (List.mem_of_getElem? (i := 83) rfl)))) rfl⟩
abbrev mX8_undo : gw_M := (yX8_undo, cX8_undo, 3, some .int)
set_option maxRecDepth 20000 in
theorem moX8_undo : gw_mo mX8_undo 1 := ⟨gw_in (List.mem_append_right _ (List.mem_append_right _ (List.mem_append_left _ (List.mem_of_getElem? (i := 135) rfl)))) rfl, gw_in (List.mem_append_right _ (List.mem_append_left _ (List.mem_of_getElem? (i := 1) rfl))) rfl, by decide +kernel, by decide⟩
set_option maxRecDepth 20000 in
theorem mvX8_undo : gw_mv mX8_undo 1 := ⟨moX8_undo, gw_in (List.mem_append_right _ (List.mem_append_right _ (List.mem_append_left _ (List.mem_of_getElem? (i := 133) rfl)))) rfl, gw_in (List.mem_append_right _ (List.mem_append_right _ (List.mem_append_left _ (List.mem_of_getElem? (i := 134) rfl)))) rfl⟩
abbrev mX8_weigh : gw_M := (yX8_weigh, cX8_weigh, 7, some .int)
set_option maxRecDepth 20000 in
theorem moX8_weigh : gw_mo mX8_weigh 1 := ⟨gw_in (List.mem_append_right _ (List.mem_append_right _ (List.mem_append_right _ (List.mem_append_left _ (List.mem_of_getElem? (i := 147) rfl))))) rfl, gw_in (List.mem_append_right _ (List.mem_append_left _ (List.mem_of_getElem? (i := 1) rfl))) rfl, by decide +kernel, by decide⟩
set_option maxRecDepth 20000 in
theorem mvX8_weigh : gw_mv mX8_weigh 1 := ⟨moX8_weigh, gw_in (List.mem_append_right _ (List.mem_append_right _ (List.mem_append_right _ (List.mem_append_left _ (List.mem_of_getElem? (i := 145) rfl))))) rfl, gw_in (List.mem_append_right _ (List.mem_append_right _ (List.mem_append_right _ (List.mem_append_left _ (List.mem_of_getElem? (i := 146) rfl))))) rfl⟩
abbrev mX8_weighed : gw_M := (yX8_weighed, cX8_weighed, 5, some .int)
set_option maxRecDepth 20000 in
theorem moX8_weighed : gw_mo mX8_weighed 3 := ⟨gw_in (List.mem_append_right _ (List.mem_append_right _ (List.mem_append_right _ (List.mem_append_left _ (List.mem_of_getElem? (i := 115) rfl))))) rfl, gw_in (List.mem_append_right _ (List.mem_append_left _ (List.mem_of_getElem? (i := 1) rfl))) rfl, by decide +kernel, by decide⟩
set_option maxRecDepth 20000 in
theorem mvX8_weighed : gw_mv mX8_weighed 3 := ⟨moX8_weighed, gw_in (List.mem_append_right _ (List.mem_append_right _ (List.mem_append_right _ (List.mem_append_left _ (List.mem_of_getElem? (i := 113) rfl))))) rfl, gw_in (List.mem_append_right _ (List.mem_append_right _ (List.mem_append_right _ (List.mem_append_left _ (List.mem_of_getElem? (i := 114) rfl))))) rfl⟩
abbrev mX8_who : gw_M := (yX8_who, cX8_who, 3, some .int)
set_option maxRecDepth 20000 in
theorem moX8_who : gw_mo mX8_who 2 := ⟨gw_in (List.mem_append_right _ (List.mem_append_right _ (List.mem_append_right _ (List.mem_append_left _ (List.mem_of_getElem? (i := 8) rfl))))) rfl, gw_in (List.mem_append_right _ (List.mem_append_left _ (List.mem_of_getElem? (i := 1) rfl))) rfl, by decide +kernel, by decide⟩
set_option maxRecDepth 20000 in
theorem mvX8_who : gw_mv mX8_who 2 := ⟨moX8_who, gw_in (List.mem_append_right _ (List.mem_append_right _ (List.mem_append_right _ (List.mem_append_left _ (List.mem_of_getElem? (i := 6) rfl))))) rfl, gw_in (List.mem_append_right _ (List.mem_append_right _ (List.mem_append_right _ (List.mem_append_left _ (List.mem_of_getElem? (i := 7) rfl))))) rfl⟩
abbrev mX8_whole : gw_M := (yX8_whole, cX8_whole, 3, some .int)
set_option maxRecDepth 20000 in
theorem moX8_whole : gw_mo mX8_whole 2 := ⟨gw_in (List.mem_append_right _ (List.mem_append_right _ (List.mem_append_right _ (List.mem_append_left _ (List.mem_of_getElem? (i := 12) rfl))))) rfl, gw_in (List.mem_append_right _ (List.mem_append_left _ (List.mem_of_getElem? (i := 1) rfl))) rfl, by decide +kernel, by decide⟩
set_option maxRecDepth 20000 in
theorem mvX8_whole : gw_mv mX8_whole 2 := ⟨moX8_whole, gw_in (List.mem_append_right _ (List.mem_append_right _ (List.mem_append_right _ (List.mem_append_left _ (List.mem_of_getElem? (i := 10) rfl))))) rfl, gw_in (List.mem_append_right _ (List.mem_append_right _ (List.mem_append_right _ (List.mem_append_left _ (List.mem_of_getElem? (i := 11) rfl))))) rfl⟩
abbrev mX8_wholeWays : gw_M := (yX8_wholeWays, cX8_wholeWays, 10, some .long)
set_option maxRecDepth 20000 in
theorem moX8_wholeWays : gw_mo mX8_wholeWays 6 := ⟨gw_in (List.mem_append_right _ (List.mem_append_right _ (List.mem_append_right _ (List.mem_append_left _ (List.mem_of_getElem? (i := 165) rfl))))) rfl, gw_in (List.mem_append_right _ (List.mem_append_left _ (List.mem_of_getElem? (i := 1) rfl))) rfl, by decide +kernel, by decide⟩
set_option maxRecDepth 20000 in
theorem msX8_wholeWays : gw_ms mX8_wholeWays 6 := ⟨moX8_wholeWays, gw_in (List.mem_append_right _ (List.mem_append_right _ (List.mem_append_right _ (List.mem_append_left _ (List.mem_of_getElem? (i := 164) rfl))))) rfl⟩
abbrev mX8_wipe : gw_M := (yX8_wipe, cX8_wipe, 4, some .int)
set_option maxRecDepth 20000 in
theorem moX8_wipe : gw_mo mX8_wipe 1 := ⟨gw_in (List.mem_append_right _ (List.mem_append_right _ (List.mem_append_left _ (List.mem_of_getElem? (i := 131) rfl)))) rfl, gw_in (List.mem_append_right _ (List.mem_append_left _ (List.mem_of_getElem? (i := 1) rfl))) rfl, by decide +kernel, by decide⟩
set_option maxRecDepth 20000 in
theorem mvX8_wipe : gw_mv mX8_wipe 1 := ⟨moX8_wipe, gw_in (List.mem_append_right _ (List.mem_append_right _ (List.mem_append_left _ (List.mem_of_getElem? (i := 129) rfl)))) rfl, gw_in (List.mem_append_right _ (List.mem_append_right _ (List.mem_append_left _ (List.mem_of_getElem? (i := 130) rfl)))) rfl⟩
abbrev mX8_works : gw_M := (yX8_works, cX8_works, 2, some .int)
set_option maxRecDepth 20000 in
theorem moX8_works : gw_mo mX8_works 1 := ⟨gw_in (List.mem_append_right _ (List.mem_append_right _ (List.mem_append_right _ (List.mem_append_left _ (List.mem_of_getElem? (i := 45) rfl))))) rfl, gw_in (List.mem_append_right _ (List.mem_append_left _ (List.mem_of_getElem? (i := 1) rfl))) rfl, by decide +kernel, by decide⟩
set_option maxRecDepth 20000 in
theorem mvX8_works : gw_mv mX8_works 1 := ⟨moX8_works, gw_in (List.mem_append_right _ (List.mem_append_right _ (List.mem_append_right _ (List.mem_append_left _ (List.mem_of_getElem? (i := 43) rfl))))) rfl, gw_in (List.mem_append_right _ (List.mem_append_right _ (List.mem_append_right _ (List.mem_append_left _ (List.mem_of_getElem? (i := 44) rfl))))) rfl⟩
abbrev mX8_write : gw_M := (yX8_write, cX8_write, 5, some .int)
set_option maxRecDepth 20000 in
theorem moX8_write : gw_mo mX8_write 2 := ⟨gw_in (List.mem_append_right _ (List.mem_append_right _ (List.mem_append_right _ (List.mem_append_left _ (List.mem_of_getElem? (i := 233) rfl))))) rfl, gw_in (List.mem_append_right _ (List.mem_append_left _ (List.mem_of_getElem? (i := 1) rfl))) rfl, by decide +kernel, by decide⟩
set_option maxRecDepth 20000 in
theorem mvX8_write : gw_mv mX8_write 2 := ⟨moX8_write, gw_in (List.mem_append_right _ (List.mem_append_right _ (List.mem_append_right _ (List.mem_append_left _ (List.mem_of_getElem? (i := 231) rfl))))) rfl, gw_in (List.mem_append_right _ (List.mem_append_right _ (List.mem_append_right _ (List.mem_append_left _ (List.mem_of_getElem? (i := 232) rfl))))) rfl⟩
abbrev mX9_act : gw_M := (yX9_act, cX9_act, 6, some .int)
set_option maxRecDepth 20000 in
theorem moX9_act : gw_mo mX9_act 4 := ⟨gw_in (List.mem_append_right _ (List.mem_append_right _ (List.mem_append_right _ (List.mem_append_right _ (List.mem_append_right _ (List.mem_append_left _ (List.mem_of_getElem? (i := 20) rfl))))))) rfl, gw_in (List.mem_append_right _ (List.mem_append_left _ (List.mem_of_getElem? (i := 12) rfl))) rfl, by decide +kernel, by decide⟩
set_option maxRecDepth 20000 in
theorem mvX9_act : gw_mv mX9_act 4 := ⟨moX9_act, gw_in (List.mem_append_right _ (List.mem_append_right _ (List.mem_append_right _ (List.mem_append_right _ (List.mem_append_right _ (List.mem_append_left _ (List.mem_of_getElem? (i := 18) rfl))))))) rfl, gw_in (List.mem_append_right _ (List.mem_append_right _ (List.mem_append_right _ (List.mem_append_right _ (List.mem_append_right _ (List.mem_append_left _ (List.mem_of_getElem? (i := 19) rfl))))))) rfl⟩
abbrev mX9_allIn : gw_M := (yX9_allIn, cX9_allIn, 4, some .int)
set_option maxRecDepth 20000 in
theorem moX9_allIn : gw_mo mX9_allIn 1 := ⟨gw_in (List.mem_append_right _ (List.mem_append_right _ (List.mem_append_right _ (List.mem_append_right _ (List.mem_append_right _ (List.mem_append_left _ (List.mem_of_getElem? (i := 96) rfl))))))) rfl, gw_in (List.mem_append_right _ (List.mem_append_left _ (List.mem_of_getElem? (i := 12) rfl))) rfl, by decide +kernel, by decide⟩
set_option maxRecDepth 20000 in
theorem mvX9_allIn : gw_mv mX9_allIn 1 := ⟨moX9_allIn, gw_in (List.mem_append_right _ (List.mem_append_right _ (List.mem_append_right _ (List.mem_append_right _ (List.mem_append_right _ (List.mem_append_left _ (List.mem_of_getElem? (i := 95) rfl))))))) rfl, gw_in (List.mem_append_left _ (List.mem_of_getElem? (i := 44) rfl)) rfl⟩
abbrev mX9_as : gw_M := (yX9_as, cX9_as, 2, some .int)
set_option maxRecDepth 20000 in
theorem moX9_as : gw_mo mX9_as 1 := ⟨gw_in (List.mem_append_right _ (List.mem_append_right _ (List.mem_append_right _ (List.mem_append_right _ (List.mem_append_right _ (List.mem_append_left _ (List.mem_of_getElem? (i := 64) rfl))))))) rfl, gw_in (List.mem_append_right _ (List.mem_append_left _ (List.mem_of_getElem? (i := 12) rfl))) rfl, by decide +kernel, by decide⟩
set_option maxRecDepth 20000 in
theorem mvX9_as : gw_mv mX9_as 1 := ⟨moX9_as, gw_in (List.mem_append_right _ (List.mem_append_right _ (List.mem_append_right _ (List.mem_append_right _ (List.mem_append_right _ (List.mem_append_left _ (List.mem_of_getElem? (i := 63) rfl))))))) rfl, gw_in (List.mem_append_left _ (List.mem_of_getElem? (i := 36) rfl)) rfl⟩
abbrev mX9_asTold : gw_M := (yX9_asTold, cX9_asTold, 2, none)
set_option maxRecDepth 20000 in
theorem moX9_asTold : gw_mo mX9_asTold 0 := ⟨gw_in (List.mem_append_right _ (List.mem_append_right _ (List.mem_append_right _ (List.mem_append_right _ (List.mem_append_right _ (List.mem_append_left _ (List.mem_of_getElem? (i := 52) rfl))))))) rfl, gw_in (List.mem_append_right _ (List.mem_append_left _ (List.mem_of_getElem? (i := 12) rfl))) rfl, by decide +kernel, by decide⟩
set_option maxRecDepth 20000 in
theorem mvX9_asTold : gw_mv mX9_asTold 0 := ⟨moX9_asTold, gw_in (List.mem_append_right _ (List.mem_append_right _ (List.mem_append_right _ (List.mem_append_right _ (List.mem_append_right _ (List.mem_append_left _ (List.mem_of_getElem? (i := 51) rfl))))))) rfl, gw_in (List.mem_append_left _ (List.mem_of_getElem? (i := 33) rfl)) rfl⟩
abbrev mX9_back : gw_M := (yX9_back, cX9_back, 3, some .int)
set_option maxRecDepth 20000 in
theorem moX9_back : gw_mo mX9_back 1 := ⟨gw_in (List.mem_append_right _ (List.mem_append_right _ (List.mem_append_right _ (List.mem_append_right _ (List.mem_append_right _ (List.mem_append_left _ (List.mem_of_getElem? (i := 24) rfl))))))) rfl, gw_in (List.mem_append_right _ (List.mem_append_left _ (List.mem_of_getElem? (i := 12) rfl))) rfl, by decide +kernel, by decide⟩
set_option maxRecDepth 20000 in
theorem mvX9_back : gw_mv mX9_back 1 := ⟨moX9_back, gw_in (List.mem_append_right _ (List.mem_append_right _ (List.mem_append_right _ (List.mem_append_right _ (List.mem_append_right _ (List.mem_append_left _ (List.mem_of_getElem? (i := 22) rfl))))))) rfl, gw_in (List.mem_append_right _ (List.mem_append_right _ (List.mem_append_right _ (List.mem_append_right _ (List.mem_append_right _ (List.mem_append_left _ (List.mem_of_getElem? (i := 23) rfl))))))) rfl⟩
abbrev mX9_begins : gw_M := (yX9_begins, cX9_begins, 2, none)
set_option maxRecDepth 20000 in
theorem moX9_begins : gw_mo mX9_begins 0 := ⟨gw_in (List.mem_append_right _ (List.mem_append_right _ (List.mem_append_right _ (List.mem_append_right _ (List.mem_append_right _ (List.mem_append_left _ (List.mem_of_getElem? (i := 60) rfl))))))) rfl, gw_in (List.mem_append_right _ (List.mem_append_left _ (List.mem_of_getElem? (i := 12) rfl))) rfl, by decide +kernel, by decide⟩
set_option maxRecDepth 20000 in
theorem mvX9_begins : gw_mv mX9_begins 0 := ⟨moX9_begins, gw_in (List.mem_append_right _ (List.mem_append_right _ (List.mem_append_right _ (List.mem_append_right _ (List.mem_append_right _ (List.mem_append_left _ (List.mem_of_getElem? (i := 59) rfl))))))) rfl, gw_in (List.mem_append_left _ (List.mem_of_getElem? (i := 35) rfl)) rfl⟩
abbrev mX9_bottle : gw_M := (yX9_bottle, cX9_bottle, 3, some .int)
set_option maxRecDepth 20000 in
theorem moX9_bottle : gw_mo mX9_bottle 2 := ⟨gw_in (List.mem_append_right _ (List.mem_append_right _ (List.mem_append_right _ (List.mem_append_right _ (List.mem_append_left _ (List.mem_of_getElem? (i := 222) rfl)))))) rfl, gw_in (List.mem_append_right _ (List.mem_append_left _ (List.mem_of_getElem? (i := 12) rfl))) rfl, by decide +kernel, by decide⟩
set_option maxRecDepth 20000 in
theorem mvX9_bottle : gw_mv mX9_bottle 2 := ⟨moX9_bottle, gw_in (List.mem_append_right _ (List.mem_append_right _ (List.mem_append_right _ (List.mem_append_right _ (List.mem_append_left _ (List.mem_of_getElem? (i := 220) rfl)))))) rfl, gw_in (List.mem_append_right _ (List.mem_append_right _ (List.mem_append_right _ (List.mem_append_right _ (List.mem_append_left _ (List.mem_of_getElem? (i := 221) rfl)))))) rfl⟩
abbrev mX9_bottleDigest : gw_M := (yX9_bottleDigest, cX9_bottleDigest, 7, some .long)
set_option maxRecDepth 20000 in
theorem moX9_bottleDigest : gw_mo mX9_bottleDigest 2 := ⟨gw_in (List.mem_append_right _ (List.mem_append_right _ (List.mem_append_right _ (List.mem_append_right _ (List.mem_append_right _ (List.mem_append_right _ (List.mem_of_getElem? (i := 76) rfl))))))) rfl, gw_in (List.mem_append_right _ (List.mem_append_left _ (List.mem_of_getElem? (i := 12) rfl))) rfl, by decide +kernel, by decide⟩
set_option maxRecDepth 20000 in
theorem mvX9_bottleDigest : gw_mv mX9_bottleDigest 2 := ⟨moX9_bottleDigest, gw_in (List.mem_append_right _ (List.mem_append_right _ (List.mem_append_right _ (List.mem_append_right _ (List.mem_append_right _ (List.mem_append_right _ (List.mem_of_getElem? (i := 75) rfl))))))) rfl, gw_in (List.mem_append_left _ (List.mem_of_getElem? (i := 69) rfl)) rfl⟩
abbrev mX9_bottleOf : gw_M := (yX9_bottleOf, cX9_bottleOf, 3, some .int)
set_option maxRecDepth 20000 in
theorem moX9_bottleOf : gw_mo mX9_bottleOf 2 := ⟨gw_in (List.mem_append_right _ (List.mem_append_right _ (List.mem_append_right _ (List.mem_append_right _ (List.mem_append_left _ (List.mem_of_getElem? (i := 234) rfl)))))) rfl, gw_in (List.mem_append_right _ (List.mem_append_left _ (List.mem_of_getElem? (i := 12) rfl))) rfl, by decide +kernel, by decide⟩
set_option maxRecDepth 20000 in
theorem mvX9_bottleOf : gw_mv mX9_bottleOf 2 := ⟨moX9_bottleOf, gw_in (List.mem_append_right _ (List.mem_append_right _ (List.mem_append_right _ (List.mem_append_right _ (List.mem_append_left _ (List.mem_of_getElem? (i := 233) rfl)))))) rfl, gw_in (List.mem_append_left _ (List.mem_of_getElem? (i := 28) rfl)) rfl⟩
abbrev mX9_breaks : gw_M := (yX9_breaks, cX9_breaks, 3, some .boolean)
set_option maxRecDepth 20000 in
theorem moX9_breaks : gw_mo mX9_breaks 1 := ⟨gw_in (List.mem_append_right _ (List.mem_append_right _ (List.mem_append_right _ (List.mem_append_right _ (List.mem_append_right _ (List.mem_append_left _ (List.mem_of_getElem? (i := 88) rfl))))))) rfl, gw_in (List.mem_append_right _ (List.mem_append_left _ (List.mem_of_getElem? (i := 12) rfl))) rfl, by decide +kernel, by decide⟩
set_option maxRecDepth 20000 in
theorem mvX9_breaks : gw_mv mX9_breaks 1 := ⟨moX9_breaks, gw_in (List.mem_append_right _ (List.mem_append_right _ (List.mem_append_right _ (List.mem_append_right _ (List.mem_append_right _ (List.mem_append_left _ (List.mem_of_getElem? (i := 87) rfl))))))) rfl, gw_in (List.mem_append_left _ (List.mem_of_getElem? (i := 42) rfl)) rfl⟩
abbrev mX9_burst : gw_M := (yX9_burst, cX9_burst, 3, some .int)
set_option maxRecDepth 20000 in
theorem moX9_burst : gw_mo mX9_burst 1 := ⟨gw_in (List.mem_append_right _ (List.mem_append_right _ (List.mem_append_right _ (List.mem_append_right _ (List.mem_append_right _ (List.mem_append_left _ (List.mem_of_getElem? (i := 9) rfl))))))) rfl, gw_in (List.mem_append_right _ (List.mem_append_left _ (List.mem_of_getElem? (i := 12) rfl))) rfl, by decide +kernel, by decide⟩
set_option maxRecDepth 20000 in
theorem mvX9_burst : gw_mv mX9_burst 1 := ⟨moX9_burst, gw_in (List.mem_append_right _ (List.mem_append_right _ (List.mem_append_right _ (List.mem_append_right _ (List.mem_append_right _ (List.mem_append_left _ (List.mem_of_getElem? (i := 7) rfl))))))) rfl, gw_in (List.mem_append_right _ (List.mem_append_right _ (List.mem_append_right _ (List.mem_append_right _ (List.mem_append_right _ (List.mem_append_left _ (List.mem_of_getElem? (i := 8) rfl))))))) rfl⟩
abbrev mX9_byteAt : gw_M := (yX9_byteAt, cX9_byteAt, 3, some .int)
set_option maxRecDepth 20000 in
theorem moX9_byteAt : gw_mo mX9_byteAt 2 := ⟨gw_in (List.mem_append_right _ (List.mem_append_right _ (List.mem_append_right _ (List.mem_append_right _ (List.mem_append_left _ (List.mem_of_getElem? (i := 214) rfl)))))) rfl, gw_in (List.mem_append_right _ (List.mem_append_left _ (List.mem_of_getElem? (i := 12) rfl))) rfl, by decide +kernel, by decide⟩
set_option maxRecDepth 20000 in
theorem mvX9_byteAt : gw_mv mX9_byteAt 2 := ⟨moX9_byteAt, gw_in (List.mem_append_right _ (List.mem_append_right _ (List.mem_append_right _ (List.mem_append_right _ (List.mem_append_left _ (List.mem_of_getElem? (i := 213) rfl)))))) rfl, gw_in (List.mem_append_left _ (List.mem_of_getElem? (i := 24) rfl)) rfl⟩
abbrev mX9_copy : gw_M := (yX9_copy, cX9_copy, 7, some .int)
set_option maxRecDepth 20000 in
theorem moX9_copy : gw_mo mX9_copy 5 := ⟨gw_in (List.mem_append_right _ (List.mem_append_right _ (List.mem_append_right _ (List.mem_append_right _ (List.mem_append_right _ (List.mem_append_right _ (List.mem_of_getElem? (i := 53) rfl))))))) rfl, gw_in (List.mem_append_right _ (List.mem_append_left _ (List.mem_of_getElem? (i := 12) rfl))) rfl, by decide +kernel, by decide⟩
set_option maxRecDepth 20000 in
theorem mvX9_copy : gw_mv mX9_copy 5 := ⟨moX9_copy, gw_in (List.mem_append_right _ (List.mem_append_right _ (List.mem_append_right _ (List.mem_append_right _ (List.mem_append_right _ (List.mem_append_right _ (List.mem_of_getElem? (i := 51) rfl))))))) rfl, gw_in (List.mem_append_right _ (List.mem_append_right _ (List.mem_append_right _ (List.mem_append_right _ (List.mem_append_right _ (List.mem_append_right _ (List.mem_of_getElem? (i := 52) rfl))))))) rfl⟩
abbrev mX9_corks : gw_M := (yX9_corks, cX9_corks, 3, some .int)
set_option maxRecDepth 20000 in
theorem moX9_corks : gw_mo mX9_corks 2 := ⟨gw_in (List.mem_append_right _ (List.mem_append_right _ (List.mem_append_right _ (List.mem_append_right _ (List.mem_append_right _ (List.mem_append_left _ (List.mem_of_getElem? (i := 184) rfl))))))) rfl, gw_in (List.mem_append_right _ (List.mem_append_left _ (List.mem_of_getElem? (i := 12) rfl))) rfl, by decide +kernel, by decide⟩
set_option maxRecDepth 20000 in
theorem mvX9_corks : gw_mv mX9_corks 2 := ⟨moX9_corks, gw_in (List.mem_append_right _ (List.mem_append_right _ (List.mem_append_right _ (List.mem_append_right _ (List.mem_append_right _ (List.mem_append_left _ (List.mem_of_getElem? (i := 182) rfl))))))) rfl, gw_in (List.mem_append_right _ (List.mem_append_right _ (List.mem_append_right _ (List.mem_append_right _ (List.mem_append_right _ (List.mem_append_left _ (List.mem_of_getElem? (i := 183) rfl))))))) rfl⟩
abbrev mX9_corksBy : gw_M := (yX9_corksBy, cX9_corksBy, 5, some .int)
set_option maxRecDepth 20000 in
theorem moX9_corksBy : gw_mo mX9_corksBy 1 := ⟨gw_in (List.mem_append_right _ (List.mem_append_right _ (List.mem_append_right _ (List.mem_append_right _ (List.mem_append_right _ (List.mem_append_left _ (List.mem_of_getElem? (i := 188) rfl))))))) rfl, gw_in (List.mem_append_right _ (List.mem_append_left _ (List.mem_of_getElem? (i := 12) rfl))) rfl, by decide +kernel, by decide⟩
set_option maxRecDepth 20000 in
theorem mvX9_corksBy : gw_mv mX9_corksBy 1 := ⟨moX9_corksBy, gw_in (List.mem_append_right _ (List.mem_append_right _ (List.mem_append_right _ (List.mem_append_right _ (List.mem_append_right _ (List.mem_append_left _ (List.mem_of_getElem? (i := 187) rfl))))))) rfl, gw_in (List.mem_append_left _ (List.mem_of_getElem? (i := 56) rfl)) rfl⟩
abbrev mX9_corksOne : gw_M := (yX9_corksOne, cX9_corksOne, 3, some .boolean)
set_option maxRecDepth 20000 in
theorem moX9_corksOne : gw_mo mX9_corksOne 1 := ⟨gw_in (List.mem_append_right _ (List.mem_append_right _ (List.mem_append_right _ (List.mem_append_right _ (List.mem_append_right _ (List.mem_append_left _ (List.mem_of_getElem? (i := 72) rfl))))))) rfl, gw_in (List.mem_append_right _ (List.mem_append_left _ (List.mem_of_getElem? (i := 12) rfl))) rfl, by decide +kernel, by decide⟩
set_option maxRecDepth 20000 in
theorem mvX9_corksOne : gw_mv mX9_corksOne 1 := ⟨moX9_corksOne, gw_in (List.mem_append_right _ (List.mem_append_right _ (List.mem_append_right _ (List.mem_append_right _ (List.mem_append_right _ (List.mem_append_left _ (List.mem_of_getElem? (i := 71) rfl))))))) rfl, gw_in (List.mem_append_left _ (List.mem_of_getElem? (i := 38) rfl)) rfl⟩
abbrev mX9_count : gw_M := (yX9_count, cX9_count, 2, some .int)
set_option maxRecDepth 20000 in
theorem moX9_count : gw_mo mX9_count 1 := ⟨gw_in (List.mem_append_right _ (List.mem_append_right _ (List.mem_append_right _ (List.mem_append_right _ (List.mem_append_right _ (List.mem_append_right _ (List.mem_of_getElem? (i := 61) rfl))))))) rfl, gw_in (List.mem_append_right _ (List.mem_append_left _ (List.mem_of_getElem? (i := 12) rfl))) rfl, by decide +kernel, by decide⟩
set_option maxRecDepth 20000 in
theorem mvX9_count : gw_mv mX9_count 1 := ⟨moX9_count, gw_in (List.mem_append_right _ (List.mem_append_right _ (List.mem_append_right _ (List.mem_append_right _ (List.mem_append_right _ (List.mem_append_right _ (List.mem_of_getElem? (i := 59) rfl))))))) rfl, gw_in (List.mem_append_right _ (List.mem_append_right _ (List.mem_append_right _ (List.mem_append_right _ (List.mem_append_right _ (List.mem_append_right _ (List.mem_of_getElem? (i := 60) rfl))))))) rfl⟩
abbrev mX9_dayDigest : gw_M := (yX9_dayDigest, cX9_dayDigest, 7, some .long)
set_option maxRecDepth 20000 in
theorem moX9_dayDigest : gw_mo mX9_dayDigest 2 := ⟨gw_in (List.mem_append_right _ (List.mem_append_right _ (List.mem_append_right _ (List.mem_append_right _ (List.mem_append_right _ (List.mem_append_right _ (List.mem_of_getElem? (i := 80) rfl))))))) rfl, gw_in (List.mem_append_right _ (List.mem_append_left _ (List.mem_of_getElem? (i := 12) rfl))) rfl, by decide +kernel, by decide⟩
set_option maxRecDepth 20000 in
theorem mvX9_dayDigest : gw_mv mX9_dayDigest 2 := ⟨moX9_dayDigest, gw_in (List.mem_append_right _ (List.mem_append_right _ (List.mem_append_right _ (List.mem_append_right _ (List.mem_append_right _ (List.mem_append_right _ (List.mem_of_getElem? (i := 79) rfl))))))) rfl, gw_in (List.mem_append_left _ (List.mem_of_getElem? (i := 70) rfl)) rfl⟩
abbrev mX9_digest : gw_M := (yX9_digest, cX9_digest, 4, some .long)
set_option maxRecDepth 20000 in
theorem moX9_digest : gw_mo mX9_digest 0 := ⟨gw_in (List.mem_append_right _ (List.mem_append_right _ (List.mem_append_right _ (List.mem_append_right _ (List.mem_append_right _ (List.mem_append_right _ (List.mem_of_getElem? (i := 69) rfl))))))) rfl, gw_in (List.mem_append_right _ (List.mem_append_left _ (List.mem_of_getElem? (i := 12) rfl))) rfl, by decide +kernel, by decide⟩
set_option maxRecDepth 20000 in
theorem mvX9_digest : gw_mv mX9_digest 0 := ⟨moX9_digest, gw_in (List.mem_append_right _ (List.mem_append_right _ (List.mem_append_right _ (List.mem_append_right _ (List.mem_append_right _ (List.mem_append_right _ (List.mem_of_getElem? (i := 67) rfl))))))) rfl, gw_in (List.mem_append_right _ (List.mem_append_right _ (List.mem_append_right _ (List.mem_append_right _ (List.mem_append_right _ (List.mem_append_right _ (List.mem_of_getElem? (i := 68) rfl))))))) rfl⟩
abbrev mX9_does : gw_M := (yX9_does, cX9_does, 3, some .boolean)
set_option maxRecDepth 20000 in
theorem moX9_does : gw_mo mX9_does 1 := ⟨gw_in (List.mem_append_right _ (List.mem_append_right _ (List.mem_append_right _ (List.mem_append_right _ (List.mem_append_right _ (List.mem_append_left _ (List.mem_of_getElem? (i := 76) rfl))))))) rfl, gw_in (List.mem_append_right _ (List.mem_append_left _ (List.mem_of_getElem? (i := 12) rfl))) rfl, by decide +kernel, by decide⟩
set_option maxRecDepth 20000 in
theorem mvX9_does : gw_mv mX9_does 1 := ⟨moX9_does, gw_in (List.mem_append_right _ (List.mem_append_right _ (List.mem_append_right _ (List.mem_append_right _ (List.mem_append_right _ (List.mem_append_left _ (List.mem_of_getElem? (i := 75) rfl))))))) rfl, gw_in (List.mem_append_left _ (List.mem_of_getElem? (i := 39) rfl)) rfl⟩
abbrev mX9_ends : gw_M := (yX9_ends, cX9_ends, 6, none)
set_option maxRecDepth 20000 in
theorem moX9_ends : gw_mo mX9_ends 2 := ⟨gw_in (List.mem_append_right _ (List.mem_append_right _ (List.mem_append_right _ (List.mem_append_right _ (List.mem_append_right _ (List.mem_append_left _ (List.mem_of_getElem? (i := 92) rfl))))))) rfl, gw_in (List.mem_append_right _ (List.mem_append_left _ (List.mem_of_getElem? (i := 12) rfl))) rfl, by decide +kernel, by decide⟩
set_option maxRecDepth 20000 in
theorem mvX9_ends : gw_mv mX9_ends 2 := ⟨moX9_ends, gw_in (List.mem_append_right _ (List.mem_append_right _ (List.mem_append_right _ (List.mem_append_right _ (List.mem_append_right _ (List.mem_append_left _ (List.mem_of_getElem? (i := 91) rfl))))))) rfl, gw_in (List.mem_append_left _ (List.mem_of_getElem? (i := 43) rfl)) rfl⟩
abbrev mX9_fault : gw_M := (yX9_fault, cX9_fault, 2, some .int)
set_option maxRecDepth 20000 in
theorem moX9_fault : gw_mo mX9_fault 1 := ⟨gw_in (List.mem_append_right _ (List.mem_append_right _ (List.mem_append_right _ (List.mem_append_right _ (List.mem_append_left _ (List.mem_of_getElem? (i := 198) rfl)))))) rfl, gw_in (List.mem_append_right _ (List.mem_append_left _ (List.mem_of_getElem? (i := 12) rfl))) rfl, by decide +kernel, by decide⟩
set_option maxRecDepth 20000 in
theorem mvX9_fault : gw_mv mX9_fault 1 := ⟨moX9_fault, gw_in (List.mem_append_right _ (List.mem_append_right _ (List.mem_append_right _ (List.mem_append_right _ (List.mem_append_left _ (List.mem_of_getElem? (i := 196) rfl)))))) rfl, gw_in (List.mem_append_right _ (List.mem_append_right _ (List.mem_append_right _ (List.mem_append_right _ (List.mem_append_left _ (List.mem_of_getElem? (i := 197) rfl)))))) rfl⟩
abbrev mX9_faultOf : gw_M := (yX9_faultOf, cX9_faultOf, 4, some .int)
set_option maxRecDepth 20000 in
theorem moX9_faultOf : gw_mo mX9_faultOf 1 := ⟨gw_in (List.mem_append_right _ (List.mem_append_right _ (List.mem_append_right _ (List.mem_append_right _ (List.mem_append_left _ (List.mem_of_getElem? (i := 202) rfl)))))) rfl, gw_in (List.mem_append_right _ (List.mem_append_left _ (List.mem_of_getElem? (i := 12) rfl))) rfl, by decide +kernel, by decide⟩
set_option maxRecDepth 20000 in
theorem mvX9_faultOf : gw_mv mX9_faultOf 1 := ⟨moX9_faultOf, gw_in (List.mem_append_right _ (List.mem_append_right _ (List.mem_append_right _ (List.mem_append_right _ (List.mem_append_left _ (List.mem_of_getElem? (i := 201) rfl)))))) rfl, gw_in (List.mem_append_left _ (List.mem_of_getElem? (i := 21) rfl)) rfl⟩
abbrev mX9_forget : gw_M := (yX9_forget, cX9_forget, 2, some .int)
set_option maxRecDepth 20000 in
theorem moX9_forget : gw_mo mX9_forget 0 := ⟨gw_in (List.mem_append_right _ (List.mem_append_right _ (List.mem_append_right _ (List.mem_append_right _ (List.mem_append_right _ (List.mem_append_left _ (List.mem_of_getElem? (i := 212) rfl))))))) rfl, gw_in (List.mem_append_right _ (List.mem_append_left _ (List.mem_of_getElem? (i := 12) rfl))) rfl, by decide +kernel, by decide⟩
set_option maxRecDepth 20000 in
theorem mvX9_forget : gw_mv mX9_forget 0 := ⟨moX9_forget, gw_in (List.mem_append_right _ (List.mem_append_right _ (List.mem_append_right _ (List.mem_append_right _ (List.mem_append_right _ (List.mem_append_left _ (List.mem_of_getElem? (i := 210) rfl))))))) rfl, gw_in (List.mem_append_right _ (List.mem_append_right _ (List.mem_append_right _ (List.mem_append_right _ (List.mem_append_right _ (List.mem_append_left _ (List.mem_of_getElem? (i := 211) rfl))))))) rfl⟩
abbrev mX9_get : gw_M := (yX9_get, cX9_get, 5, some .int)
set_option maxRecDepth 20000 in
theorem moX9_get : gw_mo mX9_get 3 := ⟨gw_in (List.mem_append_right _ (List.mem_append_right _ (List.mem_append_right _ (List.mem_append_right _ (List.mem_append_right _ (List.mem_append_right _ (List.mem_of_getElem? (i := 48) rfl))))))) rfl, gw_in (List.mem_append_right _ (List.mem_append_left _ (List.mem_of_getElem? (i := 12) rfl))) rfl, by decide +kernel, by decide⟩
set_option maxRecDepth 20000 in
theorem mvX9_get : gw_mv mX9_get 3 := ⟨moX9_get, gw_in (List.mem_append_right _ (List.mem_append_right _ (List.mem_append_right _ (List.mem_append_right _ (List.mem_append_right _ (List.mem_append_right _ (List.mem_of_getElem? (i := 46) rfl))))))) rfl, gw_in (List.mem_append_right _ (List.mem_append_right _ (List.mem_append_right _ (List.mem_append_right _ (List.mem_append_right _ (List.mem_append_right _ (List.mem_of_getElem? (i := 47) rfl))))))) rfl⟩
abbrev mX9_goesBy : gw_M := (yX9_goesBy, cX9_goesBy, 4, none)
set_option maxRecDepth 20000 in
theorem moX9_goesBy : gw_mo mX9_goesBy 1 := ⟨gw_in (List.mem_append_right _ (List.mem_append_right _ (List.mem_append_right _ (List.mem_append_right _ (List.mem_append_right _ (List.mem_append_left _ (List.mem_of_getElem? (i := 68) rfl))))))) rfl, gw_in (List.mem_append_right _ (List.mem_append_left _ (List.mem_of_getElem? (i := 12) rfl))) rfl, by decide +kernel, by decide⟩
set_option maxRecDepth 20000 in
theorem mvX9_goesBy : gw_mv mX9_goesBy 1 := ⟨moX9_goesBy, gw_in (List.mem_append_right _ (List.mem_append_right _ (List.mem_append_right _ (List.mem_append_right _ (List.mem_append_right _ (List.mem_append_left _ (List.mem_of_getElem? (i := 67) rfl))))))) rfl, gw_in (List.mem_append_left _ (List.mem_of_getElem? (i := 37) rfl)) rfl⟩
abbrev mX9_has : gw_M := (yX9_has, cX9_has, 3, some .int)
set_option maxRecDepth 20000 in
theorem moX9_has : gw_mo mX9_has 2 := ⟨gw_in (List.mem_append_right _ (List.mem_append_right _ (List.mem_append_right _ (List.mem_append_right _ (List.mem_append_right _ (List.mem_append_left _ (List.mem_of_getElem? (i := 116) rfl))))))) rfl, gw_in (List.mem_append_right _ (List.mem_append_left _ (List.mem_of_getElem? (i := 12) rfl))) rfl, by decide +kernel, by decide⟩
set_option maxRecDepth 20000 in
theorem mvX9_has : gw_mv mX9_has 2 := ⟨moX9_has, gw_in (List.mem_append_right _ (List.mem_append_right _ (List.mem_append_right _ (List.mem_append_right _ (List.mem_append_right _ (List.mem_append_left _ (List.mem_of_getElem? (i := 114) rfl))))))) rfl, gw_in (List.mem_append_right _ (List.mem_append_right _ (List.mem_append_right _ (List.mem_append_right _ (List.mem_append_right _ (List.mem_append_left _ (List.mem_of_getElem? (i := 115) rfl))))))) rfl⟩
abbrev mX9_hasOf : gw_M := (yX9_hasOf, cX9_hasOf, 6, some .int)
set_option maxRecDepth 20000 in
theorem moX9_hasOf : gw_mo mX9_hasOf 2 := ⟨gw_in (List.mem_append_right _ (List.mem_append_right _ (List.mem_append_right _ (List.mem_append_right _ (List.mem_append_right _ (List.mem_append_left _ (List.mem_of_getElem? (i := 120) rfl))))))) rfl, gw_in (List.mem_append_right _ (List.mem_append_left _ (List.mem_of_getElem? (i := 12) rfl))) rfl, by decide +kernel, by decide⟩
set_option maxRecDepth 20000 in
theorem mvX9_hasOf : gw_mv mX9_hasOf 2 := ⟨moX9_hasOf, gw_in (List.mem_append_right _ (List.mem_append_right _ (List.mem_append_right _ (List.mem_append_right _ (List.mem_append_right _ (List.mem_append_left _ (List.mem_of_getElem? (i := 119) rfl))))))) rfl, gw_in (List.mem_append_left _ (List.mem_of_getElem? (i := 47) rfl)) rfl⟩
abbrev mX9_heard : gw_M := (yX9_heard, cX9_heard, 3, some .int)
set_option maxRecDepth 20000 in
theorem moX9_heard : gw_mo mX9_heard 2 := ⟨gw_in (List.mem_append_right _ (List.mem_append_right _ (List.mem_append_right _ (List.mem_append_right _ (List.mem_append_right _ (List.mem_append_left _ (List.mem_of_getElem? (i := 124) rfl))))))) rfl, gw_in (List.mem_append_right _ (List.mem_append_left _ (List.mem_of_getElem? (i := 12) rfl))) rfl, by decide +kernel, by decide⟩
set_option maxRecDepth 20000 in
theorem mvX9_heard : gw_mv mX9_heard 2 := ⟨moX9_heard, gw_in (List.mem_append_right _ (List.mem_append_right _ (List.mem_append_right _ (List.mem_append_right _ (List.mem_append_right _ (List.mem_append_left _ (List.mem_of_getElem? (i := 122) rfl))))))) rfl, gw_in (List.mem_append_right _ (List.mem_append_right _ (List.mem_append_right _ (List.mem_append_right _ (List.mem_append_right _ (List.mem_append_left _ (List.mem_of_getElem? (i := 123) rfl))))))) rfl⟩
abbrev mX9_heardOf : gw_M := (yX9_heardOf, cX9_heardOf, 3, some .int)
set_option maxRecDepth 20000 in
theorem moX9_heardOf : gw_mo mX9_heardOf 2 := ⟨gw_in (List.mem_append_right _ (List.mem_append_right _ (List.mem_append_right _ (List.mem_append_right _ (List.mem_append_right _ (List.mem_append_left _ (List.mem_of_getElem? (i := 128) rfl))))))) rfl, gw_in (List.mem_append_right _ (List.mem_append_left _ (List.mem_of_getElem? (i := 12) rfl))) rfl, by decide +kernel, by decide⟩
set_option maxRecDepth 20000 in
theorem mvX9_heardOf : gw_mv mX9_heardOf 2 := ⟨moX9_heardOf, gw_in (List.mem_append_right _ (List.mem_append_right _ (List.mem_append_right _ (List.mem_append_right _ (List.mem_append_right _ (List.mem_append_left _ (List.mem_of_getElem? (i := 127) rfl))))))) rfl, gw_in (List.mem_append_left _ (List.mem_of_getElem? (i := 48) rfl)) rfl⟩
abbrev mX9_heat : gw_M := (yX9_heat, cX9_heat, 5, some .long)
set_option maxRecDepth 20000 in
theorem moX9_heat : gw_mo mX9_heat 4 := ⟨gw_in (List.mem_append_right _ (List.mem_append_right _ (List.mem_append_right _ (List.mem_append_right _ (List.mem_append_right _ (List.mem_append_right _ (List.mem_of_getElem? (i := 4) rfl))))))) rfl, gw_in (List.mem_append_right _ (List.mem_append_left _ (List.mem_of_getElem? (i := 12) rfl))) rfl, by decide +kernel, by decide⟩
set_option maxRecDepth 20000 in
theorem mvX9_heat : gw_mv mX9_heat 4 := ⟨moX9_heat, gw_in (List.mem_append_right _ (List.mem_append_right _ (List.mem_append_right _ (List.mem_append_right _ (List.mem_append_right _ (List.mem_append_right _ (List.mem_of_getElem? (i := 2) rfl))))))) rfl, gw_in (List.mem_append_right _ (List.mem_append_right _ (List.mem_append_right _ (List.mem_append_right _ (List.mem_append_right _ (List.mem_append_right _ (List.mem_of_getElem? (i := 3) rfl))))))) rfl⟩
abbrev mX9_heatOf : gw_M := (yX9_heatOf, cX9_heatOf, 11, some .long)
set_option maxRecDepth 20000 in
theorem moX9_heatOf : gw_mo mX9_heatOf 4 := ⟨gw_in (List.mem_append_right _ (List.mem_append_right _ (List.mem_append_right _ (List.mem_append_right _ (List.mem_append_right _ (List.mem_append_right _ (List.mem_of_getElem? (i := 8) rfl))))))) rfl, gw_in (List.mem_append_right _ (List.mem_append_left _ (List.mem_of_getElem? (i := 12) rfl))) rfl, by decide +kernel, by decide⟩
set_option maxRecDepth 20000 in
theorem mvX9_heatOf : gw_mv mX9_heatOf 4 := ⟨moX9_heatOf, gw_in (List.mem_append_right _ (List.mem_append_right _ (List.mem_append_right _ (List.mem_append_right _ (List.mem_append_right _ (List.mem_append_right _ (List.mem_of_getElem? (i := 7) rfl))))))) rfl, gw_in (List.mem_append_left _ (List.mem_of_getElem? (i := 64) rfl)) rfl⟩
abbrev mX9_hid : gw_M := (yX9_hid, cX9_hid, 1, some .int)
set_option maxRecDepth 20000 in
theorem moX9_hid : gw_mo mX9_hid 0 := ⟨gw_in (List.mem_append_right _ (List.mem_append_right _ (List.mem_append_right _ (List.mem_append_right _ (List.mem_append_right _ (List.mem_append_left _ (List.mem_of_getElem? (i := 216) rfl))))))) rfl, gw_in (List.mem_append_right _ (List.mem_append_left _ (List.mem_of_getElem? (i := 12) rfl))) rfl, by decide +kernel, by decide⟩
set_option maxRecDepth 20000 in
theorem mvX9_hid : gw_mv mX9_hid 0 := ⟨moX9_hid, gw_in (List.mem_append_right _ (List.mem_append_right _ (List.mem_append_right _ (List.mem_append_right _ (List.mem_append_right _ (List.mem_append_left _ (List.mem_of_getElem? (i := 214) rfl))))))) rfl, gw_in (List.mem_append_right _ (List.mem_append_right _ (List.mem_append_right _ (List.mem_append_right _ (List.mem_append_right _ (List.mem_append_left _ (List.mem_of_getElem? (i := 215) rfl))))))) rfl⟩
abbrev mX9_hidNow : gw_M := (yX9_hidNow, cX9_hidNow, 3, some .int)
set_option maxRecDepth 20000 in
theorem moX9_hidNow : gw_mo mX9_hidNow 0 := ⟨gw_in (List.mem_append_right _ (List.mem_append_right _ (List.mem_append_right _ (List.mem_append_right _ (List.mem_append_right _ (List.mem_append_left _ (List.mem_of_getElem? (i := 220) rfl))))))) rfl, gw_in (List.mem_append_right _ (List.mem_append_left _ (List.mem_of_getElem? (i := 12) rfl))) rfl, by decide +kernel, by decide⟩
set_option maxRecDepth 20000 in
theorem mvX9_hidNow : gw_mv mX9_hidNow 0 := ⟨moX9_hidNow, gw_in (List.mem_append_right _ (List.mem_append_right _ (List.mem_append_right _ (List.mem_append_right _ (List.mem_append_right _ (List.mem_append_left _ (List.mem_of_getElem? (i := 219) rfl))))))) rfl, gw_in (List.mem_append_left _ (List.mem_of_getElem? (i := 60) rfl)) rfl⟩
abbrev mX9_holds : gw_M := (yX9_holds, cX9_holds, 4, some .int)
set_option maxRecDepth 20000 in
theorem moX9_holds : gw_mo mX9_holds 3 := ⟨gw_in (List.mem_append_right _ (List.mem_append_right _ (List.mem_append_right _ (List.mem_append_right _ (List.mem_append_right _ (List.mem_append_left _ (List.mem_of_getElem? (i := 40) rfl))))))) rfl, gw_in (List.mem_append_right _ (List.mem_append_left _ (List.mem_of_getElem? (i := 12) rfl))) rfl, by decide +kernel, by decide⟩
set_option maxRecDepth 20000 in
theorem mvX9_holds : gw_mv mX9_holds 3 := ⟨moX9_holds, gw_in (List.mem_append_right _ (List.mem_append_right _ (List.mem_append_right _ (List.mem_append_right _ (List.mem_append_right _ (List.mem_append_left _ (List.mem_of_getElem? (i := 38) rfl))))))) rfl, gw_in (List.mem_append_right _ (List.mem_append_right _ (List.mem_append_right _ (List.mem_append_right _ (List.mem_append_right _ (List.mem_append_left _ (List.mem_of_getElem? (i := 39) rfl))))))) rfl⟩
abbrev mX9_holdsOf : gw_M := (yX9_holdsOf, cX9_holdsOf, 4, some .int)
set_option maxRecDepth 20000 in
theorem moX9_holdsOf : gw_mo mX9_holdsOf 3 := ⟨gw_in (List.mem_append_right _ (List.mem_append_right _ (List.mem_append_right _ (List.mem_append_right _ (List.mem_append_right _ (List.mem_append_left _ (List.mem_of_getElem? (i := 44) rfl))))))) rfl, gw_in (List.mem_append_right _ (List.mem_append_left _ (List.mem_of_getElem? (i := 12) rfl))) rfl, by decide +kernel, by decide⟩
set_option maxRecDepth 20000 in
theorem mvX9_holdsOf : gw_mv mX9_holdsOf 3 := ⟨moX9_holdsOf, gw_in (List.mem_append_right _ (List.mem_append_right _ (List.mem_append_right _ (List.mem_append_right _ (List.mem_append_right _ (List.mem_append_left _ (List.mem_of_getElem? (i := 43) rfl))))))) rfl, gw_in (List.mem_append_left _ (List.mem_of_getElem? (i := 31) rfl)) rfl⟩
abbrev mX9_hot : gw_M := (yX9_hot, cX9_hot, 2, some .int)
set_option maxRecDepth 20000 in
theorem moX9_hot : gw_mo mX9_hot 1 := ⟨gw_in (List.mem_append_right _ (List.mem_append_right _ (List.mem_append_right _ (List.mem_append_right _ (List.mem_append_right _ (List.mem_append_left _ (List.mem_of_getElem? (i := 13) rfl))))))) rfl, gw_in (List.mem_append_right _ (List.mem_append_left _ (List.mem_of_getElem? (i := 12) rfl))) rfl, by decide +kernel, by decide⟩
set_option maxRecDepth 20000 in
theorem mvX9_hot : gw_mv mX9_hot 1 := ⟨moX9_hot, gw_in (List.mem_append_right _ (List.mem_append_right _ (List.mem_append_right _ (List.mem_append_right _ (List.mem_append_right _ (List.mem_append_left _ (List.mem_of_getElem? (i := 11) rfl))))))) rfl, gw_in (List.mem_append_right _ (List.mem_append_right _ (List.mem_append_right _ (List.mem_append_right _ (List.mem_append_right _ (List.mem_append_left _ (List.mem_of_getElem? (i := 12) rfl))))))) rfl⟩
abbrev mX9_in : gw_M := (yX9_in, cX9_in, 3, some .boolean)
set_option maxRecDepth 20000 in
theorem moX9_in : gw_mo mX9_in 3 := ⟨gw_in (List.mem_append_right _ (List.mem_append_right _ (List.mem_append_right _ (List.mem_append_right _ (List.mem_append_left _ (List.mem_of_getElem? (i := 186) rfl)))))) rfl, gw_in (List.mem_append_right _ (List.mem_append_left _ (List.mem_of_getElem? (i := 12) rfl))) rfl, by decide +kernel, by decide⟩
set_option maxRecDepth 20000 in
theorem msX9_in : gw_ms mX9_in 3 := ⟨moX9_in, gw_in (List.mem_append_right _ (List.mem_append_right _ (List.mem_append_right _ (List.mem_append_right _ (List.mem_append_left _ (List.mem_of_getElem? (i := 185) rfl)))))) rfl⟩
abbrev mX9_isBottle : gw_M := (yX9_isBottle, cX9_isBottle, 2, some .boolean)
set_option maxRecDepth 20000 in
theorem moX9_isBottle : gw_mo mX9_isBottle 1 := ⟨gw_in (List.mem_append_right _ (List.mem_append_right _ (List.mem_append_right _ (List.mem_append_right _ (List.mem_append_left _ (List.mem_of_getElem? (i := 226) rfl)))))) rfl, gw_in (List.mem_append_right _ (List.mem_append_left _ (List.mem_of_getElem? (i := 12) rfl))) rfl, by decide +kernel, by decide⟩
set_option maxRecDepth 20000 in
theorem mvX9_isBottle : gw_mv mX9_isBottle 1 := ⟨moX9_isBottle, gw_in (List.mem_append_right _ (List.mem_append_right _ (List.mem_append_right _ (List.mem_append_right _ (List.mem_append_left _ (List.mem_of_getElem? (i := 225) rfl)))))) rfl, gw_in (List.mem_append_left _ (List.mem_of_getElem? (i := 26) rfl)) rfl⟩
abbrev mX9_isDay : gw_M := (yX9_isDay, cX9_isDay, 1, some .boolean)
set_option maxRecDepth 20000 in
theorem moX9_isDay : gw_mo mX9_isDay 1 := ⟨gw_in (List.mem_append_right _ (List.mem_append_right _ (List.mem_append_right _ (List.mem_append_right _ (List.mem_append_right _ (List.mem_append_left _ (List.mem_of_getElem? (i := 16) rfl))))))) rfl, gw_in (List.mem_append_right _ (List.mem_append_left _ (List.mem_of_getElem? (i := 12) rfl))) rfl, by decide +kernel, by decide⟩
set_option maxRecDepth 20000 in
theorem msX9_isDay : gw_ms mX9_isDay 1 := ⟨moX9_isDay, gw_in (List.mem_append_right _ (List.mem_append_right _ (List.mem_append_right _ (List.mem_append_right _ (List.mem_append_right _ (List.mem_append_left _ (List.mem_of_getElem? (i := 15) rfl))))))) rfl⟩
abbrev mX9_isEight : gw_M := (yX9_isEight, cX9_isEight, 1, some .boolean)
set_option maxRecDepth 20000 in
theorem moX9_isEight : gw_mo mX9_isEight 1 := ⟨gw_in (List.mem_append_right _ (List.mem_append_right _ (List.mem_append_right _ (List.mem_append_right _ (List.mem_append_right _ (List.mem_append_left _ (List.mem_of_getElem? (i := 1) rfl))))))) rfl, gw_in (List.mem_append_right _ (List.mem_append_left _ (List.mem_of_getElem? (i := 12) rfl))) rfl, by decide +kernel, by decide⟩
set_option maxRecDepth 20000 in
theorem msX9_isEight : gw_ms mX9_isEight 1 := ⟨moX9_isEight, gw_in (List.mem_append_right _ (List.mem_append_right _ (List.mem_append_right _ (List.mem_append_right _ (List.mem_append_right _ (List.mem_append_left _ (List.mem_of_getElem? (i := 0) rfl))))))) rfl⟩
abbrev mX9_isIn : gw_M := (yX9_isIn, cX9_isIn, 2, some .boolean)
set_option maxRecDepth 20000 in
theorem moX9_isIn : gw_mo mX9_isIn 2 := ⟨gw_in (List.mem_append_right _ (List.mem_append_right _ (List.mem_append_right _ (List.mem_append_right _ (List.mem_append_right _ (List.mem_append_left _ (List.mem_of_getElem? (i := 176) rfl))))))) rfl, gw_in (List.mem_append_right _ (List.mem_append_left _ (List.mem_of_getElem? (i := 12) rfl))) rfl, by decide +kernel, by decide⟩
set_option maxRecDepth 20000 in
theorem msX9_isIn : gw_ms mX9_isIn 2 := ⟨moX9_isIn, gw_in (List.mem_append_right _ (List.mem_append_right _ (List.mem_append_right _ (List.mem_append_right _ (List.mem_append_right _ (List.mem_append_left _ (List.mem_of_getElem? (i := 175) rfl))))))) rfl⟩
abbrev mX9_isSheet : gw_M := (yX9_isSheet, cX9_isSheet, 1, some .boolean)
set_option maxRecDepth 20000 in
theorem moX9_isSheet : gw_mo mX9_isSheet 1 := ⟨gw_in (List.mem_append_right _ (List.mem_append_right _ (List.mem_append_right _ (List.mem_append_right _ (List.mem_append_right _ (List.mem_append_left _ (List.mem_of_getElem? (i := 31) rfl))))))) rfl, gw_in (List.mem_append_right _ (List.mem_append_left _ (List.mem_of_getElem? (i := 12) rfl))) rfl, by decide +kernel, by decide⟩
set_option maxRecDepth 20000 in
theorem msX9_isSheet : gw_ms mX9_isSheet 1 := ⟨moX9_isSheet, gw_in (List.mem_append_right _ (List.mem_append_right _ (List.mem_append_right _ (List.mem_append_right _ (List.mem_append_right _ (List.mem_append_left _ (List.mem_of_getElem? (i := 30) rfl))))))) rfl⟩
abbrev mX9_isText : gw_M := (yX9_isText, cX9_isText, 1, some .boolean)
set_option maxRecDepth 20000 in
theorem moX9_isText : gw_mo mX9_isText 1 := ⟨gw_in (List.mem_append_right _ (List.mem_append_right _ (List.mem_append_right _ (List.mem_append_right _ (List.mem_append_left _ (List.mem_of_getElem? (i := 183) rfl)))))) rfl, gw_in (List.mem_append_right _ (List.mem_append_left _ (List.mem_of_getElem? (i := 12) rfl))) rfl, by decide +kernel, by decide⟩
set_option maxRecDepth 20000 in
theorem msX9_isText : gw_ms mX9_isText 1 := ⟨moX9_isText, gw_in (List.mem_append_right _ (List.mem_append_right _ (List.mem_append_right _ (List.mem_append_right _ (List.mem_append_left _ (List.mem_of_getElem? (i := 182) rfl)))))) rfl⟩
abbrev mX9_isWeighed : gw_M := (yX9_isWeighed, cX9_isWeighed, 4, some .boolean)
set_option maxRecDepth 20000 in
theorem moX9_isWeighed : gw_mo mX9_isWeighed 0 := ⟨gw_in (List.mem_append_right _ (List.mem_append_right _ (List.mem_append_right _ (List.mem_append_right _ (List.mem_append_right _ (List.mem_append_left _ (List.mem_of_getElem? (i := 224) rfl))))))) rfl, gw_in (List.mem_append_right _ (List.mem_append_left _ (List.mem_of_getElem? (i := 12) rfl))) rfl, by decide +kernel, by decide⟩
set_option maxRecDepth 20000 in
theorem mvX9_isWeighed : gw_mv mX9_isWeighed 0 := ⟨moX9_isWeighed, gw_in (List.mem_append_right _ (List.mem_append_right _ (List.mem_append_right _ (List.mem_append_right _ (List.mem_append_right _ (List.mem_append_left _ (List.mem_of_getElem? (i := 223) rfl))))))) rfl, gw_in (List.mem_append_left _ (List.mem_of_getElem? (i := 61) rfl)) rfl⟩
abbrev mX9_joins : gw_M := (yX9_joins, cX9_joins, 4, some .boolean)
set_option maxRecDepth 20000 in
theorem moX9_joins : gw_mo mX9_joins 2 := ⟨gw_in (List.mem_append_right _ (List.mem_append_right _ (List.mem_append_right _ (List.mem_append_right _ (List.mem_append_right _ (List.mem_append_left _ (List.mem_of_getElem? (i := 84) rfl))))))) rfl, gw_in (List.mem_append_right _ (List.mem_append_left _ (List.mem_of_getElem? (i := 12) rfl))) rfl, by decide +kernel, by decide⟩
set_option maxRecDepth 20000 in
theorem mvX9_joins : gw_mv mX9_joins 2 := ⟨moX9_joins, gw_in (List.mem_append_right _ (List.mem_append_right _ (List.mem_append_right _ (List.mem_append_right _ (List.mem_append_right _ (List.mem_append_left _ (List.mem_of_getElem? (i := 83) rfl))))))) rfl, gw_in (List.mem_append_left _ (List.mem_of_getElem? (i := 41) rfl)) rfl⟩
abbrev mX9_keep : gw_M := (yX9_keep, cX9_keep, 4, none)
set_option maxRecDepth 20000 in
theorem moX9_keep : gw_mo mX9_keep 3 := ⟨gw_in (List.mem_append_right _ (List.mem_append_right _ (List.mem_append_right _ (List.mem_append_right _ (List.mem_append_right _ (List.mem_append_right _ (List.mem_of_getElem? (i := 44) rfl))))))) rfl, gw_in (List.mem_append_right _ (List.mem_append_left _ (List.mem_of_getElem? (i := 12) rfl))) rfl, by decide +kernel, by decide⟩
set_option maxRecDepth 20000 in
theorem mvX9_keep : gw_mv mX9_keep 3 := ⟨moX9_keep, gw_in (List.mem_append_right _ (List.mem_append_right _ (List.mem_append_right _ (List.mem_append_right _ (List.mem_append_right _ (List.mem_append_right _ (List.mem_of_getElem? (i := 43) rfl))))))) rfl, gw_in (List.mem_append_left _ (List.mem_of_getElem? (i := 67) rfl)) rfl⟩
abbrev mX9_lacks : gw_M := (yX9_lacks, cX9_lacks, 4, some .int)
set_option maxRecDepth 20000 in
theorem moX9_lacks : gw_mo mX9_lacks 3 := ⟨gw_in (List.mem_append_right _ (List.mem_append_right _ (List.mem_append_right _ (List.mem_append_right _ (List.mem_append_right _ (List.mem_append_right _ (List.mem_of_getElem? (i := 40) rfl))))))) rfl, gw_in (List.mem_append_right _ (List.mem_append_left _ (List.mem_of_getElem? (i := 12) rfl))) rfl, by decide +kernel, by decide⟩
set_option maxRecDepth 20000 in
theorem mvX9_lacks : gw_mv mX9_lacks 3 := ⟨moX9_lacks, gw_in (List.mem_append_right _ (List.mem_append_right _ (List.mem_append_right _ (List.mem_append_right _ (List.mem_append_right _ (List.mem_append_right _ (List.mem_of_getElem? (i := 39) rfl))))))) rfl, gw_in (List.mem_append_left _ (List.mem_of_getElem? (i := 66) rfl)) rfl⟩
abbrev mX9_laysSpills : gw_M := (yX9_laysSpills, cX9_laysSpills, 6, some .int)
set_option maxRecDepth 20000 in
theorem moX9_laysSpills : gw_mo mX9_laysSpills 0 := ⟨gw_in (List.mem_append_right _ (List.mem_append_right _ (List.mem_append_right _ (List.mem_append_right _ (List.mem_append_right _ (List.mem_append_left _ (List.mem_of_getElem? (i := 172) rfl))))))) rfl, gw_in (List.mem_append_right _ (List.mem_append_left _ (List.mem_of_getElem? (i := 12) rfl))) rfl, by decide +kernel, by decide⟩
set_option maxRecDepth 20000 in
theorem mvX9_laysSpills : gw_mv mX9_laysSpills 0 := ⟨moX9_laysSpills, gw_in (List.mem_append_right _ (List.mem_append_right _ (List.mem_append_right _ (List.mem_append_right _ (List.mem_append_right _ (List.mem_append_left _ (List.mem_of_getElem? (i := 171) rfl))))))) rfl, gw_in (List.mem_append_left _ (List.mem_of_getElem? (i := 54) rfl)) rfl⟩
abbrev mX9_leaked : gw_M := (yX9_leaked, cX9_leaked, 2, some .int)
set_option maxRecDepth 20000 in
theorem moX9_leaked : gw_mo mX9_leaked 1 := ⟨gw_in (List.mem_append_right _ (List.mem_append_right _ (List.mem_append_right _ (List.mem_append_right _ (List.mem_append_right _ (List.mem_append_left _ (List.mem_of_getElem? (i := 140) rfl))))))) rfl, gw_in (List.mem_append_right _ (List.mem_append_left _ (List.mem_of_getElem? (i := 12) rfl))) rfl, by decide +kernel, by decide⟩
set_option maxRecDepth 20000 in
theorem mvX9_leaked : gw_mv mX9_leaked 1 := ⟨moX9_leaked, gw_in (List.mem_append_right _ (List.mem_append_right _ (List.mem_append_right _ (List.mem_append_right _ (List.mem_append_right _ (List.mem_append_left _ (List.mem_of_getElem? (i := 138) rfl))))))) rfl, gw_in (List.mem_append_right _ (List.mem_append_right _ (List.mem_append_right _ (List.mem_append_right _ (List.mem_append_right _ (List.mem_append_left _ (List.mem_of_getElem? (i := 139) rfl))))))) rfl⟩
abbrev mX9_leakedOf : gw_M := (yX9_leakedOf, cX9_leakedOf, 2, some .int)
set_option maxRecDepth 20000 in
theorem moX9_leakedOf : gw_mo mX9_leakedOf 1 := ⟨gw_in (List.mem_append_right _ (List.mem_append_right _ (List.mem_append_right _ (List.mem_append_right _ (List.mem_append_right _ (List.mem_append_left _ (List.mem_of_getElem? (i := 144) rfl))))))) rfl, gw_in (List.mem_append_right _ (List.mem_append_left _ (List.mem_of_getElem? (i := 12) rfl))) rfl, by decide +kernel, by decide⟩
set_option maxRecDepth 20000 in
theorem mvX9_leakedOf : gw_mv mX9_leakedOf 1 := ⟨moX9_leakedOf, gw_in (List.mem_append_right _ (List.mem_append_right _ (List.mem_append_right _ (List.mem_append_right _ (List.mem_append_right _ (List.mem_append_left _ (List.mem_of_getElem? (i := 143) rfl))))))) rfl, gw_in (List.mem_append_left _ (List.mem_of_getElem? (i := 50) rfl)) rfl⟩
abbrev mX9_lose : gw_M := (yX9_lose, cX9_lose, 2, some .int)
set_option maxRecDepth 20000 in
theorem moX9_lose : gw_mo mX9_lose 1 := ⟨gw_in (List.mem_append_right _ (List.mem_append_right _ (List.mem_append_right _ (List.mem_append_right _ (List.mem_append_right _ (List.mem_append_right _ (List.mem_of_getElem? (i := 32) rfl))))))) rfl, gw_in (List.mem_append_right _ (List.mem_append_left _ (List.mem_of_getElem? (i := 12) rfl))) rfl, by decide +kernel, by decide⟩
set_option maxRecDepth 20000 in
theorem mvX9_lose : gw_mv mX9_lose 1 := ⟨moX9_lose, gw_in (List.mem_append_right _ (List.mem_append_right _ (List.mem_append_right _ (List.mem_append_right _ (List.mem_append_right _ (List.mem_append_right _ (List.mem_of_getElem? (i := 30) rfl))))))) rfl, gw_in (List.mem_append_right _ (List.mem_append_right _ (List.mem_append_right _ (List.mem_append_right _ (List.mem_append_right _ (List.mem_append_right _ (List.mem_of_getElem? (i := 31) rfl))))))) rfl⟩
abbrev mX9_lost : gw_M := (yX9_lost, cX9_lost, 2, some .int)
set_option maxRecDepth 20000 in
theorem moX9_lost : gw_mo mX9_lost 1 := ⟨gw_in (List.mem_append_right _ (List.mem_append_right _ (List.mem_append_right _ (List.mem_append_right _ (List.mem_append_right _ (List.mem_append_left _ (List.mem_of_getElem? (i := 148) rfl))))))) rfl, gw_in (List.mem_append_right _ (List.mem_append_left _ (List.mem_of_getElem? (i := 12) rfl))) rfl, by decide +kernel, by decide⟩
set_option maxRecDepth 20000 in
theorem mvX9_lost : gw_mv mX9_lost 1 := ⟨moX9_lost, gw_in (List.mem_append_right _ (List.mem_append_right _ (List.mem_append_right _ (List.mem_append_right _ (List.mem_append_right _ (List.mem_append_left _ (List.mem_of_getElem? (i := 146) rfl))))))) rfl, gw_in (List.mem_append_right _ (List.mem_append_right _ (List.mem_append_right _ (List.mem_append_right _ (List.mem_append_right _ (List.mem_append_left _ (List.mem_of_getElem? (i := 147) rfl))))))) rfl⟩
abbrev mX9_lostOf : gw_M := (yX9_lostOf, cX9_lostOf, 6, some .int)
set_option maxRecDepth 20000 in
theorem moX9_lostOf : gw_mo mX9_lostOf 1 := ⟨gw_in (List.mem_append_right _ (List.mem_append_right _ (List.mem_append_right _ (List.mem_append_right _ (List.mem_append_right _ (List.mem_append_left _ (List.mem_of_getElem? (i := 152) rfl))))))) rfl, gw_in (List.mem_append_right _ (List.mem_append_left _ (List.mem_of_getElem? (i := 12) rfl))) rfl, by decide +kernel, by decide⟩
set_option maxRecDepth 20000 in
theorem mvX9_lostOf : gw_mv mX9_lostOf 1 := ⟨moX9_lostOf, gw_in (List.mem_append_right _ (List.mem_append_right _ (List.mem_append_right _ (List.mem_append_right _ (List.mem_append_right _ (List.mem_append_left _ (List.mem_of_getElem? (i := 151) rfl))))))) rfl, gw_in (List.mem_append_left _ (List.mem_of_getElem? (i := 51) rfl)) rfl⟩
abbrev mX9_lowest : gw_M := (yX9_lowest, cX9_lowest, 11, some .long)
set_option maxRecDepth 20000 in
theorem moX9_lowest : gw_mo mX9_lowest 3 := ⟨gw_in (List.mem_append_right _ (List.mem_append_right _ (List.mem_append_right _ (List.mem_append_right _ (List.mem_append_right _ (List.mem_append_right _ (List.mem_of_getElem? (i := 11) rfl))))))) rfl, gw_in (List.mem_append_right _ (List.mem_append_left _ (List.mem_of_getElem? (i := 12) rfl))) rfl, by decide +kernel, by decide⟩
set_option maxRecDepth 20000 in
theorem msX9_lowest : gw_ms mX9_lowest 3 := ⟨moX9_lowest, gw_in (List.mem_append_right _ (List.mem_append_right _ (List.mem_append_right _ (List.mem_append_right _ (List.mem_append_right _ (List.mem_append_right _ (List.mem_of_getElem? (i := 10) rfl))))))) rfl⟩
abbrev mX9_market : gw_M := (yX9_market, cX9_market, 4, some .int)
set_option maxRecDepth 20000 in
theorem moX9_market : gw_mo mX9_market 3 := ⟨gw_in (List.mem_append_right _ (List.mem_append_right _ (List.mem_append_right _ (List.mem_append_right _ (List.mem_append_right _ (List.mem_append_right _ (List.mem_of_getElem? (i := 19) rfl))))))) rfl, gw_in (List.mem_append_right _ (List.mem_append_left _ (List.mem_of_getElem? (i := 12) rfl))) rfl, by decide +kernel, by decide⟩
set_option maxRecDepth 20000 in
theorem mvX9_market : gw_mv mX9_market 3 := ⟨moX9_market, gw_in (List.mem_append_right _ (List.mem_append_right _ (List.mem_append_right _ (List.mem_append_right _ (List.mem_append_right _ (List.mem_append_right _ (List.mem_of_getElem? (i := 17) rfl))))))) rfl, gw_in (List.mem_append_right _ (List.mem_append_right _ (List.mem_append_right _ (List.mem_append_right _ (List.mem_append_right _ (List.mem_append_right _ (List.mem_of_getElem? (i := 18) rfl))))))) rfl⟩
abbrev mX9_marketOf : gw_M := (yX9_marketOf, cX9_marketOf, 6, some .int)
set_option maxRecDepth 20000 in
theorem moX9_marketOf : gw_mo mX9_marketOf 3 := ⟨gw_in (List.mem_append_right _ (List.mem_append_right _ (List.mem_append_right _ (List.mem_append_right _ (List.mem_append_right _ (List.mem_append_right _ (List.mem_of_getElem? (i := 23) rfl))))))) rfl, gw_in (List.mem_append_right _ (List.mem_append_left _ (List.mem_of_getElem? (i := 12) rfl))) rfl, by decide +kernel, by decide⟩
set_option maxRecDepth 20000 in
theorem mvX9_marketOf : gw_mv mX9_marketOf 3 := ⟨moX9_marketOf, gw_in (List.mem_append_right _ (List.mem_append_right _ (List.mem_append_right _ (List.mem_append_right _ (List.mem_append_right _ (List.mem_append_right _ (List.mem_of_getElem? (i := 22) rfl))))))) rfl, gw_in (List.mem_append_left _ (List.mem_of_getElem? (i := 65) rfl)) rfl⟩
abbrev mX9_meets : gw_M := (yX9_meets, cX9_meets, 2, some .int)
set_option maxRecDepth 20000 in
theorem moX9_meets : gw_mo mX9_meets 1 := ⟨gw_in (List.mem_append_right _ (List.mem_append_right _ (List.mem_append_right _ (List.mem_append_right _ (List.mem_append_right _ (List.mem_append_left _ (List.mem_of_getElem? (i := 35) rfl))))))) rfl, gw_in (List.mem_append_right _ (List.mem_append_left _ (List.mem_of_getElem? (i := 12) rfl))) rfl, by decide +kernel, by decide⟩
set_option maxRecDepth 20000 in
theorem mvX9_meets : gw_mv mX9_meets 1 := ⟨moX9_meets, gw_in (List.mem_append_right _ (List.mem_append_right _ (List.mem_append_right _ (List.mem_append_right _ (List.mem_append_right _ (List.mem_append_left _ (List.mem_of_getElem? (i := 34) rfl))))))) rfl, gw_in (List.mem_append_left _ (List.mem_of_getElem? (i := 30) rfl)) rfl⟩
abbrev mX9_most : gw_M := (yX9_most, cX9_most, 3, some .int)
set_option maxRecDepth 20000 in
theorem moX9_most : gw_mo mX9_most 2 := ⟨gw_in (List.mem_append_right _ (List.mem_append_right _ (List.mem_append_right _ (List.mem_append_right _ (List.mem_append_right _ (List.mem_append_left _ (List.mem_of_getElem? (i := 200) rfl))))))) rfl, gw_in (List.mem_append_right _ (List.mem_append_left _ (List.mem_of_getElem? (i := 12) rfl))) rfl, by decide +kernel, by decide⟩
set_option maxRecDepth 20000 in
theorem mvX9_most : gw_mv mX9_most 2 := ⟨moX9_most, gw_in (List.mem_append_right _ (List.mem_append_right _ (List.mem_append_right _ (List.mem_append_right _ (List.mem_append_right _ (List.mem_append_left _ (List.mem_of_getElem? (i := 198) rfl))))))) rfl, gw_in (List.mem_append_right _ (List.mem_append_right _ (List.mem_append_right _ (List.mem_append_right _ (List.mem_append_right _ (List.mem_append_left _ (List.mem_of_getElem? (i := 199) rfl))))))) rfl⟩
abbrev mX9_mostOf : gw_M := (yX9_mostOf, cX9_mostOf, 6, some .int)
set_option maxRecDepth 20000 in
theorem moX9_mostOf : gw_mo mX9_mostOf 2 := ⟨gw_in (List.mem_append_right _ (List.mem_append_right _ (List.mem_append_right _ (List.mem_append_right _ (List.mem_append_right _ (List.mem_append_left _ (List.mem_of_getElem? (i := 204) rfl))))))) rfl, gw_in (List.mem_append_right _ (List.mem_append_left _ (List.mem_of_getElem? (i := 12) rfl))) rfl, by decide +kernel, by decide⟩
set_option maxRecDepth 20000 in
theorem mvX9_mostOf : gw_mv mX9_mostOf 2 := ⟨moX9_mostOf, gw_in (List.mem_append_right _ (List.mem_append_right _ (List.mem_append_right _ (List.mem_append_right _ (List.mem_append_right _ (List.mem_append_left _ (List.mem_of_getElem? (i := 203) rfl))))))) rfl, gw_in (List.mem_append_left _ (List.mem_of_getElem? (i := 59) rfl)) rfl⟩
abbrev mX9_no : gw_M := (yX9_no, cX9_no, 1, some .long)
set_option maxRecDepth 20000 in
theorem moX9_no : gw_mo mX9_no 1 := ⟨gw_in (List.mem_append_right _ (List.mem_append_right _ (List.mem_append_right _ (List.mem_append_right _ (List.mem_append_right _ (List.mem_append_right _ (List.mem_of_getElem? (i := 14) rfl))))))) rfl, gw_in (List.mem_append_right _ (List.mem_append_left _ (List.mem_of_getElem? (i := 12) rfl))) rfl, by decide +kernel, by decide⟩
set_option maxRecDepth 20000 in
theorem msX9_no : gw_ms mX9_no 1 := ⟨moX9_no, gw_in (List.mem_append_right _ (List.mem_append_right _ (List.mem_append_right _ (List.mem_append_right _ (List.mem_append_right _ (List.mem_append_right _ (List.mem_of_getElem? (i := 13) rfl))))))) rfl⟩
abbrev mX9_note : gw_M := (yX9_note, cX9_note, 2, some .int)
set_option maxRecDepth 20000 in
theorem moX9_note : gw_mo mX9_note 1 := ⟨gw_in (List.mem_append_right _ (List.mem_append_right _ (List.mem_append_right _ (List.mem_append_right _ (List.mem_append_left _ (List.mem_of_getElem? (i := 238) rfl)))))) rfl, gw_in (List.mem_append_right _ (List.mem_append_left _ (List.mem_of_getElem? (i := 12) rfl))) rfl, by decide +kernel, by decide⟩
set_option maxRecDepth 20000 in
theorem mvX9_note : gw_mv mX9_note 1 := ⟨moX9_note, gw_in (List.mem_append_right _ (List.mem_append_right _ (List.mem_append_right _ (List.mem_append_right _ (List.mem_append_left _ (List.mem_of_getElem? (i := 236) rfl)))))) rfl, gw_in (List.mem_append_right _ (List.mem_append_right _ (List.mem_append_right _ (List.mem_append_right _ (List.mem_append_left _ (List.mem_of_getElem? (i := 237) rfl)))))) rfl⟩
abbrev mX9_noteOf : gw_M := (yX9_noteOf, cX9_noteOf, 2, some .int)
set_option maxRecDepth 20000 in
theorem moX9_noteOf : gw_mo mX9_noteOf 1 := ⟨gw_in (List.mem_append_right _ (List.mem_append_right _ (List.mem_append_right _ (List.mem_append_right _ (List.mem_append_right _ (List.mem_append_left _ (List.mem_of_getElem? (i := 5) rfl))))))) rfl, gw_in (List.mem_append_right _ (List.mem_append_left _ (List.mem_of_getElem? (i := 12) rfl))) rfl, by decide +kernel, by decide⟩
set_option maxRecDepth 20000 in
theorem mvX9_noteOf : gw_mv mX9_noteOf 1 := ⟨moX9_noteOf, gw_in (List.mem_append_right _ (List.mem_append_right _ (List.mem_append_right _ (List.mem_append_right _ (List.mem_append_right _ (List.mem_append_left _ (List.mem_of_getElem? (i := 4) rfl))))))) rfl, gw_in (List.mem_append_left _ (List.mem_of_getElem? (i := 29) rfl)) rfl⟩
abbrev mX9_ofCorks : gw_M := (yX9_ofCorks, cX9_ofCorks, 3, some .int)
set_option maxRecDepth 20000 in
theorem moX9_ofCorks : gw_mo mX9_ofCorks 2 := ⟨gw_in (List.mem_append_right _ (List.mem_append_right _ (List.mem_append_right _ (List.mem_append_right _ (List.mem_append_right _ (List.mem_append_left _ (List.mem_of_getElem? (i := 196) rfl))))))) rfl, gw_in (List.mem_append_right _ (List.mem_append_left _ (List.mem_of_getElem? (i := 12) rfl))) rfl, by decide +kernel, by decide⟩
set_option maxRecDepth 20000 in
theorem mvX9_ofCorks : gw_mv mX9_ofCorks 2 := ⟨moX9_ofCorks, gw_in (List.mem_append_right _ (List.mem_append_right _ (List.mem_append_right _ (List.mem_append_right _ (List.mem_append_right _ (List.mem_append_left _ (List.mem_of_getElem? (i := 195) rfl))))))) rfl, gw_in (List.mem_append_left _ (List.mem_of_getElem? (i := 58) rfl)) rfl⟩
abbrev mX9_put : gw_M := (yX9_put, cX9_put, 6, some .int)
set_option maxRecDepth 20000 in
theorem moX9_put : gw_mo mX9_put 4 := ⟨gw_in (List.mem_append_right _ (List.mem_append_right _ (List.mem_append_right _ (List.mem_append_right _ (List.mem_append_right _ (List.mem_append_right _ (List.mem_of_getElem? (i := 36) rfl))))))) rfl, gw_in (List.mem_append_right _ (List.mem_append_left _ (List.mem_of_getElem? (i := 12) rfl))) rfl, by decide +kernel, by decide⟩
set_option maxRecDepth 20000 in
theorem mvX9_put : gw_mv mX9_put 4 := ⟨moX9_put, gw_in (List.mem_append_right _ (List.mem_append_right _ (List.mem_append_right _ (List.mem_append_right _ (List.mem_append_right _ (List.mem_append_right _ (List.mem_of_getElem? (i := 34) rfl))))))) rfl, gw_in (List.mem_append_right _ (List.mem_append_right _ (List.mem_append_right _ (List.mem_append_right _ (List.mem_append_right _ (List.mem_append_right _ (List.mem_of_getElem? (i := 35) rfl))))))) rfl⟩
abbrev mX9_read : gw_M := (yX9_read, cX9_read, 3, some .int)
set_option maxRecDepth 20000 in
theorem moX9_read : gw_mo mX9_read 1 := ⟨gw_in (List.mem_append_right _ (List.mem_append_right _ (List.mem_append_right _ (List.mem_append_right _ (List.mem_append_right _ (List.mem_append_left _ (List.mem_of_getElem? (i := 28) rfl))))))) rfl, gw_in (List.mem_append_right _ (List.mem_append_left _ (List.mem_of_getElem? (i := 12) rfl))) rfl, by decide +kernel, by decide⟩
set_option maxRecDepth 20000 in
theorem mvX9_read : gw_mv mX9_read 1 := ⟨moX9_read, gw_in (List.mem_append_right _ (List.mem_append_right _ (List.mem_append_right _ (List.mem_append_right _ (List.mem_append_right _ (List.mem_append_left _ (List.mem_of_getElem? (i := 26) rfl))))))) rfl, gw_in (List.mem_append_right _ (List.mem_append_right _ (List.mem_append_right _ (List.mem_append_right _ (List.mem_append_right _ (List.mem_append_left _ (List.mem_of_getElem? (i := 27) rfl))))))) rfl⟩
abbrev mX9_reads : gw_M := (yX9_reads, cX9_reads, 2, none)
set_option maxRecDepth 20000 in
theorem moX9_reads : gw_mo mX9_reads 0 := ⟨gw_in (List.mem_append_right _ (List.mem_append_right _ (List.mem_append_right _ (List.mem_append_right _ (List.mem_append_left _ (List.mem_of_getElem? (i := 230) rfl)))))) rfl, gw_in (List.mem_append_right _ (List.mem_append_left _ (List.mem_of_getElem? (i := 12) rfl))) rfl, by decide +kernel, by decide⟩
set_option maxRecDepth 20000 in
theorem mvX9_reads : gw_mv mX9_reads 0 := ⟨moX9_reads, gw_in (List.mem_append_right _ (List.mem_append_right _ (List.mem_append_right _ (List.mem_append_right _ (List.mem_append_left _ (List.mem_of_getElem? (i := 229) rfl)))))) rfl, gw_in (List.mem_append_left _ (List.mem_of_getElem? (i := 27) rfl)) rfl⟩
abbrev mX9_readsBottle : gw_M := (yX9_readsBottle, cX9_readsBottle, 8, some .int)
set_option maxRecDepth 20000 in
theorem moX9_readsBottle : gw_mo mX9_readsBottle 2 := ⟨gw_in (List.mem_append_right _ (List.mem_append_right _ (List.mem_append_right _ (List.mem_append_right _ (List.mem_append_left _ (List.mem_of_getElem? (i := 210) rfl)))))) rfl, gw_in (List.mem_append_right _ (List.mem_append_left _ (List.mem_of_getElem? (i := 12) rfl))) rfl, by decide +kernel, by decide⟩
set_option maxRecDepth 20000 in
theorem mvX9_readsBottle : gw_mv mX9_readsBottle 2 := ⟨moX9_readsBottle, gw_in (List.mem_append_right _ (List.mem_append_right _ (List.mem_append_right _ (List.mem_append_right _ (List.mem_append_left _ (List.mem_of_getElem? (i := 209) rfl)))))) rfl, gw_in (List.mem_append_left _ (List.mem_of_getElem? (i := 23) rfl)) rfl⟩
abbrev mX9_readsBottles : gw_M := (yX9_readsBottles, cX9_readsBottles, 4, some .int)
set_option maxRecDepth 20000 in
theorem moX9_readsBottles : gw_mo mX9_readsBottles 0 := ⟨gw_in (List.mem_append_right _ (List.mem_append_right _ (List.mem_append_right _ (List.mem_append_right _ (List.mem_append_left _ (List.mem_of_getElem? (i := 206) rfl)))))) rfl, gw_in (List.mem_append_right _ (List.mem_append_left _ (List.mem_of_getElem? (i := 12) rfl))) rfl, by decide +kernel, by decide⟩
set_option maxRecDepth 20000 in
theorem mvX9_readsBottles : gw_mv mX9_readsBottles 0 := ⟨moX9_readsBottles, gw_in (List.mem_append_right _ (List.mem_append_right _ (List.mem_append_right _ (List.mem_append_right _ (List.mem_append_left _ (List.mem_of_getElem? (i := 205) rfl)))))) rfl, gw_in (List.mem_append_left _ (List.mem_of_getElem? (i := 22) rfl)) rfl⟩
abbrev mX9_readsSong : gw_M := (yX9_readsSong, cX9_readsSong, 3, some .int)
set_option maxRecDepth 20000 in
theorem moX9_readsSong : gw_mo mX9_readsSong 0 := ⟨gw_in (List.mem_append_right _ (List.mem_append_right _ (List.mem_append_right _ (List.mem_append_right _ (List.mem_append_left _ (List.mem_of_getElem? (i := 218) rfl)))))) rfl, gw_in (List.mem_append_right _ (List.mem_append_left _ (List.mem_of_getElem? (i := 12) rfl))) rfl, by decide +kernel, by decide⟩
set_option maxRecDepth 20000 in
theorem mvX9_readsSong : gw_mv mX9_readsSong 0 := ⟨moX9_readsSong, gw_in (List.mem_append_right _ (List.mem_append_right _ (List.mem_append_right _ (List.mem_append_right _ (List.mem_append_left _ (List.mem_of_getElem? (i := 217) rfl)))))) rfl, gw_in (List.mem_append_left _ (List.mem_of_getElem? (i := 25) rfl)) rfl⟩
abbrev mX9_runs : gw_M := (yX9_runs, cX9_runs, 3, none)
set_option maxRecDepth 20000 in
theorem moX9_runs : gw_mo mX9_runs 1 := ⟨gw_in (List.mem_append_right _ (List.mem_append_right _ (List.mem_append_right _ (List.mem_append_right _ (List.mem_append_right _ (List.mem_append_left _ (List.mem_of_getElem? (i := 56) rfl))))))) rfl, gw_in (List.mem_append_right _ (List.mem_append_left _ (List.mem_of_getElem? (i := 12) rfl))) rfl, by decide +kernel, by decide⟩
set_option maxRecDepth 20000 in
theorem mvX9_runs : gw_mv mX9_runs 1 := ⟨moX9_runs, gw_in (List.mem_append_right _ (List.mem_append_right _ (List.mem_append_right _ (List.mem_append_right _ (List.mem_append_right _ (List.mem_append_left _ (List.mem_of_getElem? (i := 55) rfl))))))) rfl, gw_in (List.mem_append_left _ (List.mem_of_getElem? (i := 34) rfl)) rfl⟩
abbrev mX9_runsTold : gw_M := (yX9_runsTold, cX9_runsTold, 2, none)
set_option maxRecDepth 20000 in
theorem moX9_runsTold : gw_mo mX9_runsTold 1 := ⟨gw_in (List.mem_append_right _ (List.mem_append_right _ (List.mem_append_right _ (List.mem_append_right _ (List.mem_append_right _ (List.mem_append_left _ (List.mem_of_getElem? (i := 48) rfl))))))) rfl, gw_in (List.mem_append_right _ (List.mem_append_left _ (List.mem_of_getElem? (i := 12) rfl))) rfl, by decide +kernel, by decide⟩
set_option maxRecDepth 20000 in
theorem mvX9_runsTold : gw_mv mX9_runsTold 1 := ⟨moX9_runsTold, gw_in (List.mem_append_right _ (List.mem_append_right _ (List.mem_append_right _ (List.mem_append_right _ (List.mem_append_right _ (List.mem_append_left _ (List.mem_of_getElem? (i := 47) rfl))))))) rfl, gw_in (List.mem_append_left _ (List.mem_of_getElem? (i := 32) rfl)) rfl⟩
abbrev mX9_sells : gw_M := (yX9_sells, cX9_sells, 4, some .boolean)
set_option maxRecDepth 20000 in
theorem moX9_sells : gw_mo mX9_sells 2 := ⟨gw_in (List.mem_append_right _ (List.mem_append_right _ (List.mem_append_right _ (List.mem_append_right _ (List.mem_append_right _ (List.mem_append_left _ (List.mem_of_getElem? (i := 80) rfl))))))) rfl, gw_in (List.mem_append_right _ (List.mem_append_left _ (List.mem_of_getElem? (i := 12) rfl))) rfl, by decide +kernel, by decide⟩
set_option maxRecDepth 20000 in
theorem mvX9_sells : gw_mv mX9_sells 2 := ⟨moX9_sells, gw_in (List.mem_append_right _ (List.mem_append_right _ (List.mem_append_right _ (List.mem_append_right _ (List.mem_append_right _ (List.mem_append_left _ (List.mem_of_getElem? (i := 79) rfl))))))) rfl, gw_in (List.mem_append_left _ (List.mem_of_getElem? (i := 40) rfl)) rfl⟩
abbrev mX9_sheet : gw_M := (yX9_sheet, cX9_sheet, 5, some .int)
set_option maxRecDepth 20000 in
theorem moX9_sheet : gw_mo mX9_sheet 3 := ⟨gw_in (List.mem_append_right _ (List.mem_append_right _ (List.mem_append_right _ (List.mem_append_right _ (List.mem_append_right _ (List.mem_append_right _ (List.mem_of_getElem? (i := 28) rfl))))))) rfl, gw_in (List.mem_append_right _ (List.mem_append_left _ (List.mem_of_getElem? (i := 12) rfl))) rfl, by decide +kernel, by decide⟩
set_option maxRecDepth 20000 in
theorem mvX9_sheet : gw_mv mX9_sheet 3 := ⟨moX9_sheet, gw_in (List.mem_append_right _ (List.mem_append_right _ (List.mem_append_right _ (List.mem_append_right _ (List.mem_append_right _ (List.mem_append_right _ (List.mem_of_getElem? (i := 26) rfl))))))) rfl, gw_in (List.mem_append_right _ (List.mem_append_right _ (List.mem_append_right _ (List.mem_append_right _ (List.mem_append_right _ (List.mem_append_right _ (List.mem_of_getElem? (i := 27) rfl))))))) rfl⟩
abbrev mX9_sing : gw_M := (yX9_sing, cX9_sing, 3, some .int)
set_option maxRecDepth 20000 in
theorem moX9_sing : gw_mo mX9_sing 2 := ⟨gw_in (List.mem_append_right _ (List.mem_append_right _ (List.mem_append_right _ (List.mem_append_right _ (List.mem_append_right _ (List.mem_append_left _ (List.mem_of_getElem? (i := 164) rfl))))))) rfl, gw_in (List.mem_append_right _ (List.mem_append_left _ (List.mem_of_getElem? (i := 12) rfl))) rfl, by decide +kernel, by decide⟩
set_option maxRecDepth 20000 in
theorem mvX9_sing : gw_mv mX9_sing 2 := ⟨moX9_sing, gw_in (List.mem_append_right _ (List.mem_append_right _ (List.mem_append_right _ (List.mem_append_right _ (List.mem_append_right _ (List.mem_append_left _ (List.mem_of_getElem? (i := 162) rfl))))))) rfl, gw_in (List.mem_append_right _ (List.mem_append_right _ (List.mem_append_right _ (List.mem_append_right _ (List.mem_append_right _ (List.mem_append_left _ (List.mem_of_getElem? (i := 163) rfl))))))) rfl⟩
abbrev mX9_singOf : gw_M := (yX9_singOf, cX9_singOf, 9, some .int)
set_option maxRecDepth 20000 in
theorem moX9_singOf : gw_mo mX9_singOf 2 := ⟨gw_in (List.mem_append_right _ (List.mem_append_right _ (List.mem_append_right _ (List.mem_append_right _ (List.mem_append_right _ (List.mem_append_left _ (List.mem_of_getElem? (i := 168) rfl))))))) rfl, gw_in (List.mem_append_right _ (List.mem_append_left _ (List.mem_of_getElem? (i := 12) rfl))) rfl, by decide +kernel, by decide⟩
set_option maxRecDepth 20000 in
theorem mvX9_singOf : gw_mv mX9_singOf 2 := ⟨moX9_singOf, gw_in (List.mem_append_right _ (List.mem_append_right _ (List.mem_append_right _ (List.mem_append_right _ (List.mem_append_right _ (List.mem_append_left _ (List.mem_of_getElem? (i := 167) rfl))))))) rfl, gw_in (List.mem_append_left _ (List.mem_of_getElem? (i := 53) rfl)) rfl⟩
abbrev mX9_sings : gw_M := (yX9_sings, cX9_sings, 6, some .boolean)
set_option maxRecDepth 20000 in
theorem moX9_sings : gw_mo mX9_sings 5 := ⟨gw_in (List.mem_append_right _ (List.mem_append_right _ (List.mem_append_right _ (List.mem_append_right _ (List.mem_append_right _ (List.mem_append_left _ (List.mem_of_getElem? (i := 192) rfl))))))) rfl, gw_in (List.mem_append_right _ (List.mem_append_left _ (List.mem_of_getElem? (i := 12) rfl))) rfl, by decide +kernel, by decide⟩
set_option maxRecDepth 20000 in
theorem mvX9_sings : gw_mv mX9_sings 5 := ⟨moX9_sings, gw_in (List.mem_append_right _ (List.mem_append_right _ (List.mem_append_right _ (List.mem_append_right _ (List.mem_append_right _ (List.mem_append_left _ (List.mem_of_getElem? (i := 191) rfl))))))) rfl, gw_in (List.mem_append_left _ (List.mem_of_getElem? (i := 57) rfl)) rfl⟩
abbrev mX9_spill : gw_M := (yX9_spill, cX9_spill, 4, some .int)
set_option maxRecDepth 20000 in
theorem moX9_spill : gw_mo mX9_spill 2 := ⟨gw_in (List.mem_append_right _ (List.mem_append_right _ (List.mem_append_right _ (List.mem_append_right _ (List.mem_append_right _ (List.mem_append_left _ (List.mem_of_getElem? (i := 180) rfl))))))) rfl, gw_in (List.mem_append_right _ (List.mem_append_left _ (List.mem_of_getElem? (i := 12) rfl))) rfl, by decide +kernel, by decide⟩
set_option maxRecDepth 20000 in
theorem mvX9_spill : gw_mv mX9_spill 2 := ⟨moX9_spill, gw_in (List.mem_append_right _ (List.mem_append_right _ (List.mem_append_right _ (List.mem_append_right _ (List.mem_append_right _ (List.mem_append_left _ (List.mem_of_getElem? (i := 179) rfl))))))) rfl, gw_in (List.mem_append_left _ (List.mem_of_getElem? (i := 55) rfl)) rfl⟩
abbrev mX9_spilled : gw_M := (yX9_spilled, cX9_spilled, 3, some .int)
set_option maxRecDepth 20000 in
theorem moX9_spilled : gw_mo mX9_spilled 2 := ⟨gw_in (List.mem_append_right _ (List.mem_append_right _ (List.mem_append_right _ (List.mem_append_right _ (List.mem_append_right _ (List.mem_append_left _ (List.mem_of_getElem? (i := 132) rfl))))))) rfl, gw_in (List.mem_append_right _ (List.mem_append_left _ (List.mem_of_getElem? (i := 12) rfl))) rfl, by decide +kernel, by decide⟩
set_option maxRecDepth 20000 in
theorem mvX9_spilled : gw_mv mX9_spilled 2 := ⟨moX9_spilled, gw_in (List.mem_append_right _ (List.mem_append_right _ (List.mem_append_right _ (List.mem_append_right _ (List.mem_append_right _ (List.mem_append_left _ (List.mem_of_getElem? (i := 130) rfl))))))) rfl, gw_in (List.mem_append_right _ (List.mem_append_right _ (List.mem_append_right _ (List.mem_append_right _ (List.mem_append_right _ (List.mem_append_left _ (List.mem_of_getElem? (i := 131) rfl))))))) rfl⟩
abbrev mX9_spilledOf : gw_M := (yX9_spilledOf, cX9_spilledOf, 3, some .int)
set_option maxRecDepth 20000 in
theorem moX9_spilledOf : gw_mo mX9_spilledOf 2 := ⟨gw_in (List.mem_append_right _ (List.mem_append_right _ (List.mem_append_right _ (List.mem_append_right _ (List.mem_append_right _ (List.mem_append_left _ (List.mem_of_getElem? (i := 136) rfl))))))) rfl, gw_in (List.mem_append_right _ (List.mem_append_left _ (List.mem_of_getElem? (i := 12) rfl))) rfl, by decide +kernel, by decide⟩
set_option maxRecDepth 20000 in
theorem mvX9_spilledOf : gw_mv mX9_spilledOf 2 := ⟨moX9_spilledOf, gw_in (List.mem_append_right _ (List.mem_append_right _ (List.mem_append_right _ (List.mem_append_right _ (List.mem_append_right _ (List.mem_append_left _ (List.mem_of_getElem? (i := 135) rfl))))))) rfl, gw_in (List.mem_append_left _ (List.mem_of_getElem? (i := 49) rfl)) rfl⟩
abbrev mX9_sumOf : gw_M := (yX9_sumOf, cX9_sumOf, 4, some .int)
set_option maxRecDepth 20000 in
theorem moX9_sumOf : gw_mo mX9_sumOf 1 := ⟨gw_in (List.mem_append_right _ (List.mem_append_right _ (List.mem_append_right _ (List.mem_append_right _ (List.mem_append_right _ (List.mem_append_right _ (List.mem_of_getElem? (i := 65) rfl))))))) rfl, gw_in (List.mem_append_right _ (List.mem_append_left _ (List.mem_of_getElem? (i := 12) rfl))) rfl, by decide +kernel, by decide⟩
set_option maxRecDepth 20000 in
theorem mvX9_sumOf : gw_mv mX9_sumOf 1 := ⟨moX9_sumOf, gw_in (List.mem_append_right _ (List.mem_append_right _ (List.mem_append_right _ (List.mem_append_right _ (List.mem_append_right _ (List.mem_append_right _ (List.mem_of_getElem? (i := 64) rfl))))))) rfl, gw_in (List.mem_append_left _ (List.mem_of_getElem? (i := 68) rfl)) rfl⟩
abbrev mX9_swapped : gw_M := (yX9_swapped, cX9_swapped, 2, some .int)
set_option maxRecDepth 20000 in
theorem moX9_swapped : gw_mo mX9_swapped 1 := ⟨gw_in (List.mem_append_right _ (List.mem_append_right _ (List.mem_append_right _ (List.mem_append_right _ (List.mem_append_right _ (List.mem_append_left _ (List.mem_of_getElem? (i := 228) rfl))))))) rfl, gw_in (List.mem_append_right _ (List.mem_append_left _ (List.mem_of_getElem? (i := 12) rfl))) rfl, by decide +kernel, by decide⟩
set_option maxRecDepth 20000 in
theorem mvX9_swapped : gw_mv mX9_swapped 1 := ⟨moX9_swapped, gw_in (List.mem_append_right _ (List.mem_append_right _ (List.mem_append_right _ (List.mem_append_right _ (List.mem_append_right _ (List.mem_append_left _ (List.mem_of_getElem? (i := 226) rfl))))))) rfl, gw_in (List.mem_append_right _ (List.mem_append_right _ (List.mem_append_right _ (List.mem_append_right _ (List.mem_append_right _ (List.mem_append_left _ (List.mem_of_getElem? (i := 227) rfl))))))) rfl⟩
abbrev mX9_swappedOf : gw_M := (yX9_swappedOf, cX9_swappedOf, 7, some .int)
set_option maxRecDepth 20000 in
theorem moX9_swappedOf : gw_mo mX9_swappedOf 1 := ⟨gw_in (List.mem_append_right _ (List.mem_append_right _ (List.mem_append_right _ (List.mem_append_right _ (List.mem_append_right _ (List.mem_append_left _ (List.mem_of_getElem? (i := 232) rfl))))))) rfl, gw_in (List.mem_append_right _ (List.mem_append_left _ (List.mem_of_getElem? (i := 12) rfl))) rfl, by decide +kernel, by decide⟩
set_option maxRecDepth 20000 in
theorem mvX9_swappedOf : gw_mv mX9_swappedOf 1 := ⟨moX9_swappedOf, gw_in (List.mem_append_right _ (List.mem_append_right _ (List.mem_append_right _ (List.mem_append_right _ (List.mem_append_right _ (List.mem_append_left _ (List.mem_of_getElem? (i := 231) rfl))))))) rfl, gw_in (List.mem_append_left _ (List.mem_of_getElem? (i := 62) rfl)) rfl⟩
abbrev mX9_type : gw_M := (yX9_type, cX9_type, 3, some .int)
set_option maxRecDepth 20000 in
theorem moX9_type : gw_mo mX9_type 2 := ⟨gw_in (List.mem_append_right _ (List.mem_append_right _ (List.mem_append_right _ (List.mem_append_right _ (List.mem_append_left _ (List.mem_of_getElem? (i := 180) rfl)))))) rfl, gw_in (List.mem_append_right _ (List.mem_append_left _ (List.mem_of_getElem? (i := 12) rfl))) rfl, by decide +kernel, by decide⟩
set_option maxRecDepth 20000 in
theorem mvX9_type : gw_mv mX9_type 2 := ⟨moX9_type, gw_in (List.mem_append_right _ (List.mem_append_right _ (List.mem_append_right _ (List.mem_append_right _ (List.mem_append_left _ (List.mem_of_getElem? (i := 178) rfl)))))) rfl, gw_in (List.mem_append_right _ (List.mem_append_right _ (List.mem_append_right _ (List.mem_append_right _ (List.mem_append_left _ (List.mem_of_getElem? (i := 179) rfl)))))) rfl⟩
abbrev mX9_undo : gw_M := (yX9_undo, cX9_undo, 2, some .int)
set_option maxRecDepth 20000 in
theorem moX9_undo : gw_mo mX9_undo 1 := ⟨gw_in (List.mem_append_right _ (List.mem_append_right _ (List.mem_append_right _ (List.mem_append_right _ (List.mem_append_left _ (List.mem_of_getElem? (i := 194) rfl)))))) rfl, gw_in (List.mem_append_right _ (List.mem_append_left _ (List.mem_of_getElem? (i := 12) rfl))) rfl, by decide +kernel, by decide⟩
set_option maxRecDepth 20000 in
theorem mvX9_undo : gw_mv mX9_undo 1 := ⟨moX9_undo, gw_in (List.mem_append_right _ (List.mem_append_right _ (List.mem_append_right _ (List.mem_append_right _ (List.mem_append_left _ (List.mem_of_getElem? (i := 192) rfl)))))) rfl, gw_in (List.mem_append_right _ (List.mem_append_right _ (List.mem_append_right _ (List.mem_append_right _ (List.mem_append_left _ (List.mem_of_getElem? (i := 193) rfl)))))) rfl⟩
abbrev mX9_weigh : gw_M := (yX9_weigh, cX9_weigh, 2, some .int)
set_option maxRecDepth 20000 in
theorem moX9_weigh : gw_mo mX9_weigh 1 := ⟨gw_in (List.mem_append_right _ (List.mem_append_right _ (List.mem_append_right _ (List.mem_append_right _ (List.mem_append_right _ (List.mem_append_left _ (List.mem_of_getElem? (i := 236) rfl))))))) rfl, gw_in (List.mem_append_right _ (List.mem_append_left _ (List.mem_of_getElem? (i := 12) rfl))) rfl, by decide +kernel, by decide⟩
set_option maxRecDepth 20000 in
theorem mvX9_weigh : gw_mv mX9_weigh 1 := ⟨moX9_weigh, gw_in (List.mem_append_right _ (List.mem_append_right _ (List.mem_append_right _ (List.mem_append_right _ (List.mem_append_right _ (List.mem_append_left _ (List.mem_of_getElem? (i := 234) rfl))))))) rfl, gw_in (List.mem_append_right _ (List.mem_append_right _ (List.mem_append_right _ (List.mem_append_right _ (List.mem_append_right _ (List.mem_append_left _ (List.mem_of_getElem? (i := 235) rfl))))))) rfl⟩
abbrev mX9_weighOf : gw_M := (yX9_weighOf, cX9_weighOf, 10, some .int)
set_option maxRecDepth 20000 in
theorem moX9_weighOf : gw_mo mX9_weighOf 1 := ⟨gw_in (List.mem_append_right _ (List.mem_append_right _ (List.mem_append_right _ (List.mem_append_right _ (List.mem_append_right _ (List.mem_append_right _ (List.mem_of_getElem? (i := 0) rfl))))))) rfl, gw_in (List.mem_append_right _ (List.mem_append_left _ (List.mem_of_getElem? (i := 12) rfl))) rfl, by decide +kernel, by decide⟩
set_option maxRecDepth 20000 in
theorem mvX9_weighOf : gw_mv mX9_weighOf 1 := ⟨moX9_weighOf, gw_in (List.mem_append_right _ (List.mem_append_right _ (List.mem_append_right _ (List.mem_append_right _ (List.mem_append_right _ (List.mem_append_left _ (List.mem_of_getElem? (i := 239) rfl))))))) rfl, gw_in (List.mem_append_left _ (List.mem_of_getElem? (i := 63) rfl)) rfl⟩
abbrev mX9_weighed : gw_M := (yX9_weighed, cX9_weighed, 4, some .int)
set_option maxRecDepth 20000 in
theorem moX9_weighed : gw_mo mX9_weighed 3 := ⟨gw_in (List.mem_append_right _ (List.mem_append_right _ (List.mem_append_right _ (List.mem_append_right _ (List.mem_append_right _ (List.mem_append_left _ (List.mem_of_getElem? (i := 208) rfl))))))) rfl, gw_in (List.mem_append_right _ (List.mem_append_left _ (List.mem_of_getElem? (i := 12) rfl))) rfl, by decide +kernel, by decide⟩
set_option maxRecDepth 20000 in
theorem mvX9_weighed : gw_mv mX9_weighed 3 := ⟨moX9_weighed, gw_in (List.mem_append_right _ (List.mem_append_right _ (List.mem_append_right _ (List.mem_append_right _ (List.mem_append_right _ (List.mem_append_left _ (List.mem_of_getElem? (i := 206) rfl))))))) rfl, gw_in (List.mem_append_right _ (List.mem_append_right _ (List.mem_append_right _ (List.mem_append_right _ (List.mem_append_right _ (List.mem_append_left _ (List.mem_of_getElem? (i := 207) rfl))))))) rfl⟩
abbrev mX9_who : gw_M := (yX9_who, cX9_who, 3, some .int)
set_option maxRecDepth 20000 in
theorem moX9_who : gw_mo mX9_who 2 := ⟨gw_in (List.mem_append_right _ (List.mem_append_right _ (List.mem_append_right _ (List.mem_append_right _ (List.mem_append_right _ (List.mem_append_left _ (List.mem_of_getElem? (i := 100) rfl))))))) rfl, gw_in (List.mem_append_right _ (List.mem_append_left _ (List.mem_of_getElem? (i := 12) rfl))) rfl, by decide +kernel, by decide⟩
set_option maxRecDepth 20000 in
theorem mvX9_who : gw_mv mX9_who 2 := ⟨moX9_who, gw_in (List.mem_append_right _ (List.mem_append_right _ (List.mem_append_right _ (List.mem_append_right _ (List.mem_append_right _ (List.mem_append_left _ (List.mem_of_getElem? (i := 98) rfl))))))) rfl, gw_in (List.mem_append_right _ (List.mem_append_right _ (List.mem_append_right _ (List.mem_append_right _ (List.mem_append_right _ (List.mem_append_left _ (List.mem_of_getElem? (i := 99) rfl))))))) rfl⟩
abbrev mX9_whoOf : gw_M := (yX9_whoOf, cX9_whoOf, 3, some .int)
set_option maxRecDepth 20000 in
theorem moX9_whoOf : gw_mo mX9_whoOf 2 := ⟨gw_in (List.mem_append_right _ (List.mem_append_right _ (List.mem_append_right _ (List.mem_append_right _ (List.mem_append_right _ (List.mem_append_left _ (List.mem_of_getElem? (i := 104) rfl))))))) rfl, gw_in (List.mem_append_right _ (List.mem_append_left _ (List.mem_of_getElem? (i := 12) rfl))) rfl, by decide +kernel, by decide⟩
set_option maxRecDepth 20000 in
theorem mvX9_whoOf : gw_mv mX9_whoOf 2 := ⟨moX9_whoOf, gw_in (List.mem_append_right _ (List.mem_append_right _ (List.mem_append_right _ (List.mem_append_right _ (List.mem_append_right _ (List.mem_append_left _ (List.mem_of_getElem? (i := 103) rfl))))))) rfl, gw_in (List.mem_append_left _ (List.mem_of_getElem? (i := 45) rfl)) rfl⟩
abbrev mX9_whole : gw_M := (yX9_whole, cX9_whole, 3, some .int)
set_option maxRecDepth 20000 in
theorem moX9_whole : gw_mo mX9_whole 2 := ⟨gw_in (List.mem_append_right _ (List.mem_append_right _ (List.mem_append_right _ (List.mem_append_right _ (List.mem_append_right _ (List.mem_append_left _ (List.mem_of_getElem? (i := 108) rfl))))))) rfl, gw_in (List.mem_append_right _ (List.mem_append_left _ (List.mem_of_getElem? (i := 12) rfl))) rfl, by decide +kernel, by decide⟩
set_option maxRecDepth 20000 in
theorem mvX9_whole : gw_mv mX9_whole 2 := ⟨moX9_whole, gw_in (List.mem_append_right _ (List.mem_append_right _ (List.mem_append_right _ (List.mem_append_right _ (List.mem_append_right _ (List.mem_append_left _ (List.mem_of_getElem? (i := 106) rfl))))))) rfl, gw_in (List.mem_append_right _ (List.mem_append_right _ (List.mem_append_right _ (List.mem_append_right _ (List.mem_append_right _ (List.mem_append_left _ (List.mem_of_getElem? (i := 107) rfl))))))) rfl⟩
abbrev mX9_wholeOf : gw_M := (yX9_wholeOf, cX9_wholeOf, 3, some .int)
set_option maxRecDepth 20000 in
theorem moX9_wholeOf : gw_mo mX9_wholeOf 2 := ⟨gw_in (List.mem_append_right _ (List.mem_append_right _ (List.mem_append_right _ (List.mem_append_right _ (List.mem_append_right _ (List.mem_append_left _ (List.mem_of_getElem? (i := 112) rfl))))))) rfl, gw_in (List.mem_append_right _ (List.mem_append_left _ (List.mem_of_getElem? (i := 12) rfl))) rfl, by decide +kernel, by decide⟩
set_option maxRecDepth 20000 in
theorem mvX9_wholeOf : gw_mv mX9_wholeOf 2 := ⟨moX9_wholeOf, gw_in (List.mem_append_right _ (List.mem_append_right _ (List.mem_append_right _ (List.mem_append_right _ (List.mem_append_right _ (List.mem_append_left _ (List.mem_of_getElem? (i := 111) rfl))))))) rfl, gw_in (List.mem_append_left _ (List.mem_of_getElem? (i := 46) rfl)) rfl⟩
abbrev mX9_wipe : gw_M := (yX9_wipe, cX9_wipe, 3, some .int)
set_option maxRecDepth 20000 in
theorem moX9_wipe : gw_mo mX9_wipe 1 := ⟨gw_in (List.mem_append_right _ (List.mem_append_right _ (List.mem_append_right _ (List.mem_append_right _ (List.mem_append_left _ (List.mem_of_getElem? (i := 190) rfl)))))) rfl, gw_in (List.mem_append_right _ (List.mem_append_left _ (List.mem_of_getElem? (i := 12) rfl))) rfl, by decide +kernel, by decide⟩
set_option maxRecDepth 20000 in
theorem mvX9_wipe : gw_mv mX9_wipe 1 := ⟨moX9_wipe, gw_in (List.mem_append_right _ (List.mem_append_right _ (List.mem_append_right _ (List.mem_append_right _ (List.mem_append_left _ (List.mem_of_getElem? (i := 188) rfl)))))) rfl, gw_in (List.mem_append_right _ (List.mem_append_right _ (List.mem_append_right _ (List.mem_append_right _ (List.mem_append_left _ (List.mem_of_getElem? (i := 189) rfl)))))) rfl⟩
abbrev mX9_works : gw_M := (yX9_works, cX9_works, 2, some .int)
set_option maxRecDepth 20000 in
theorem moX9_works : gw_mo mX9_works 1 := ⟨gw_in (List.mem_append_right _ (List.mem_append_right _ (List.mem_append_right _ (List.mem_append_right _ (List.mem_append_right _ (List.mem_append_left _ (List.mem_of_getElem? (i := 156) rfl))))))) rfl, gw_in (List.mem_append_right _ (List.mem_append_left _ (List.mem_of_getElem? (i := 12) rfl))) rfl, by decide +kernel, by decide⟩
set_option maxRecDepth 20000 in
theorem mvX9_works : gw_mv mX9_works 1 := ⟨moX9_works, gw_in (List.mem_append_right _ (List.mem_append_right _ (List.mem_append_right _ (List.mem_append_right _ (List.mem_append_right _ (List.mem_append_left _ (List.mem_of_getElem? (i := 154) rfl))))))) rfl, gw_in (List.mem_append_right _ (List.mem_append_right _ (List.mem_append_right _ (List.mem_append_right _ (List.mem_append_right _ (List.mem_append_left _ (List.mem_of_getElem? (i := 155) rfl))))))) rfl⟩
abbrev mX9_worksOf : gw_M := (yX9_worksOf, cX9_worksOf, 2, some .int)
set_option maxRecDepth 20000 in
theorem moX9_worksOf : gw_mo mX9_worksOf 1 := ⟨gw_in (List.mem_append_right _ (List.mem_append_right _ (List.mem_append_right _ (List.mem_append_right _ (List.mem_append_right _ (List.mem_append_left _ (List.mem_of_getElem? (i := 160) rfl))))))) rfl, gw_in (List.mem_append_right _ (List.mem_append_left _ (List.mem_of_getElem? (i := 12) rfl))) rfl, by decide +kernel, by decide⟩
set_option maxRecDepth 20000 in
theorem mvX9_worksOf : gw_mv mX9_worksOf 1 := ⟨moX9_worksOf, gw_in (List.mem_append_right _ (List.mem_append_right _ (List.mem_append_right _ (List.mem_append_right _ (List.mem_append_right _ (List.mem_append_left _ (List.mem_of_getElem? (i := 159) rfl))))))) rfl, gw_in (List.mem_append_left _ (List.mem_of_getElem? (i := 52) rfl)) rfl⟩
abbrev mX9_write : gw_M := (yX9_write, cX9_write, 4, some .int)
set_option maxRecDepth 20000 in
theorem moX9_write : gw_mo mX9_write 2 := ⟨gw_in (List.mem_append_right _ (List.mem_append_right _ (List.mem_append_right _ (List.mem_append_right _ (List.mem_append_right _ (List.mem_append_right _ (List.mem_of_getElem? (i := 57) rfl))))))) rfl, gw_in (List.mem_append_right _ (List.mem_append_left _ (List.mem_of_getElem? (i := 12) rfl))) rfl, by decide +kernel, by decide⟩
set_option maxRecDepth 20000 in
theorem mvX9_write : gw_mv mX9_write 2 := ⟨moX9_write, gw_in (List.mem_append_right _ (List.mem_append_right _ (List.mem_append_right _ (List.mem_append_right _ (List.mem_append_right _ (List.mem_append_right _ (List.mem_of_getElem? (i := 55) rfl))))))) rfl, gw_in (List.mem_append_right _ (List.mem_append_right _ (List.mem_append_right _ (List.mem_append_right _ (List.mem_append_right _ (List.mem_append_right _ (List.mem_of_getElem? (i := 56) rfl))))))) rfl⟩
set_option maxRecDepth 20000 in
theorem fl_X8_14 : gw_fl RX8 14 8 0 := ⟨RX8, TX8, 14, rfl, by decide, lgX8, gw_in (List.mem_append_right _ (List.mem_append_right _ (List.mem_append_left _ (List.mem_of_getElem? (i := 38) rfl)))) rfl⟩
set_option maxRecDepth 20000 in
theorem fl_X8_18 : gw_fl RX8 18 8 1 := ⟨RX8, TX8, 14, rfl, by decide, lgX8, gw_in (List.mem_append_right _ (List.mem_append_right _ (List.mem_append_left _ (List.mem_of_getElem? (i := 39) rfl)))) rfl⟩
set_option maxRecDepth 20000 in
theorem fl_X8_24 : gw_fl RX8 24 8 2 := ⟨RX8, TX8, 14, rfl, by decide, lgX8, gw_in (List.mem_append_right _ (List.mem_append_right _ (List.mem_append_left _ (List.mem_of_getElem? (i := 40) rfl)))) rfl⟩
set_option maxRecDepth 20000 in
theorem fl_X8_31 : gw_fl RX8 31 8 3 := ⟨RX8, TX8, 14, rfl, by decide, lgX8, gw_in (List.mem_append_right _ (List.mem_append_right _ (List.mem_append_left _ (List.mem_of_getElem? (i := 41) rfl)))) rfl⟩
set_option maxRecDepth 20000 in
theorem fl_X8_38 : gw_fl RX8 38 8 4 := ⟨RX8, TX8, 14, rfl, by decide, lgX8, gw_in (List.mem_append_right _ (List.mem_append_right _ (List.mem_append_left _ (List.mem_of_getElem? (i := 42) rfl)))) rfl⟩
set_option maxRecDepth 20000 in
theorem fl_X8_45 : gw_fl RX8 45 8 5 := ⟨RX8, TX8, 14, rfl, by decide, lgX8, gw_in (List.mem_append_right _ (List.mem_append_right _ (List.mem_append_left _ (List.mem_of_getElem? (i := 43) rfl)))) rfl⟩
set_option maxRecDepth 20000 in
theorem fl_X8_52 : gw_fl RX8 52 8 6 := ⟨RX8, TX8, 14, rfl, by decide, lgX8, gw_in (List.mem_append_right _ (List.mem_append_right _ (List.mem_append_left _ (List.mem_of_getElem? (i := 44) rfl)))) rfl⟩
set_option maxRecDepth 20000 in
theorem fl_X8_56 : gw_fl RX8 56 8 7 := ⟨RX8, TX8, 14, rfl, by decide, lgX8, gw_in (List.mem_append_right _ (List.mem_append_right _ (List.mem_append_left _ (List.mem_of_getElem? (i := 45) rfl)))) rfl⟩
set_option maxRecDepth 20000 in
theorem fl_X8_59 : gw_fl RX8 59 8 8 := ⟨RX8, TX8, 14, rfl, by decide, lgX8, gw_in (List.mem_append_right _ (List.mem_append_right _ (List.mem_append_left _ (List.mem_of_getElem? (i := 46) rfl)))) rfl⟩
set_option maxRecDepth 20000 in
theorem fl_X8_63 : gw_fl RX8 63 8 9 := ⟨RX8, TX8, 14, rfl, by decide, lgX8, gw_in (List.mem_append_right _ (List.mem_append_right _ (List.mem_append_left _ (List.mem_of_getElem? (i := 47) rfl)))) rfl⟩
set_option maxRecDepth 20000 in
theorem fl_X8_67 : gw_fl RX8 67 8 10 := ⟨RX8, TX8, 14, rfl, by decide, lgX8, gw_in (List.mem_append_right _ (List.mem_append_right _ (List.mem_append_left _ (List.mem_of_getElem? (i := 48) rfl)))) rfl⟩
set_option maxRecDepth 20000 in
theorem fp_X8_67 : gw_fp RX8 67 8 10 .boolean := ⟨RX8, TX8, 14, tyX8, rfl, by decide, lgX8, gw_in (List.mem_append_right _ (List.mem_append_right _ (List.mem_append_left _ (List.mem_of_getElem? (i := 48) rfl)))) rfl, rfl, by decide +kernel, tyX8_ok, nmX8⟩
set_option maxRecDepth 20000 in
theorem fl_X8_71 : gw_fl RX8 71 8 11 := ⟨RX8, TX8, 14, rfl, by decide, lgX8, gw_in (List.mem_append_right _ (List.mem_append_right _ (List.mem_append_left _ (List.mem_of_getElem? (i := 49) rfl)))) rfl⟩
set_option maxRecDepth 20000 in
theorem fp_X8_71 : gw_fp RX8 71 8 11 .int := ⟨RX8, TX8, 14, tyX8, rfl, by decide, lgX8, gw_in (List.mem_append_right _ (List.mem_append_right _ (List.mem_append_left _ (List.mem_of_getElem? (i := 49) rfl)))) rfl, rfl, by decide +kernel, tyX8_ok, nmX8⟩
set_option maxRecDepth 20000 in
theorem fl_X8_75 : gw_fl RX8 75 8 12 := ⟨RX8, TX8, 14, rfl, by decide, lgX8, gw_in (List.mem_append_right _ (List.mem_append_right _ (List.mem_append_left _ (List.mem_of_getElem? (i := 50) rfl)))) rfl⟩
set_option maxRecDepth 20000 in
theorem fp_X8_75 : gw_fp RX8 75 8 12 .int := ⟨RX8, TX8, 14, tyX8, rfl, by decide, lgX8, gw_in (List.mem_append_right _ (List.mem_append_right _ (List.mem_append_left _ (List.mem_of_getElem? (i := 50) rfl)))) rfl, rfl, by decide +kernel, tyX8_ok, nmX8⟩
set_option maxRecDepth 20000 in
theorem fl_X8_78 : gw_fl RX8 78 8 13 := ⟨RX8, TX8, 14, rfl, by decide, lgX8, gw_in (List.mem_append_right _ (List.mem_append_right _ (List.mem_append_left _ (List.mem_of_getElem? (i := 51) rfl)))) rfl⟩
set_option maxRecDepth 20000 in
theorem fp_X8_78 : gw_fp RX8 78 8 13 .int := ⟨RX8, TX8, 14, tyX8, rfl, by decide, lgX8, gw_in (List.mem_append_right _ (List.mem_append_right _ (List.mem_append_left _ (List.mem_of_getElem? (i := 51) rfl)))) rfl, rfl, by decide +kernel, tyX8_ok, nmX8⟩
set_option maxRecDepth 20000 in
theorem fl_X8_89 : gw_fl RX8 89 5 2 := ⟨RX5, TX5, 3, rfl, by decide, lgX5, gw_in (List.mem_append_right _ (List.mem_append_left _ (List.mem_of_getElem? (i := 43) rfl))) rfl⟩
set_option maxRecDepth 20000 in
theorem fp_X8_89 : gw_fp RX8 89 5 2 .int := ⟨RX5, TX5, 3, tyX5, rfl, by decide, lgX5, gw_in (List.mem_append_right _ (List.mem_append_left _ (List.mem_of_getElem? (i := 43) rfl))) rfl, rfl, by decide +kernel, tyX5_ok, nmX5⟩
set_option maxRecDepth 20000 in
theorem fl_X8_92 : gw_fl RX8 92 5 1 := ⟨RX5, TX5, 3, rfl, by decide, lgX5, gw_in (List.mem_append_right _ (List.mem_append_left _ (List.mem_of_getElem? (i := 39) rfl))) rfl⟩
set_option maxRecDepth 20000 in
theorem fl_X8_95 : gw_fl RX8 95 5 0 := ⟨RX5, TX5, 3, rfl, by decide, lgX5, gw_in (List.mem_append_right _ (List.mem_append_left _ (List.mem_of_getElem? (i := 36) rfl))) rfl⟩
set_option maxRecDepth 20000 in
theorem fl_X8_112 : gw_fl RX8 112 6 0 := ⟨RX6, TX6, 5, rfl, by decide, lgX6, gw_in (List.mem_append_right _ (List.mem_append_left _ (List.mem_of_getElem? (i := 123) rfl))) rfl⟩
set_option maxRecDepth 20000 in
theorem fl_X8_116 : gw_fl RX8 116 4 0 := ⟨RX4, TX4, 5, rfl, by decide, lgX4, gw_in (List.mem_append_right _ (List.mem_append_left _ (List.mem_of_getElem? (i := 66) rfl))) rfl⟩
set_option maxRecDepth 20000 in
theorem fl_X8_121 : gw_fl RX8 121 4 1 := ⟨RX4, TX4, 5, rfl, by decide, lgX4, gw_in (List.mem_append_right _ (List.mem_append_left _ (List.mem_of_getElem? (i := 69) rfl))) rfl⟩
set_option maxRecDepth 20000 in
theorem fl_X8_124 : gw_fl RX8 124 4 2 := ⟨RX4, TX4, 5, rfl, by decide, lgX4, gw_in (List.mem_append_right _ (List.mem_append_left _ (List.mem_of_getElem? (i := 72) rfl))) rfl⟩
set_option maxRecDepth 20000 in
theorem fl_X8_127 : gw_fl RX8 127 4 3 := ⟨RX4, TX4, 5, rfl, by decide, lgX4, gw_in (List.mem_append_right _ (List.mem_append_left _ (List.mem_of_getElem? (i := 75) rfl))) rfl⟩
set_option maxRecDepth 20000 in
theorem fp_X8_127 : gw_fp RX8 127 4 3 .int := ⟨RX4, TX4, 5, tyX4, rfl, by decide, lgX4, gw_in (List.mem_append_right _ (List.mem_append_left _ (List.mem_of_getElem? (i := 75) rfl))) rfl, rfl, by decide +kernel, tyX4_ok, nmX4⟩
set_option maxRecDepth 20000 in
theorem fl_X8_130 : gw_fl RX8 130 2 4 := ⟨RX2, TX2, 6, rfl, by decide, lgX2, gw_in (List.mem_append_right _ (List.mem_append_left _ (List.mem_of_getElem? (i := 158) rfl))) rfl⟩
set_option maxRecDepth 20000 in
theorem fp_X8_130 : gw_fp RX8 130 2 4 .int := ⟨RX2, TX2, 6, tyX2, rfl, by decide, lgX2, gw_in (List.mem_append_right _ (List.mem_append_left _ (List.mem_of_getElem? (i := 158) rfl))) rfl, rfl, by decide +kernel, tyX2_ok, nmX2⟩
set_option maxRecDepth 20000 in
theorem fl_X8_131 : gw_fl RX8 131 2 0 := ⟨RX2, TX2, 6, rfl, by decide, lgX2, gw_in (List.mem_append_right _ (List.mem_append_left _ (List.mem_of_getElem? (i := 152) rfl))) rfl⟩
set_option maxRecDepth 20000 in
theorem fl_X8_134 : gw_fl RX8 134 6 4 := ⟨RX6, TX6, 5, rfl, by decide, lgX6, gw_in (List.mem_append_right _ (List.mem_append_left _ (List.mem_of_getElem? (i := 133) rfl))) rfl⟩
set_option maxRecDepth 20000 in
theorem fp_X8_134 : gw_fp RX8 134 6 4 .int := ⟨RX6, TX6, 5, tyX6, rfl, by decide, lgX6, gw_in (List.mem_append_right _ (List.mem_append_left _ (List.mem_of_getElem? (i := 133) rfl))) rfl, rfl, by decide +kernel, tyX6_ok, nmX6⟩
set_option maxRecDepth 20000 in
theorem fl_X8_140 : gw_fl RX8 140 6 3 := ⟨RX6, TX6, 5, rfl, by decide, lgX6, gw_in (List.mem_append_right _ (List.mem_append_left _ (List.mem_of_getElem? (i := 130) rfl))) rfl⟩
set_option maxRecDepth 20000 in
theorem fp_X8_140 : gw_fp RX8 140 6 3 .int := ⟨RX6, TX6, 5, tyX6, rfl, by decide, lgX6, gw_in (List.mem_append_right _ (List.mem_append_left _ (List.mem_of_getElem? (i := 130) rfl))) rfl, rfl, by decide +kernel, tyX6_ok, nmX6⟩
set_option maxRecDepth 20000 in
theorem fl_X8_143 : gw_fl RX8 143 6 2 := ⟨RX6, TX6, 5, rfl, by decide, lgX6, gw_in (List.mem_append_right _ (List.mem_append_left _ (List.mem_of_getElem? (i := 128) rfl))) rfl⟩
set_option maxRecDepth 20000 in
theorem fl_X8_150 : gw_fl RX8 150 6 1 := ⟨RX6, TX6, 5, rfl, by decide, lgX6, gw_in (List.mem_append_right _ (List.mem_append_left _ (List.mem_of_getElem? (i := 126) rfl))) rfl⟩
set_option maxRecDepth 20000 in
theorem fl_X8_154 : gw_fl RX8 154 0 4 := ⟨RX0, TX0, 5, rfl, by decide, lgX0, gw_in (List.mem_append_right _ (List.mem_append_left _ (List.mem_of_getElem? (i := 110) rfl))) rfl⟩
set_option maxRecDepth 20000 in
theorem fp_X8_154 : gw_fp RX8 154 0 4 .int := ⟨RX0, TX0, 5, tyX0, rfl, by decide, lgX0, gw_in (List.mem_append_right _ (List.mem_append_left _ (List.mem_of_getElem? (i := 110) rfl))) rfl, rfl, by decide +kernel, tyX0_ok, nmX0⟩
set_option maxRecDepth 20000 in
theorem fl_X8_157 : gw_fl RX8 157 0 0 := ⟨RX0, TX0, 5, rfl, by decide, lgX0, gw_in (List.mem_append_right _ (List.mem_append_left _ (List.mem_of_getElem? (i := 98) rfl))) rfl⟩
set_option maxRecDepth 20000 in
theorem fl_X8_160 : gw_fl RX8 160 0 1 := ⟨RX0, TX0, 5, rfl, by decide, lgX0, gw_in (List.mem_append_right _ (List.mem_append_left _ (List.mem_of_getElem? (i := 101) rfl))) rfl⟩
set_option maxRecDepth 20000 in
theorem fl_X8_163 : gw_fl RX8 163 0 2 := ⟨RX0, TX0, 5, rfl, by decide, lgX0, gw_in (List.mem_append_right _ (List.mem_append_left _ (List.mem_of_getElem? (i := 104) rfl))) rfl⟩
set_option maxRecDepth 20000 in
theorem fl_X8_166 : gw_fl RX8 166 0 3 := ⟨RX0, TX0, 5, rfl, by decide, lgX0, gw_in (List.mem_append_right _ (List.mem_append_left _ (List.mem_of_getElem? (i := 107) rfl))) rfl⟩
set_option maxRecDepth 20000 in
theorem fl_X8_169 : gw_fl RX8 169 1 1 := ⟨RX1, TX1, 3, rfl, by decide, lgX1, gw_in (List.mem_append_right _ (List.mem_append_left _ (List.mem_of_getElem? (i := 211) rfl))) rfl⟩
set_option maxRecDepth 20000 in
theorem fl_X8_176 : gw_fl RX8 176 1 0 := ⟨RX1, TX1, 3, rfl, by decide, lgX1, gw_in (List.mem_append_right _ (List.mem_append_left _ (List.mem_of_getElem? (i := 209) rfl))) rfl⟩
set_option maxRecDepth 20000 in
theorem fl_X8_180 : gw_fl RX8 180 1 2 := ⟨RX1, TX1, 3, rfl, by decide, lgX1, gw_in (List.mem_append_right _ (List.mem_append_left _ (List.mem_of_getElem? (i := 213) rfl))) rfl⟩
set_option maxRecDepth 20000 in
theorem fl_X8_197 : gw_fl RX8 197 3 4 := ⟨RX3, TX3, 13, rfl, by decide, lgX3, gw_in (List.mem_append_right _ (List.mem_append_left _ (List.mem_of_getElem? (i := 233) rfl))) rfl⟩
set_option maxRecDepth 20000 in
theorem fl_X8_206 : gw_fl RX8 206 3 5 := ⟨RX3, TX3, 13, rfl, by decide, lgX3, gw_in (List.mem_append_right _ (List.mem_append_left _ (List.mem_of_getElem? (i := 235) rfl))) rfl⟩
set_option maxRecDepth 20000 in
theorem fl_X8_209 : gw_fl RX8 209 3 6 := ⟨RX3, TX3, 13, rfl, by decide, lgX3, gw_in (List.mem_append_right _ (List.mem_append_left _ (List.mem_of_getElem? (i := 237) rfl))) rfl⟩
set_option maxRecDepth 20000 in
theorem fl_X8_212 : gw_fl RX8 212 3 10 := ⟨RX3, TX3, 13, rfl, by decide, lgX3, gw_in (List.mem_append_right _ (List.mem_append_right _ (List.mem_append_left _ (List.mem_of_getElem? (i := 4) rfl)))) rfl⟩
set_option maxRecDepth 20000 in
theorem fp_X8_212 : gw_fp RX8 212 3 10 .int := ⟨RX3, TX3, 13, tyX3, rfl, by decide, lgX3, gw_in (List.mem_append_right _ (List.mem_append_right _ (List.mem_append_left _ (List.mem_of_getElem? (i := 4) rfl)))) rfl, rfl, by decide +kernel, tyX3_ok, nmX3⟩
set_option maxRecDepth 20000 in
theorem fl_X8_218 : gw_fl RX8 218 3 11 := ⟨RX3, TX3, 13, rfl, by decide, lgX3, gw_in (List.mem_append_right _ (List.mem_append_right _ (List.mem_append_left _ (List.mem_of_getElem? (i := 6) rfl)))) rfl⟩
set_option maxRecDepth 20000 in
theorem fp_X8_218 : gw_fp RX8 218 3 11 .int := ⟨RX3, TX3, 13, tyX3, rfl, by decide, lgX3, gw_in (List.mem_append_right _ (List.mem_append_right _ (List.mem_append_left _ (List.mem_of_getElem? (i := 6) rfl)))) rfl, rfl, by decide +kernel, tyX3_ok, nmX3⟩
set_option maxRecDepth 20000 in
theorem fl_X8_225 : gw_fl RX8 225 2 5 := ⟨RX2, TX2, 6, rfl, by decide, lgX2, gw_in (List.mem_append_right _ (List.mem_append_left _ (List.mem_of_getElem? (i := 160) rfl))) rfl⟩
set_option maxRecDepth 20000 in
theorem fp_X8_225 : gw_fp RX8 225 2 5 .int := ⟨RX2, TX2, 6, tyX2, rfl, by decide, lgX2, gw_in (List.mem_append_right _ (List.mem_append_left _ (List.mem_of_getElem? (i := 160) rfl))) rfl, rfl, by decide +kernel, tyX2_ok, nmX2⟩
set_option maxRecDepth 20000 in
theorem fl_X8_228 : gw_fl RX8 228 2 1 := ⟨RX2, TX2, 6, rfl, by decide, lgX2, gw_in (List.mem_append_right _ (List.mem_append_left _ (List.mem_of_getElem? (i := 154) rfl))) rfl⟩
set_option maxRecDepth 20000 in
theorem fl_X8_242 : gw_fl RX8 242 4 4 := ⟨RX4, TX4, 5, rfl, by decide, lgX4, gw_in (List.mem_append_right _ (List.mem_append_left _ (List.mem_of_getElem? (i := 78) rfl))) rfl⟩
set_option maxRecDepth 20000 in
theorem fp_X8_242 : gw_fp RX8 242 4 4 .int := ⟨RX4, TX4, 5, tyX4, rfl, by decide, lgX4, gw_in (List.mem_append_right _ (List.mem_append_left _ (List.mem_of_getElem? (i := 78) rfl))) rfl, rfl, by decide +kernel, tyX4_ok, nmX4⟩
set_option maxRecDepth 20000 in
theorem fl_X8_243 : gw_fl RX8 243 7 3 := ⟨RX7, TX7, 4, rfl, by decide, lgX7, gw_in (List.mem_append_right _ (List.mem_append_left _ (List.mem_of_getElem? (i := 187) rfl))) rfl⟩
set_option maxRecDepth 20000 in
theorem fp_X8_243 : gw_fp RX8 243 7 3 .int := ⟨RX7, TX7, 4, tyX7, rfl, by decide, lgX7, gw_in (List.mem_append_right _ (List.mem_append_left _ (List.mem_of_getElem? (i := 187) rfl))) rfl, rfl, by decide +kernel, tyX7_ok, nmX7⟩
set_option maxRecDepth 20000 in
theorem fl_X8_244 : gw_fl RX8 244 7 0 := ⟨RX7, TX7, 4, rfl, by decide, lgX7, gw_in (List.mem_append_right _ (List.mem_append_left _ (List.mem_of_getElem? (i := 181) rfl))) rfl⟩
set_option maxRecDepth 20000 in
theorem fl_X8_245 : gw_fl RX8 245 7 1 := ⟨RX7, TX7, 4, rfl, by decide, lgX7, gw_in (List.mem_append_right _ (List.mem_append_left _ (List.mem_of_getElem? (i := 183) rfl))) rfl⟩
set_option maxRecDepth 20000 in
theorem fl_X8_246 : gw_fl RX8 246 7 2 := ⟨RX7, TX7, 4, rfl, by decide, lgX7, gw_in (List.mem_append_right _ (List.mem_append_left _ (List.mem_of_getElem? (i := 185) rfl))) rfl⟩
set_option maxRecDepth 20000 in
theorem fl_X8_388 : gw_fl RX8 388 3 12 := ⟨RX3, TX3, 13, rfl, by decide, lgX3, gw_in (List.mem_append_right _ (List.mem_append_right _ (List.mem_append_left _ (List.mem_of_getElem? (i := 9) rfl)))) rfl⟩
set_option maxRecDepth 20000 in
theorem fp_X8_388 : gw_fp RX8 388 3 12 .int := ⟨RX3, TX3, 13, tyX3, rfl, by decide, lgX3, gw_in (List.mem_append_right _ (List.mem_append_right _ (List.mem_append_left _ (List.mem_of_getElem? (i := 9) rfl)))) rfl, rfl, by decide +kernel, tyX3_ok, nmX3⟩
set_option maxRecDepth 20000 in
theorem fl_X8_399 : gw_fl RX8 399 3 3 := ⟨RX3, TX3, 13, rfl, by decide, lgX3, gw_in (List.mem_append_right _ (List.mem_append_left _ (List.mem_of_getElem? (i := 231) rfl))) rfl⟩
set_option maxRecDepth 20000 in
theorem fl_X0_9 : gw_fl RX0 9 0 0 := ⟨RX0, TX0, 5, rfl, by decide, lgX0, gw_in (List.mem_append_right _ (List.mem_append_left _ (List.mem_of_getElem? (i := 96) rfl))) rfl⟩
set_option maxRecDepth 20000 in
theorem fl_X0_15 : gw_fl RX0 15 0 1 := ⟨RX0, TX0, 5, rfl, by decide, lgX0, gw_in (List.mem_append_right _ (List.mem_append_left _ (List.mem_of_getElem? (i := 99) rfl))) rfl⟩
set_option maxRecDepth 20000 in
theorem fl_X0_18 : gw_fl RX0 18 0 2 := ⟨RX0, TX0, 5, rfl, by decide, lgX0, gw_in (List.mem_append_right _ (List.mem_append_left _ (List.mem_of_getElem? (i := 102) rfl))) rfl⟩
set_option maxRecDepth 20000 in
theorem fl_X0_21 : gw_fl RX0 21 0 3 := ⟨RX0, TX0, 5, rfl, by decide, lgX0, gw_in (List.mem_append_right _ (List.mem_append_left _ (List.mem_of_getElem? (i := 105) rfl))) rfl⟩
set_option maxRecDepth 20000 in
theorem fl_X0_24 : gw_fl RX0 24 0 4 := ⟨RX0, TX0, 5, rfl, by decide, lgX0, gw_in (List.mem_append_right _ (List.mem_append_left _ (List.mem_of_getElem? (i := 108) rfl))) rfl⟩
set_option maxRecDepth 20000 in
theorem fp_X0_24 : gw_fp RX0 24 0 4 .int := ⟨RX0, TX0, 5, tyX0, rfl, by decide, lgX0, gw_in (List.mem_append_right _ (List.mem_append_left _ (List.mem_of_getElem? (i := 108) rfl))) rfl, rfl, by decide +kernel, tyX0_ok, nmX0⟩
set_option maxRecDepth 20000 in
theorem fl_X1_11 : gw_fl RX1 11 1 0 := ⟨RX1, TX1, 3, rfl, by decide, lgX1, gw_in (List.mem_append_right _ (List.mem_append_left _ (List.mem_of_getElem? (i := 208) rfl))) rfl⟩
set_option maxRecDepth 20000 in
theorem fl_X1_16 : gw_fl RX1 16 1 1 := ⟨RX1, TX1, 3, rfl, by decide, lgX1, gw_in (List.mem_append_right _ (List.mem_append_left _ (List.mem_of_getElem? (i := 210) rfl))) rfl⟩
set_option maxRecDepth 20000 in
theorem fl_X1_20 : gw_fl RX1 20 1 2 := ⟨RX1, TX1, 3, rfl, by decide, lgX1, gw_in (List.mem_append_right _ (List.mem_append_left _ (List.mem_of_getElem? (i := 212) rfl))) rfl⟩
set_option maxRecDepth 20000 in
theorem fl_X2_9 : gw_fl RX2 9 2 0 := ⟨RX2, TX2, 6, rfl, by decide, lgX2, gw_in (List.mem_append_right _ (List.mem_append_left _ (List.mem_of_getElem? (i := 151) rfl))) rfl⟩
set_option maxRecDepth 20000 in
theorem fl_X2_15 : gw_fl RX2 15 2 1 := ⟨RX2, TX2, 6, rfl, by decide, lgX2, gw_in (List.mem_append_right _ (List.mem_append_left _ (List.mem_of_getElem? (i := 153) rfl))) rfl⟩
set_option maxRecDepth 20000 in
theorem fl_X2_18 : gw_fl RX2 18 2 2 := ⟨RX2, TX2, 6, rfl, by decide, lgX2, gw_in (List.mem_append_right _ (List.mem_append_left _ (List.mem_of_getElem? (i := 155) rfl))) rfl⟩
set_option maxRecDepth 20000 in
theorem fl_X2_21 : gw_fl RX2 21 2 3 := ⟨RX2, TX2, 6, rfl, by decide, lgX2, gw_in (List.mem_append_right _ (List.mem_append_left _ (List.mem_of_getElem? (i := 156) rfl))) rfl⟩
set_option maxRecDepth 20000 in
theorem fl_X2_24 : gw_fl RX2 24 2 4 := ⟨RX2, TX2, 6, rfl, by decide, lgX2, gw_in (List.mem_append_right _ (List.mem_append_left _ (List.mem_of_getElem? (i := 157) rfl))) rfl⟩
set_option maxRecDepth 20000 in
theorem fp_X2_24 : gw_fp RX2 24 2 4 .int := ⟨RX2, TX2, 6, tyX2, rfl, by decide, lgX2, gw_in (List.mem_append_right _ (List.mem_append_left _ (List.mem_of_getElem? (i := 157) rfl))) rfl, rfl, by decide +kernel, tyX2_ok, nmX2⟩
set_option maxRecDepth 20000 in
theorem fl_X2_28 : gw_fl RX2 28 2 5 := ⟨RX2, TX2, 6, rfl, by decide, lgX2, gw_in (List.mem_append_right _ (List.mem_append_left _ (List.mem_of_getElem? (i := 159) rfl))) rfl⟩
set_option maxRecDepth 20000 in
theorem fp_X2_28 : gw_fp RX2 28 2 5 .int := ⟨RX2, TX2, 6, tyX2, rfl, by decide, lgX2, gw_in (List.mem_append_right _ (List.mem_append_left _ (List.mem_of_getElem? (i := 159) rfl))) rfl, rfl, by decide +kernel, tyX2_ok, nmX2⟩
set_option maxRecDepth 20000 in
theorem fl_X2_37 : gw_fl RX2 37 5 2 := ⟨RX5, TX5, 3, rfl, by decide, lgX5, gw_in (List.mem_append_right _ (List.mem_append_left _ (List.mem_of_getElem? (i := 42) rfl))) rfl⟩
set_option maxRecDepth 20000 in
theorem fp_X2_37 : gw_fp RX2 37 5 2 .int := ⟨RX5, TX5, 3, tyX5, rfl, by decide, lgX5, gw_in (List.mem_append_right _ (List.mem_append_left _ (List.mem_of_getElem? (i := 42) rfl))) rfl, rfl, by decide +kernel, tyX5_ok, nmX5⟩
set_option maxRecDepth 20000 in
theorem fl_X2_44 : gw_fl RX2 44 5 0 := ⟨RX5, TX5, 3, rfl, by decide, lgX5, gw_in (List.mem_append_right _ (List.mem_append_left _ (List.mem_of_getElem? (i := 35) rfl))) rfl⟩
set_option maxRecDepth 20000 in
theorem fl_X2_47 : gw_fl RX2 47 3 7 := ⟨RX3, TX3, 13, rfl, by decide, lgX3, gw_in (List.mem_append_right _ (List.mem_append_left _ (List.mem_of_getElem? (i := 239) rfl))) rfl⟩
set_option maxRecDepth 20000 in
theorem fp_X2_47 : gw_fp RX2 47 3 7 .int := ⟨RX3, TX3, 13, tyX3, rfl, by decide, lgX3, gw_in (List.mem_append_right _ (List.mem_append_left _ (List.mem_of_getElem? (i := 239) rfl))) rfl, rfl, by decide +kernel, tyX3_ok, nmX3⟩
set_option maxRecDepth 20000 in
theorem fl_X3_9 : gw_fl RX3 9 3 0 := ⟨RX3, TX3, 13, rfl, by decide, lgX3, gw_in (List.mem_append_right _ (List.mem_append_left _ (List.mem_of_getElem? (i := 227) rfl))) rfl⟩
set_option maxRecDepth 20000 in
theorem fl_X3_15 : gw_fl RX3 15 3 1 := ⟨RX3, TX3, 13, rfl, by decide, lgX3, gw_in (List.mem_append_right _ (List.mem_append_left _ (List.mem_of_getElem? (i := 228) rfl))) rfl⟩
set_option maxRecDepth 20000 in
theorem fl_X3_18 : gw_fl RX3 18 3 2 := ⟨RX3, TX3, 13, rfl, by decide, lgX3, gw_in (List.mem_append_right _ (List.mem_append_left _ (List.mem_of_getElem? (i := 229) rfl))) rfl⟩
set_option maxRecDepth 20000 in
theorem fl_X3_21 : gw_fl RX3 21 3 3 := ⟨RX3, TX3, 13, rfl, by decide, lgX3, gw_in (List.mem_append_right _ (List.mem_append_left _ (List.mem_of_getElem? (i := 230) rfl))) rfl⟩
set_option maxRecDepth 20000 in
theorem fl_X3_24 : gw_fl RX3 24 3 4 := ⟨RX3, TX3, 13, rfl, by decide, lgX3, gw_in (List.mem_append_right _ (List.mem_append_left _ (List.mem_of_getElem? (i := 232) rfl))) rfl⟩
set_option maxRecDepth 20000 in
theorem fl_X3_27 : gw_fl RX3 27 3 5 := ⟨RX3, TX3, 13, rfl, by decide, lgX3, gw_in (List.mem_append_right _ (List.mem_append_left _ (List.mem_of_getElem? (i := 234) rfl))) rfl⟩
set_option maxRecDepth 20000 in
theorem fl_X3_30 : gw_fl RX3 30 3 6 := ⟨RX3, TX3, 13, rfl, by decide, lgX3, gw_in (List.mem_append_right _ (List.mem_append_left _ (List.mem_of_getElem? (i := 236) rfl))) rfl⟩
set_option maxRecDepth 20000 in
theorem fl_X3_33 : gw_fl RX3 33 3 7 := ⟨RX3, TX3, 13, rfl, by decide, lgX3, gw_in (List.mem_append_right _ (List.mem_append_left _ (List.mem_of_getElem? (i := 238) rfl))) rfl⟩
set_option maxRecDepth 20000 in
theorem fp_X3_33 : gw_fp RX3 33 3 7 .int := ⟨RX3, TX3, 13, tyX3, rfl, by decide, lgX3, gw_in (List.mem_append_right _ (List.mem_append_left _ (List.mem_of_getElem? (i := 238) rfl))) rfl, rfl, by decide +kernel, tyX3_ok, nmX3⟩
set_option maxRecDepth 20000 in
theorem fl_X3_37 : gw_fl RX3 37 3 8 := ⟨RX3, TX3, 13, rfl, by decide, lgX3, gw_in (List.mem_append_right _ (List.mem_append_right _ (List.mem_append_left _ (List.mem_of_getElem? (i := 1) rfl)))) rfl⟩
set_option maxRecDepth 20000 in
theorem fp_X3_37 : gw_fp RX3 37 3 8 .int := ⟨RX3, TX3, 13, tyX3, rfl, by decide, lgX3, gw_in (List.mem_append_right _ (List.mem_append_right _ (List.mem_append_left _ (List.mem_of_getElem? (i := 1) rfl)))) rfl, rfl, by decide +kernel, tyX3_ok, nmX3⟩
set_option maxRecDepth 20000 in
theorem fl_X3_40 : gw_fl RX3 40 3 9 := ⟨RX3, TX3, 13, rfl, by decide, lgX3, gw_in (List.mem_append_right _ (List.mem_append_right _ (List.mem_append_left _ (List.mem_of_getElem? (i := 2) rfl)))) rfl⟩
set_option maxRecDepth 20000 in
theorem fp_X3_40 : gw_fp RX3 40 3 9 .int := ⟨RX3, TX3, 13, tyX3, rfl, by decide, lgX3, gw_in (List.mem_append_right _ (List.mem_append_right _ (List.mem_append_left _ (List.mem_of_getElem? (i := 2) rfl)))) rfl, rfl, by decide +kernel, tyX3_ok, nmX3⟩
set_option maxRecDepth 20000 in
theorem fl_X3_43 : gw_fl RX3 43 3 10 := ⟨RX3, TX3, 13, rfl, by decide, lgX3, gw_in (List.mem_append_right _ (List.mem_append_right _ (List.mem_append_left _ (List.mem_of_getElem? (i := 3) rfl)))) rfl⟩
set_option maxRecDepth 20000 in
theorem fp_X3_43 : gw_fp RX3 43 3 10 .int := ⟨RX3, TX3, 13, tyX3, rfl, by decide, lgX3, gw_in (List.mem_append_right _ (List.mem_append_right _ (List.mem_append_left _ (List.mem_of_getElem? (i := 3) rfl)))) rfl, rfl, by decide +kernel, tyX3_ok, nmX3⟩
set_option maxRecDepth 20000 in
theorem fl_X3_46 : gw_fl RX3 46 3 11 := ⟨RX3, TX3, 13, rfl, by decide, lgX3, gw_in (List.mem_append_right _ (List.mem_append_right _ (List.mem_append_left _ (List.mem_of_getElem? (i := 5) rfl)))) rfl⟩
set_option maxRecDepth 20000 in
theorem fp_X3_46 : gw_fp RX3 46 3 11 .int := ⟨RX3, TX3, 13, tyX3, rfl, by decide, lgX3, gw_in (List.mem_append_right _ (List.mem_append_right _ (List.mem_append_left _ (List.mem_of_getElem? (i := 5) rfl)))) rfl, rfl, by decide +kernel, tyX3_ok, nmX3⟩
set_option maxRecDepth 20000 in
theorem fl_X3_49 : gw_fl RX3 49 3 12 := ⟨RX3, TX3, 13, rfl, by decide, lgX3, gw_in (List.mem_append_right _ (List.mem_append_right _ (List.mem_append_left _ (List.mem_of_getElem? (i := 7) rfl)))) rfl⟩
set_option maxRecDepth 20000 in
theorem fp_X3_49 : gw_fp RX3 49 3 12 .int := ⟨RX3, TX3, 13, tyX3, rfl, by decide, lgX3, gw_in (List.mem_append_right _ (List.mem_append_right _ (List.mem_append_left _ (List.mem_of_getElem? (i := 7) rfl)))) rfl, rfl, by decide +kernel, tyX3_ok, nmX3⟩
set_option maxRecDepth 20000 in
theorem fl_X3_52 : gw_fl RX3 52 4 4 := ⟨RX4, TX4, 5, rfl, by decide, lgX4, gw_in (List.mem_append_right _ (List.mem_append_left _ (List.mem_of_getElem? (i := 77) rfl))) rfl⟩
set_option maxRecDepth 20000 in
theorem fp_X3_52 : gw_fp RX3 52 4 4 .int := ⟨RX4, TX4, 5, tyX4, rfl, by decide, lgX4, gw_in (List.mem_append_right _ (List.mem_append_left _ (List.mem_of_getElem? (i := 77) rfl))) rfl, rfl, by decide +kernel, tyX4_ok, nmX4⟩
set_option maxRecDepth 20000 in
theorem fl_X3_55 : gw_fl RX3 55 4 0 := ⟨RX4, TX4, 5, rfl, by decide, lgX4, gw_in (List.mem_append_right _ (List.mem_append_left _ (List.mem_of_getElem? (i := 65) rfl))) rfl⟩
set_option maxRecDepth 20000 in
theorem fl_X3_56 : gw_fl RX3 56 4 1 := ⟨RX4, TX4, 5, rfl, by decide, lgX4, gw_in (List.mem_append_right _ (List.mem_append_left _ (List.mem_of_getElem? (i := 68) rfl))) rfl⟩
set_option maxRecDepth 20000 in
theorem fl_X3_59 : gw_fl RX3 59 4 2 := ⟨RX4, TX4, 5, rfl, by decide, lgX4, gw_in (List.mem_append_right _ (List.mem_append_left _ (List.mem_of_getElem? (i := 71) rfl))) rfl⟩
set_option maxRecDepth 20000 in
theorem fl_X3_60 : gw_fl RX3 60 4 3 := ⟨RX4, TX4, 5, rfl, by decide, lgX4, gw_in (List.mem_append_right _ (List.mem_append_left _ (List.mem_of_getElem? (i := 74) rfl))) rfl⟩
set_option maxRecDepth 20000 in
theorem fp_X3_60 : gw_fp RX3 60 4 3 .int := ⟨RX4, TX4, 5, tyX4, rfl, by decide, lgX4, gw_in (List.mem_append_right _ (List.mem_append_left _ (List.mem_of_getElem? (i := 74) rfl))) rfl, rfl, by decide +kernel, tyX4_ok, nmX4⟩
set_option maxRecDepth 20000 in
theorem fl_X3_73 : gw_fl RX3 73 6 1 := ⟨RX6, TX6, 5, rfl, by decide, lgX6, gw_in (List.mem_append_right _ (List.mem_append_left _ (List.mem_of_getElem? (i := 125) rfl))) rfl⟩
set_option maxRecDepth 20000 in
theorem fl_X3_87 : gw_fl RX3 87 6 4 := ⟨RX6, TX6, 5, rfl, by decide, lgX6, gw_in (List.mem_append_right _ (List.mem_append_left _ (List.mem_of_getElem? (i := 132) rfl))) rfl⟩
set_option maxRecDepth 20000 in
theorem fp_X3_87 : gw_fp RX3 87 6 4 .int := ⟨RX6, TX6, 5, tyX6, rfl, by decide, lgX6, gw_in (List.mem_append_right _ (List.mem_append_left _ (List.mem_of_getElem? (i := 132) rfl))) rfl, rfl, by decide +kernel, tyX6_ok, nmX6⟩
set_option maxRecDepth 20000 in
theorem fl_X3_98 : gw_fl RX3 98 0 4 := ⟨RX0, TX0, 5, rfl, by decide, lgX0, gw_in (List.mem_append_right _ (List.mem_append_left _ (List.mem_of_getElem? (i := 109) rfl))) rfl⟩
set_option maxRecDepth 20000 in
theorem fp_X3_98 : gw_fp RX3 98 0 4 .int := ⟨RX0, TX0, 5, tyX0, rfl, by decide, lgX0, gw_in (List.mem_append_right _ (List.mem_append_left _ (List.mem_of_getElem? (i := 109) rfl))) rfl, rfl, by decide +kernel, tyX0_ok, nmX0⟩
set_option maxRecDepth 20000 in
theorem fl_X3_101 : gw_fl RX3 101 0 0 := ⟨RX0, TX0, 5, rfl, by decide, lgX0, gw_in (List.mem_append_right _ (List.mem_append_left _ (List.mem_of_getElem? (i := 97) rfl))) rfl⟩
set_option maxRecDepth 20000 in
theorem fl_X3_103 : gw_fl RX3 103 0 1 := ⟨RX0, TX0, 5, rfl, by decide, lgX0, gw_in (List.mem_append_right _ (List.mem_append_left _ (List.mem_of_getElem? (i := 100) rfl))) rfl⟩
set_option maxRecDepth 20000 in
theorem fl_X3_106 : gw_fl RX3 106 0 2 := ⟨RX0, TX0, 5, rfl, by decide, lgX0, gw_in (List.mem_append_right _ (List.mem_append_left _ (List.mem_of_getElem? (i := 103) rfl))) rfl⟩
set_option maxRecDepth 20000 in
theorem fl_X3_109 : gw_fl RX3 109 0 3 := ⟨RX0, TX0, 5, rfl, by decide, lgX0, gw_in (List.mem_append_right _ (List.mem_append_left _ (List.mem_of_getElem? (i := 106) rfl))) rfl⟩
set_option maxRecDepth 20000 in
theorem fl_X4_9 : gw_fl RX4 9 4 0 := ⟨RX4, TX4, 5, rfl, by decide, lgX4, gw_in (List.mem_append_right _ (List.mem_append_left _ (List.mem_of_getElem? (i := 64) rfl))) rfl⟩
set_option maxRecDepth 20000 in
theorem fl_X4_15 : gw_fl RX4 15 4 1 := ⟨RX4, TX4, 5, rfl, by decide, lgX4, gw_in (List.mem_append_right _ (List.mem_append_left _ (List.mem_of_getElem? (i := 67) rfl))) rfl⟩
set_option maxRecDepth 20000 in
theorem fl_X4_18 : gw_fl RX4 18 4 2 := ⟨RX4, TX4, 5, rfl, by decide, lgX4, gw_in (List.mem_append_right _ (List.mem_append_left _ (List.mem_of_getElem? (i := 70) rfl))) rfl⟩
set_option maxRecDepth 20000 in
theorem fl_X4_21 : gw_fl RX4 21 4 3 := ⟨RX4, TX4, 5, rfl, by decide, lgX4, gw_in (List.mem_append_right _ (List.mem_append_left _ (List.mem_of_getElem? (i := 73) rfl))) rfl⟩
set_option maxRecDepth 20000 in
theorem fp_X4_21 : gw_fp RX4 21 4 3 .int := ⟨RX4, TX4, 5, tyX4, rfl, by decide, lgX4, gw_in (List.mem_append_right _ (List.mem_append_left _ (List.mem_of_getElem? (i := 73) rfl))) rfl, rfl, by decide +kernel, tyX4_ok, nmX4⟩
set_option maxRecDepth 20000 in
theorem fl_X4_25 : gw_fl RX4 25 4 4 := ⟨RX4, TX4, 5, rfl, by decide, lgX4, gw_in (List.mem_append_right _ (List.mem_append_left _ (List.mem_of_getElem? (i := 76) rfl))) rfl⟩
set_option maxRecDepth 20000 in
theorem fp_X4_25 : gw_fp RX4 25 4 4 .int := ⟨RX4, TX4, 5, tyX4, rfl, by decide, lgX4, gw_in (List.mem_append_right _ (List.mem_append_left _ (List.mem_of_getElem? (i := 76) rfl))) rfl, rfl, by decide +kernel, tyX4_ok, nmX4⟩
set_option maxRecDepth 20000 in
theorem fl_X4_34 : gw_fl RX4 34 5 2 := ⟨RX5, TX5, 3, rfl, by decide, lgX5, gw_in (List.mem_append_right _ (List.mem_append_left _ (List.mem_of_getElem? (i := 41) rfl))) rfl⟩
set_option maxRecDepth 20000 in
theorem fp_X4_34 : gw_fp RX4 34 5 2 .int := ⟨RX5, TX5, 3, tyX5, rfl, by decide, lgX5, gw_in (List.mem_append_right _ (List.mem_append_left _ (List.mem_of_getElem? (i := 41) rfl))) rfl, rfl, by decide +kernel, tyX5_ok, nmX5⟩
set_option maxRecDepth 20000 in
theorem fl_X4_41 : gw_fl RX4 41 5 0 := ⟨RX5, TX5, 3, rfl, by decide, lgX5, gw_in (List.mem_append_right _ (List.mem_append_left _ (List.mem_of_getElem? (i := 37) rfl))) rfl⟩
set_option maxRecDepth 20000 in
theorem fl_X5_9 : gw_fl RX5 9 5 0 := ⟨RX5, TX5, 3, rfl, by decide, lgX5, gw_in (List.mem_append_right _ (List.mem_append_left _ (List.mem_of_getElem? (i := 34) rfl))) rfl⟩
set_option maxRecDepth 20000 in
theorem fl_X5_15 : gw_fl RX5 15 5 2 := ⟨RX5, TX5, 3, rfl, by decide, lgX5, gw_in (List.mem_append_right _ (List.mem_append_left _ (List.mem_of_getElem? (i := 40) rfl))) rfl⟩
set_option maxRecDepth 20000 in
theorem fp_X5_15 : gw_fp RX5 15 5 2 .int := ⟨RX5, TX5, 3, tyX5, rfl, by decide, lgX5, gw_in (List.mem_append_right _ (List.mem_append_left _ (List.mem_of_getElem? (i := 40) rfl))) rfl, rfl, by decide +kernel, tyX5_ok, nmX5⟩
set_option maxRecDepth 20000 in
theorem fl_X5_25 : gw_fl RX5 25 5 1 := ⟨RX5, TX5, 3, rfl, by decide, lgX5, gw_in (List.mem_append_right _ (List.mem_append_left _ (List.mem_of_getElem? (i := 38) rfl))) rfl⟩
set_option maxRecDepth 20000 in
theorem fl_X6_12 : gw_fl RX6 12 6 0 := ⟨RX6, TX6, 5, rfl, by decide, lgX6, gw_in (List.mem_append_right _ (List.mem_append_left _ (List.mem_of_getElem? (i := 122) rfl))) rfl⟩
set_option maxRecDepth 20000 in
theorem fl_X6_21 : gw_fl RX6 21 6 1 := ⟨RX6, TX6, 5, rfl, by decide, lgX6, gw_in (List.mem_append_right _ (List.mem_append_left _ (List.mem_of_getElem? (i := 124) rfl))) rfl⟩
set_option maxRecDepth 20000 in
theorem fl_X6_25 : gw_fl RX6 25 6 2 := ⟨RX6, TX6, 5, rfl, by decide, lgX6, gw_in (List.mem_append_right _ (List.mem_append_left _ (List.mem_of_getElem? (i := 127) rfl))) rfl⟩
set_option maxRecDepth 20000 in
theorem fl_X6_29 : gw_fl RX6 29 6 3 := ⟨RX6, TX6, 5, rfl, by decide, lgX6, gw_in (List.mem_append_right _ (List.mem_append_left _ (List.mem_of_getElem? (i := 129) rfl))) rfl⟩
set_option maxRecDepth 20000 in
theorem fp_X6_29 : gw_fp RX6 29 6 3 .int := ⟨RX6, TX6, 5, tyX6, rfl, by decide, lgX6, gw_in (List.mem_append_right _ (List.mem_append_left _ (List.mem_of_getElem? (i := 129) rfl))) rfl, rfl, by decide +kernel, tyX6_ok, nmX6⟩
set_option maxRecDepth 20000 in
theorem fl_X6_33 : gw_fl RX6 33 6 4 := ⟨RX6, TX6, 5, rfl, by decide, lgX6, gw_in (List.mem_append_right _ (List.mem_append_left _ (List.mem_of_getElem? (i := 131) rfl))) rfl⟩
set_option maxRecDepth 20000 in
theorem fp_X6_33 : gw_fp RX6 33 6 4 .int := ⟨RX6, TX6, 5, tyX6, rfl, by decide, lgX6, gw_in (List.mem_append_right _ (List.mem_append_left _ (List.mem_of_getElem? (i := 131) rfl))) rfl, rfl, by decide +kernel, tyX6_ok, nmX6⟩
set_option maxRecDepth 20000 in
theorem fl_X7_9 : gw_fl RX7 9 7 0 := ⟨RX7, TX7, 4, rfl, by decide, lgX7, gw_in (List.mem_append_right _ (List.mem_append_left _ (List.mem_of_getElem? (i := 180) rfl))) rfl⟩
set_option maxRecDepth 20000 in
theorem fl_X7_15 : gw_fl RX7 15 7 1 := ⟨RX7, TX7, 4, rfl, by decide, lgX7, gw_in (List.mem_append_right _ (List.mem_append_left _ (List.mem_of_getElem? (i := 182) rfl))) rfl⟩
set_option maxRecDepth 20000 in
theorem fl_X7_18 : gw_fl RX7 18 7 2 := ⟨RX7, TX7, 4, rfl, by decide, lgX7, gw_in (List.mem_append_right _ (List.mem_append_left _ (List.mem_of_getElem? (i := 184) rfl))) rfl⟩
set_option maxRecDepth 20000 in
theorem fl_X7_21 : gw_fl RX7 21 7 3 := ⟨RX7, TX7, 4, rfl, by decide, lgX7, gw_in (List.mem_append_right _ (List.mem_append_left _ (List.mem_of_getElem? (i := 186) rfl))) rfl⟩
set_option maxRecDepth 20000 in
theorem fp_X7_21 : gw_fp RX7 21 7 3 .int := ⟨RX7, TX7, 4, tyX7, rfl, by decide, lgX7, gw_in (List.mem_append_right _ (List.mem_append_left _ (List.mem_of_getElem? (i := 186) rfl))) rfl, rfl, by decide +kernel, tyX7_ok, nmX7⟩
set_option maxRecDepth 20000 in
theorem fl_X7_31 : gw_fl RX7 31 3 12 := ⟨RX3, TX3, 13, rfl, by decide, lgX3, gw_in (List.mem_append_right _ (List.mem_append_right _ (List.mem_append_left _ (List.mem_of_getElem? (i := 8) rfl)))) rfl⟩
set_option maxRecDepth 20000 in
theorem fp_X7_31 : gw_fp RX7 31 3 12 .int := ⟨RX3, TX3, 13, tyX3, rfl, by decide, lgX3, gw_in (List.mem_append_right _ (List.mem_append_right _ (List.mem_append_left _ (List.mem_of_getElem? (i := 8) rfl)))) rfl, rfl, by decide +kernel, tyX3_ok, nmX3⟩
set_option maxRecDepth 20000 in
theorem fl_X7_35 : gw_fl RX7 35 3 7 := ⟨RX3, TX3, 13, rfl, by decide, lgX3, gw_in (List.mem_append_right _ (List.mem_append_right _ (List.mem_append_left _ (List.mem_of_getElem? (i := 0) rfl)))) rfl⟩
set_option maxRecDepth 20000 in
theorem fp_X7_35 : gw_fp RX7 35 3 7 .int := ⟨RX3, TX3, 13, tyX3, rfl, by decide, lgX3, gw_in (List.mem_append_right _ (List.mem_append_right _ (List.mem_append_left _ (List.mem_of_getElem? (i := 0) rfl)))) rfl, rfl, by decide +kernel, tyX3_ok, nmX3⟩
set_option maxRecDepth 20000 in
theorem fl_X9_7 : gw_fl RX9 7 9 0 := ⟨RX9, TX9, 47, rfl, by decide, lgX9, gw_in (List.mem_append_right _ (List.mem_append_right _ (List.mem_append_right _ (List.mem_append_right _ (List.mem_append_left _ (List.mem_of_getElem? (i := 34) rfl)))))) rfl⟩
set_option maxRecDepth 20000 in
theorem fl_X9_13 : gw_fl RX9 13 9 1 := ⟨RX9, TX9, 47, rfl, by decide, lgX9, gw_in (List.mem_append_right _ (List.mem_append_right _ (List.mem_append_right _ (List.mem_append_right _ (List.mem_append_left _ (List.mem_of_getElem? (i := 35) rfl)))))) rfl⟩
set_option maxRecDepth 20000 in
theorem fl_X9_16 : gw_fl RX9 16 9 3 := ⟨RX9, TX9, 47, rfl, by decide, lgX9, gw_in (List.mem_append_right _ (List.mem_append_right _ (List.mem_append_right _ (List.mem_append_right _ (List.mem_append_left _ (List.mem_of_getElem? (i := 37) rfl)))))) rfl⟩
set_option maxRecDepth 20000 in
theorem fl_X9_19 : gw_fl RX9 19 9 4 := ⟨RX9, TX9, 47, rfl, by decide, lgX9, gw_in (List.mem_append_right _ (List.mem_append_right _ (List.mem_append_right _ (List.mem_append_right _ (List.mem_append_left _ (List.mem_of_getElem? (i := 38) rfl)))))) rfl⟩
set_option maxRecDepth 20000 in
theorem fl_X9_22 : gw_fl RX9 22 9 5 := ⟨RX9, TX9, 47, rfl, by decide, lgX9, gw_in (List.mem_append_right _ (List.mem_append_right _ (List.mem_append_right _ (List.mem_append_right _ (List.mem_append_left _ (List.mem_of_getElem? (i := 39) rfl)))))) rfl⟩
set_option maxRecDepth 20000 in
theorem fl_X9_25 : gw_fl RX9 25 9 6 := ⟨RX9, TX9, 47, rfl, by decide, lgX9, gw_in (List.mem_append_right _ (List.mem_append_right _ (List.mem_append_right _ (List.mem_append_right _ (List.mem_append_left _ (List.mem_of_getElem? (i := 40) rfl)))))) rfl⟩
set_option maxRecDepth 20000 in
theorem fl_X9_28 : gw_fl RX9 28 9 8 := ⟨RX9, TX9, 47, rfl, by decide, lgX9, gw_in (List.mem_append_right _ (List.mem_append_right _ (List.mem_append_right _ (List.mem_append_right _ (List.mem_append_left _ (List.mem_of_getElem? (i := 42) rfl)))))) rfl⟩
set_option maxRecDepth 20000 in
theorem fl_X9_31 : gw_fl RX9 31 9 11 := ⟨RX9, TX9, 47, rfl, by decide, lgX9, gw_in (List.mem_append_right _ (List.mem_append_right _ (List.mem_append_right _ (List.mem_append_right _ (List.mem_append_left _ (List.mem_of_getElem? (i := 45) rfl)))))) rfl⟩
set_option maxRecDepth 20000 in
theorem fl_X9_34 : gw_fl RX9 34 9 13 := ⟨RX9, TX9, 47, rfl, by decide, lgX9, gw_in (List.mem_append_right _ (List.mem_append_right _ (List.mem_append_right _ (List.mem_append_right _ (List.mem_append_left _ (List.mem_of_getElem? (i := 47) rfl)))))) rfl⟩
set_option maxRecDepth 20000 in
theorem fl_X9_37 : gw_fl RX9 37 9 14 := ⟨RX9, TX9, 47, rfl, by decide, lgX9, gw_in (List.mem_append_right _ (List.mem_append_right _ (List.mem_append_right _ (List.mem_append_right _ (List.mem_append_left _ (List.mem_of_getElem? (i := 48) rfl)))))) rfl⟩
set_option maxRecDepth 20000 in
theorem fl_X9_40 : gw_fl RX9 40 9 15 := ⟨RX9, TX9, 47, rfl, by decide, lgX9, gw_in (List.mem_append_right _ (List.mem_append_right _ (List.mem_append_right _ (List.mem_append_right _ (List.mem_append_left _ (List.mem_of_getElem? (i := 49) rfl)))))) rfl⟩
set_option maxRecDepth 20000 in
theorem fl_X9_43 : gw_fl RX9 43 9 16 := ⟨RX9, TX9, 47, rfl, by decide, lgX9, gw_in (List.mem_append_right _ (List.mem_append_right _ (List.mem_append_right _ (List.mem_append_right _ (List.mem_append_left _ (List.mem_of_getElem? (i := 50) rfl)))))) rfl⟩
set_option maxRecDepth 20000 in
theorem fl_X9_46 : gw_fl RX9 46 9 18 := ⟨RX9, TX9, 47, rfl, by decide, lgX9, gw_in (List.mem_append_right _ (List.mem_append_right _ (List.mem_append_right _ (List.mem_append_right _ (List.mem_append_left _ (List.mem_of_getElem? (i := 52) rfl)))))) rfl⟩
set_option maxRecDepth 20000 in
theorem fl_X9_49 : gw_fl RX9 49 9 20 := ⟨RX9, TX9, 47, rfl, by decide, lgX9, gw_in (List.mem_append_right _ (List.mem_append_right _ (List.mem_append_right _ (List.mem_append_right _ (List.mem_append_left _ (List.mem_of_getElem? (i := 54) rfl)))))) rfl⟩
set_option maxRecDepth 20000 in
theorem fl_X9_52 : gw_fl RX9 52 9 21 := ⟨RX9, TX9, 47, rfl, by decide, lgX9, gw_in (List.mem_append_right _ (List.mem_append_right _ (List.mem_append_right _ (List.mem_append_right _ (List.mem_append_left _ (List.mem_of_getElem? (i := 55) rfl)))))) rfl⟩
set_option maxRecDepth 20000 in
theorem fl_X9_55 : gw_fl RX9 55 9 22 := ⟨RX9, TX9, 47, rfl, by decide, lgX9, gw_in (List.mem_append_right _ (List.mem_append_right _ (List.mem_append_right _ (List.mem_append_right _ (List.mem_append_left _ (List.mem_of_getElem? (i := 56) rfl)))))) rfl⟩
set_option maxRecDepth 20000 in
theorem fl_X9_58 : gw_fl RX9 58 9 23 := ⟨RX9, TX9, 47, rfl, by decide, lgX9, gw_in (List.mem_append_right _ (List.mem_append_right _ (List.mem_append_right _ (List.mem_append_right _ (List.mem_append_left _ (List.mem_of_getElem? (i := 57) rfl)))))) rfl⟩
set_option maxRecDepth 20000 in
theorem fl_X9_61 : gw_fl RX9 61 9 24 := ⟨RX9, TX9, 47, rfl, by decide, lgX9, gw_in (List.mem_append_right _ (List.mem_append_right _ (List.mem_append_right _ (List.mem_append_right _ (List.mem_append_left _ (List.mem_of_getElem? (i := 58) rfl)))))) rfl⟩
set_option maxRecDepth 20000 in
theorem fl_X9_64 : gw_fl RX9 64 9 25 := ⟨RX9, TX9, 47, rfl, by decide, lgX9, gw_in (List.mem_append_right _ (List.mem_append_right _ (List.mem_append_right _ (List.mem_append_right _ (List.mem_append_left _ (List.mem_of_getElem? (i := 59) rfl)))))) rfl⟩
set_option maxRecDepth 20000 in
theorem fl_X9_68 : gw_fl RX9 68 9 26 := ⟨RX9, TX9, 47, rfl, by decide, lgX9, gw_in (List.mem_append_right _ (List.mem_append_right _ (List.mem_append_right _ (List.mem_append_right _ (List.mem_append_left _ (List.mem_of_getElem? (i := 60) rfl)))))) rfl⟩
set_option maxRecDepth 20000 in
theorem fl_X9_71 : gw_fl RX9 71 9 27 := ⟨RX9, TX9, 47, rfl, by decide, lgX9, gw_in (List.mem_append_right _ (List.mem_append_right _ (List.mem_append_right _ (List.mem_append_right _ (List.mem_append_left _ (List.mem_of_getElem? (i := 61) rfl)))))) rfl⟩
set_option maxRecDepth 20000 in
theorem fl_X9_74 : gw_fl RX9 74 9 28 := ⟨RX9, TX9, 47, rfl, by decide, lgX9, gw_in (List.mem_append_right _ (List.mem_append_right _ (List.mem_append_right _ (List.mem_append_right _ (List.mem_append_left _ (List.mem_of_getElem? (i := 62) rfl)))))) rfl⟩
set_option maxRecDepth 20000 in
theorem fl_X9_77 : gw_fl RX9 77 9 29 := ⟨RX9, TX9, 47, rfl, by decide, lgX9, gw_in (List.mem_append_right _ (List.mem_append_right _ (List.mem_append_right _ (List.mem_append_right _ (List.mem_append_left _ (List.mem_of_getElem? (i := 63) rfl)))))) rfl⟩
set_option maxRecDepth 20000 in
theorem fl_X9_80 : gw_fl RX9 80 9 35 := ⟨RX9, TX9, 47, rfl, by decide, lgX9, gw_in (List.mem_append_right _ (List.mem_append_right _ (List.mem_append_right _ (List.mem_append_right _ (List.mem_append_left _ (List.mem_of_getElem? (i := 69) rfl)))))) rfl⟩
set_option maxRecDepth 20000 in
theorem fl_X9_83 : gw_fl RX9 83 9 37 := ⟨RX9, TX9, 47, rfl, by decide, lgX9, gw_in (List.mem_append_right _ (List.mem_append_right _ (List.mem_append_right _ (List.mem_append_right _ (List.mem_append_left _ (List.mem_of_getElem? (i := 71) rfl)))))) rfl⟩
set_option maxRecDepth 20000 in
theorem fl_X9_86 : gw_fl RX9 86 9 38 := ⟨RX9, TX9, 47, rfl, by decide, lgX9, gw_in (List.mem_append_right _ (List.mem_append_right _ (List.mem_append_right _ (List.mem_append_right _ (List.mem_append_left _ (List.mem_of_getElem? (i := 72) rfl)))))) rfl⟩
set_option maxRecDepth 20000 in
theorem fl_X9_89 : gw_fl RX9 89 9 39 := ⟨RX9, TX9, 47, rfl, by decide, lgX9, gw_in (List.mem_append_right _ (List.mem_append_right _ (List.mem_append_right _ (List.mem_append_right _ (List.mem_append_left _ (List.mem_of_getElem? (i := 73) rfl)))))) rfl⟩
set_option maxRecDepth 20000 in
theorem fl_X9_92 : gw_fl RX9 92 9 40 := ⟨RX9, TX9, 47, rfl, by decide, lgX9, gw_in (List.mem_append_right _ (List.mem_append_right _ (List.mem_append_right _ (List.mem_append_right _ (List.mem_append_left _ (List.mem_of_getElem? (i := 74) rfl)))))) rfl⟩
set_option maxRecDepth 20000 in
theorem fl_X9_95 : gw_fl RX9 95 9 41 := ⟨RX9, TX9, 47, rfl, by decide, lgX9, gw_in (List.mem_append_right _ (List.mem_append_right _ (List.mem_append_right _ (List.mem_append_right _ (List.mem_append_left _ (List.mem_of_getElem? (i := 75) rfl)))))) rfl⟩
set_option maxRecDepth 20000 in
theorem fl_X9_98 : gw_fl RX9 98 9 42 := ⟨RX9, TX9, 47, rfl, by decide, lgX9, gw_in (List.mem_append_right _ (List.mem_append_right _ (List.mem_append_right _ (List.mem_append_right _ (List.mem_append_left _ (List.mem_of_getElem? (i := 76) rfl)))))) rfl⟩
set_option maxRecDepth 20000 in
theorem fl_X9_101 : gw_fl RX9 101 9 43 := ⟨RX9, TX9, 47, rfl, by decide, lgX9, gw_in (List.mem_append_right _ (List.mem_append_right _ (List.mem_append_right _ (List.mem_append_right _ (List.mem_append_left _ (List.mem_of_getElem? (i := 77) rfl)))))) rfl⟩
set_option maxRecDepth 20000 in
theorem fl_X9_104 : gw_fl RX9 104 9 44 := ⟨RX9, TX9, 47, rfl, by decide, lgX9, gw_in (List.mem_append_right _ (List.mem_append_right _ (List.mem_append_right _ (List.mem_append_right _ (List.mem_append_left _ (List.mem_of_getElem? (i := 78) rfl)))))) rfl⟩
set_option maxRecDepth 20000 in
theorem fl_X9_107 : gw_fl RX9 107 9 45 := ⟨RX9, TX9, 47, rfl, by decide, lgX9, gw_in (List.mem_append_right _ (List.mem_append_right _ (List.mem_append_right _ (List.mem_append_right _ (List.mem_append_left _ (List.mem_of_getElem? (i := 79) rfl)))))) rfl⟩
set_option maxRecDepth 20000 in
theorem fl_X9_110 : gw_fl RX9 110 9 9 := ⟨RX9, TX9, 47, rfl, by decide, lgX9, gw_in (List.mem_append_right _ (List.mem_append_right _ (List.mem_append_right _ (List.mem_append_right _ (List.mem_append_left _ (List.mem_of_getElem? (i := 43) rfl)))))) rfl⟩
set_option maxRecDepth 20000 in
theorem fp_X9_110 : gw_fp RX9 110 9 9 .int := ⟨RX9, TX9, 47, tyX9, rfl, by decide, lgX9, gw_in (List.mem_append_right _ (List.mem_append_right _ (List.mem_append_right _ (List.mem_append_right _ (List.mem_append_left _ (List.mem_of_getElem? (i := 43) rfl)))))) rfl, rfl, by decide +kernel, tyX9_ok, nmX9⟩
set_option maxRecDepth 20000 in
theorem fl_X9_128 : gw_fl RX9 128 9 2 := ⟨RX9, TX9, 47, rfl, by decide, lgX9, gw_in (List.mem_append_right _ (List.mem_append_right _ (List.mem_append_right _ (List.mem_append_right _ (List.mem_append_left _ (List.mem_of_getElem? (i := 36) rfl)))))) rfl⟩
set_option maxRecDepth 20000 in
theorem fp_X9_128 : gw_fp RX9 128 9 2 .int := ⟨RX9, TX9, 47, tyX9, rfl, by decide, lgX9, gw_in (List.mem_append_right _ (List.mem_append_right _ (List.mem_append_right _ (List.mem_append_right _ (List.mem_append_left _ (List.mem_of_getElem? (i := 36) rfl)))))) rfl, rfl, by decide +kernel, tyX9_ok, nmX9⟩
set_option maxRecDepth 20000 in
theorem fl_X9_134 : gw_fl RX9 134 9 7 := ⟨RX9, TX9, 47, rfl, by decide, lgX9, gw_in (List.mem_append_right _ (List.mem_append_right _ (List.mem_append_right _ (List.mem_append_right _ (List.mem_append_left _ (List.mem_of_getElem? (i := 41) rfl)))))) rfl⟩
set_option maxRecDepth 20000 in
theorem fp_X9_134 : gw_fp RX9 134 9 7 .int := ⟨RX9, TX9, 47, tyX9, rfl, by decide, lgX9, gw_in (List.mem_append_right _ (List.mem_append_right _ (List.mem_append_right _ (List.mem_append_right _ (List.mem_append_left _ (List.mem_of_getElem? (i := 41) rfl)))))) rfl, rfl, by decide +kernel, tyX9_ok, nmX9⟩
set_option maxRecDepth 20000 in
theorem fl_X9_166 : gw_fl RX9 166 9 10 := ⟨RX9, TX9, 47, rfl, by decide, lgX9, gw_in (List.mem_append_right _ (List.mem_append_right _ (List.mem_append_right _ (List.mem_append_right _ (List.mem_append_left _ (List.mem_of_getElem? (i := 44) rfl)))))) rfl⟩
set_option maxRecDepth 20000 in
theorem fp_X9_166 : gw_fp RX9 166 9 10 .int := ⟨RX9, TX9, 47, tyX9, rfl, by decide, lgX9, gw_in (List.mem_append_right _ (List.mem_append_right _ (List.mem_append_right _ (List.mem_append_right _ (List.mem_append_left _ (List.mem_of_getElem? (i := 44) rfl)))))) rfl, rfl, by decide +kernel, tyX9_ok, nmX9⟩
set_option maxRecDepth 20000 in
theorem fl_X9_169 : gw_fl RX9 169 9 12 := ⟨RX9, TX9, 47, rfl, by decide, lgX9, gw_in (List.mem_append_right _ (List.mem_append_right _ (List.mem_append_right _ (List.mem_append_right _ (List.mem_append_left _ (List.mem_of_getElem? (i := 46) rfl)))))) rfl⟩
set_option maxRecDepth 20000 in
theorem fp_X9_169 : gw_fp RX9 169 9 12 .int := ⟨RX9, TX9, 47, tyX9, rfl, by decide, lgX9, gw_in (List.mem_append_right _ (List.mem_append_right _ (List.mem_append_right _ (List.mem_append_right _ (List.mem_append_left _ (List.mem_of_getElem? (i := 46) rfl)))))) rfl, rfl, by decide +kernel, tyX9_ok, nmX9⟩
set_option maxRecDepth 20000 in
theorem fl_X9_182 : gw_fl RX9 182 9 32 := ⟨RX9, TX9, 47, rfl, by decide, lgX9, gw_in (List.mem_append_right _ (List.mem_append_right _ (List.mem_append_right _ (List.mem_append_right _ (List.mem_append_left _ (List.mem_of_getElem? (i := 66) rfl)))))) rfl⟩
set_option maxRecDepth 20000 in
theorem fp_X9_182 : gw_fp RX9 182 9 32 .int := ⟨RX9, TX9, 47, tyX9, rfl, by decide, lgX9, gw_in (List.mem_append_right _ (List.mem_append_right _ (List.mem_append_right _ (List.mem_append_right _ (List.mem_append_left _ (List.mem_of_getElem? (i := 66) rfl)))))) rfl, rfl, by decide +kernel, tyX9_ok, nmX9⟩
set_option maxRecDepth 20000 in
theorem fl_X9_185 : gw_fl RX9 185 9 33 := ⟨RX9, TX9, 47, rfl, by decide, lgX9, gw_in (List.mem_append_right _ (List.mem_append_right _ (List.mem_append_right _ (List.mem_append_right _ (List.mem_append_left _ (List.mem_of_getElem? (i := 67) rfl)))))) rfl⟩
set_option maxRecDepth 20000 in
theorem fp_X9_185 : gw_fp RX9 185 9 33 .int := ⟨RX9, TX9, 47, tyX9, rfl, by decide, lgX9, gw_in (List.mem_append_right _ (List.mem_append_right _ (List.mem_append_right _ (List.mem_append_right _ (List.mem_append_left _ (List.mem_of_getElem? (i := 67) rfl)))))) rfl, rfl, by decide +kernel, tyX9_ok, nmX9⟩
set_option maxRecDepth 20000 in
theorem fl_X9_188 : gw_fl RX9 188 9 34 := ⟨RX9, TX9, 47, rfl, by decide, lgX9, gw_in (List.mem_append_right _ (List.mem_append_right _ (List.mem_append_right _ (List.mem_append_right _ (List.mem_append_left _ (List.mem_of_getElem? (i := 68) rfl)))))) rfl⟩
set_option maxRecDepth 20000 in
theorem fp_X9_188 : gw_fp RX9 188 9 34 .int := ⟨RX9, TX9, 47, tyX9, rfl, by decide, lgX9, gw_in (List.mem_append_right _ (List.mem_append_right _ (List.mem_append_right _ (List.mem_append_right _ (List.mem_append_left _ (List.mem_of_getElem? (i := 68) rfl)))))) rfl, rfl, by decide +kernel, tyX9_ok, nmX9⟩
set_option maxRecDepth 20000 in
theorem fl_X9_191 : gw_fl RX9 191 9 17 := ⟨RX9, TX9, 47, rfl, by decide, lgX9, gw_in (List.mem_append_right _ (List.mem_append_right _ (List.mem_append_right _ (List.mem_append_right _ (List.mem_append_left _ (List.mem_of_getElem? (i := 51) rfl)))))) rfl⟩
set_option maxRecDepth 20000 in
theorem fp_X9_191 : gw_fp RX9 191 9 17 .int := ⟨RX9, TX9, 47, tyX9, rfl, by decide, lgX9, gw_in (List.mem_append_right _ (List.mem_append_right _ (List.mem_append_right _ (List.mem_append_right _ (List.mem_append_left _ (List.mem_of_getElem? (i := 51) rfl)))))) rfl, rfl, by decide +kernel, tyX9_ok, nmX9⟩
set_option maxRecDepth 20000 in
theorem fl_X9_194 : gw_fl RX9 194 9 19 := ⟨RX9, TX9, 47, rfl, by decide, lgX9, gw_in (List.mem_append_right _ (List.mem_append_right _ (List.mem_append_right _ (List.mem_append_right _ (List.mem_append_left _ (List.mem_of_getElem? (i := 53) rfl)))))) rfl⟩
set_option maxRecDepth 20000 in
theorem fp_X9_194 : gw_fp RX9 194 9 19 .int := ⟨RX9, TX9, 47, tyX9, rfl, by decide, lgX9, gw_in (List.mem_append_right _ (List.mem_append_right _ (List.mem_append_right _ (List.mem_append_right _ (List.mem_append_left _ (List.mem_of_getElem? (i := 53) rfl)))))) rfl, rfl, by decide +kernel, tyX9_ok, nmX9⟩
set_option maxRecDepth 20000 in
theorem fl_X9_197 : gw_fl RX9 197 9 30 := ⟨RX9, TX9, 47, rfl, by decide, lgX9, gw_in (List.mem_append_right _ (List.mem_append_right _ (List.mem_append_right _ (List.mem_append_right _ (List.mem_append_left _ (List.mem_of_getElem? (i := 64) rfl)))))) rfl⟩
set_option maxRecDepth 20000 in
theorem fp_X9_197 : gw_fp RX9 197 9 30 .int := ⟨RX9, TX9, 47, tyX9, rfl, by decide, lgX9, gw_in (List.mem_append_right _ (List.mem_append_right _ (List.mem_append_right _ (List.mem_append_right _ (List.mem_append_left _ (List.mem_of_getElem? (i := 64) rfl)))))) rfl, rfl, by decide +kernel, tyX9_ok, nmX9⟩
set_option maxRecDepth 20000 in
theorem fl_X9_200 : gw_fl RX9 200 9 31 := ⟨RX9, TX9, 47, rfl, by decide, lgX9, gw_in (List.mem_append_right _ (List.mem_append_right _ (List.mem_append_right _ (List.mem_append_right _ (List.mem_append_left _ (List.mem_of_getElem? (i := 65) rfl)))))) rfl⟩
set_option maxRecDepth 20000 in
theorem fp_X9_200 : gw_fp RX9 200 9 31 .int := ⟨RX9, TX9, 47, tyX9, rfl, by decide, lgX9, gw_in (List.mem_append_right _ (List.mem_append_right _ (List.mem_append_right _ (List.mem_append_right _ (List.mem_append_left _ (List.mem_of_getElem? (i := 65) rfl)))))) rfl, rfl, by decide +kernel, tyX9_ok, nmX9⟩
set_option maxRecDepth 20000 in
theorem fl_X9_299 : gw_fl RX9 299 9 36 := ⟨RX9, TX9, 47, rfl, by decide, lgX9, gw_in (List.mem_append_right _ (List.mem_append_right _ (List.mem_append_right _ (List.mem_append_right _ (List.mem_append_left _ (List.mem_of_getElem? (i := 70) rfl)))))) rfl⟩
set_option maxRecDepth 20000 in
theorem fp_X9_299 : gw_fp RX9 299 9 36 .int := ⟨RX9, TX9, 47, tyX9, rfl, by decide, lgX9, gw_in (List.mem_append_right _ (List.mem_append_right _ (List.mem_append_right _ (List.mem_append_right _ (List.mem_append_left _ (List.mem_of_getElem? (i := 70) rfl)))))) rfl, rfl, by decide +kernel, tyX9_ok, nmX9⟩
set_option maxRecDepth 20000 in
theorem fl_X9_331 : gw_fl RX9 331 9 46 := ⟨RX9, TX9, 47, rfl, by decide, lgX9, gw_in (List.mem_append_right _ (List.mem_append_right _ (List.mem_append_right _ (List.mem_append_right _ (List.mem_append_left _ (List.mem_of_getElem? (i := 80) rfl)))))) rfl⟩
set_option maxRecDepth 20000 in
theorem fp_X9_331 : gw_fp RX9 331 9 46 .int := ⟨RX9, TX9, 47, tyX9, rfl, by decide, lgX9, gw_in (List.mem_append_right _ (List.mem_append_right _ (List.mem_append_right _ (List.mem_append_right _ (List.mem_append_left _ (List.mem_of_getElem? (i := 80) rfl)))))) rfl, rfl, by decide +kernel, tyX9_ok, nmX9⟩
set_option maxRecDepth 20000 in
theorem ml_X8_81 : Cond.methodLink RX8 81 yX8_isWithin ∈ gw_tb := gw_in (List.mem_append_right _ (List.mem_append_right _ (List.mem_append_left _ (List.mem_of_getElem? (i := 85) rfl)))) rfl
set_option maxRecDepth 20000 in
theorem ml_X8_85 : Cond.methodLink RX8 85 yX8_textOf ∈ gw_tb := gw_in (List.mem_append_right _ (List.mem_append_right _ (List.mem_append_left _ (List.mem_of_getElem? (i := 88) rfl)))) rfl
set_option maxRecDepth 20000 in
theorem ml_X8_98 : Cond.methodLink RX8 98 yX8_takeTexts ∈ gw_tb := gw_in (List.mem_append_right _ (List.mem_append_right _ (List.mem_append_left _ (List.mem_of_getElem? (i := 92) rfl)))) rfl
set_option maxRecDepth 20000 in
theorem ml_X8_101 : Cond.methodLink RX8 101 yX5_faultAsBottles ∈ gw_tb := gw_in (List.mem_append_right _ (List.mem_append_right _ (List.mem_append_left _ (List.mem_of_getElem? (i := 140) rfl)))) rfl
set_option maxRecDepth 20000 in
theorem ml_X8_105 : Cond.methodLink RX8 105 yX5_faultAsSong ∈ gw_tb := gw_in (List.mem_append_right _ (List.mem_append_right _ (List.mem_append_left _ (List.mem_of_getElem? (i := 141) rfl)))) rfl
set_option maxRecDepth 20000 in
theorem ml_X8_108 : Cond.methodLink RX8 108 yX8_isBottle ∈ gw_tb := gw_in (List.mem_append_right _ (List.mem_append_right _ (List.mem_append_left _ (List.mem_of_getElem? (i := 146) rfl)))) rfl
set_option maxRecDepth 20000 in
theorem ml_X8_137 : Cond.methodLink RX8 137 yX8_forgetDays ∈ gw_tb := gw_in (List.mem_append_right _ (List.mem_append_right _ (List.mem_append_left _ (List.mem_of_getElem? (i := 124) rfl)))) rfl
set_option maxRecDepth 20000 in
theorem ml_X8_146 : Cond.methodLink RX8 146 yX8_mayBeAct ∈ gw_tb := gw_in (List.mem_append_right _ (List.mem_append_right _ (List.mem_append_left _ (List.mem_of_getElem? (i := 166) rfl)))) rfl
set_option maxRecDepth 20000 in
theorem ml_X8_172 : Cond.methodLink RX8 172 yX8_find ∈ gw_tb := gw_in (List.mem_append_right _ (List.mem_append_right _ (List.mem_append_left _ (List.mem_of_getElem? (i := 177) rfl)))) rfl
set_option maxRecDepth 20000 in
theorem ml_X8_182 : Cond.methodLink RX8 182 yX8_act ∈ gw_tb := gw_in (List.mem_append_right _ (List.mem_append_right _ (List.mem_append_left _ (List.mem_of_getElem? (i := 181) rfl)))) rfl
set_option maxRecDepth 20000 in
theorem ml_X8_186 : Cond.methodLink RX8 186 yX8_behind ∈ gw_tb := gw_in (List.mem_append_right _ (List.mem_append_right _ (List.mem_append_left _ (List.mem_of_getElem? (i := 186) rfl)))) rfl
set_option maxRecDepth 20000 in
theorem ml_X8_190 : Cond.methodLink RX8 190 yX3_allIn ∈ gw_tb := gw_in (List.mem_append_right _ (List.mem_append_right _ (List.mem_append_right _ (List.mem_append_left _ (List.mem_of_getElem? (i := 0) rfl))))) rfl
set_option maxRecDepth 20000 in
theorem ml_X8_193 : Cond.methodLink RX8 193 yX3_muchOf ∈ gw_tb := gw_in (List.mem_append_right _ (List.mem_append_right _ (List.mem_append_right _ (List.mem_append_left _ (List.mem_of_getElem? (i := 1) rfl))))) rfl
set_option maxRecDepth 20000 in
theorem ml_X8_200 : Cond.methodLink RX8 200 yX3_isWhole ∈ gw_tb := gw_in (List.mem_append_right _ (List.mem_append_right _ (List.mem_append_right _ (List.mem_append_left _ (List.mem_of_getElem? (i := 13) rfl))))) rfl
set_option maxRecDepth 20000 in
theorem ml_X8_203 : Cond.methodLink RX8 203 yX3_voicesWith ∈ gw_tb := gw_in (List.mem_append_right _ (List.mem_append_right _ (List.mem_append_right _ (List.mem_append_left _ (List.mem_of_getElem? (i := 18) rfl))))) rfl
set_option maxRecDepth 20000 in
theorem ml_X8_215 : Cond.methodLink RX8 215 yX4_voices ∈ gw_tb := gw_in (List.mem_append_right _ (List.mem_append_right _ (List.mem_append_right _ (List.mem_append_left _ (List.mem_of_getElem? (i := 38) rfl))))) rfl
set_option maxRecDepth 20000 in
theorem ml_X8_221 : Cond.methodLink RX8 221 yX2_seekRow ∈ gw_tb := gw_in (List.mem_append_right _ (List.mem_append_right _ (List.mem_append_right _ (List.mem_append_left _ (List.mem_of_getElem? (i := 50) rfl))))) rfl
set_option maxRecDepth 20000 in
theorem ml_X8_231 : Cond.methodLink RX8 231 yX8_seekCorks ∈ gw_tb := gw_in (List.mem_append_right _ (List.mem_append_right _ (List.mem_append_right _ (List.mem_append_left _ (List.mem_of_getElem? (i := 82) rfl))))) rfl
set_option maxRecDepth 20000 in
theorem ml_X8_234 : Cond.methodLink RX8 234 yJ6_bitCount_0f7a4 ∈ gw_tb := gw_in (List.mem_append_right _ (List.mem_append_right _ (List.mem_append_right _ (List.mem_append_left _ (List.mem_of_getElem? (i := 86) rfl))))) rfl
set_option maxRecDepth 20000 in
theorem ml_X8_239 : Cond.methodLink RX8 239 yX8_corkedAt ∈ gw_tb := gw_in (List.mem_append_right _ (List.mem_append_right _ (List.mem_append_right _ (List.mem_append_left _ (List.mem_of_getElem? (i := 104) rfl))))) rfl
set_option maxRecDepth 20000 in
theorem ml_X8_247 : Cond.methodLink RX8 247 yX8_comesOut ∈ gw_tb := gw_in (List.mem_append_right _ (List.mem_append_right _ (List.mem_append_right _ (List.mem_append_left _ (List.mem_of_getElem? (i := 124) rfl))))) rfl
set_option maxRecDepth 20000 in
theorem ml_X8_251 : Cond.methodLink RX8 251 yX8_hid ∈ gw_tb := gw_in (List.mem_append_right _ (List.mem_append_right _ (List.mem_append_right _ (List.mem_append_left _ (List.mem_of_getElem? (i := 148) rfl))))) rfl
set_option maxRecDepth 20000 in
theorem ml_X8_254 : Cond.methodLink RX8 254 yX8_holdWithoutEach ∈ gw_tb := gw_in (List.mem_append_right _ (List.mem_append_right _ (List.mem_append_right _ (List.mem_append_left _ (List.mem_of_getElem? (i := 149) rfl))))) rfl
set_option maxRecDepth 20000 in
theorem ml_X8_258 : Cond.methodLink RX8 258 yX8_mostAlike ∈ gw_tb := gw_in (List.mem_append_right _ (List.mem_append_right _ (List.mem_append_right _ (List.mem_append_left _ (List.mem_of_getElem? (i := 153) rfl))))) rfl
set_option maxRecDepth 20000 in
theorem ml_X8_265 : Cond.methodLink RX8 265 yX3_begin ∈ gw_tb := gw_in (List.mem_append_right _ (List.mem_append_right _ (List.mem_append_left _ (List.mem_of_getElem? (i := 190) rfl)))) rfl
set_option maxRecDepth 20000 in
theorem ml_X8_269 : Cond.methodLink RX8 269 yX8_wholeWays ∈ gw_tb := gw_in (List.mem_append_right _ (List.mem_append_right _ (List.mem_append_right _ (List.mem_append_left _ (List.mem_of_getElem? (i := 163) rfl))))) rfl
set_option maxRecDepth 20000 in
theorem ml_X8_273 : Cond.methodLink RX8 273 yJ13_numberOfTrailingZeros_95d88 ∈ gw_tb := gw_in (List.mem_append_right _ (List.mem_append_right _ (List.mem_append_right _ (List.mem_append_left _ (List.mem_of_getElem? (i := 177) rfl))))) rfl
set_option maxRecDepth 20000 in
theorem ml_X8_277 : Cond.methodLink RX8 277 yJ9_min_7cf53 ∈ gw_tb := gw_in (List.mem_append_right _ (List.mem_append_right _ (List.mem_append_right _ (List.mem_append_left _ (List.mem_of_getElem? (i := 184) rfl))))) rfl
set_option maxRecDepth 20000 in
theorem ml_X8_282 : Cond.methodLink RX8 282 yX3_passDay ∈ gw_tb := gw_in (List.mem_append_right _ (List.mem_append_right _ (List.mem_append_left _ (List.mem_of_getElem? (i := 195) rfl)))) rfl
set_option maxRecDepth 20000 in
theorem ml_X8_286 : Cond.methodLink RX8 286 yX8_nextSeed ∈ gw_tb := gw_in (List.mem_append_right _ (List.mem_append_right _ (List.mem_append_right _ (List.mem_append_left _ (List.mem_of_getElem? (i := 189) rfl))))) rfl
set_option maxRecDepth 20000 in
theorem ml_X8_289 : Cond.methodLink RX8 289 yX3_doAct ∈ gw_tb := gw_in (List.mem_append_right _ (List.mem_append_right _ (List.mem_append_right _ (List.mem_append_left _ (List.mem_of_getElem? (i := 193) rfl))))) rfl
set_option maxRecDepth 20000 in
theorem ml_X8_292 : Cond.methodLink RX8 292 yJ7_fill_53178 ∈ gw_tb := gw_in (List.mem_append_right _ (List.mem_append_right _ (List.mem_append_right _ (List.mem_append_left _ (List.mem_of_getElem? (i := 198) rfl))))) rfl
set_option maxRecDepth 20000 in
theorem ml_X8_298 : Cond.methodLink RX8 298 yX1_findingAt ∈ gw_tb := gw_in (List.mem_append_right _ (List.mem_append_right _ (List.mem_append_right _ (List.mem_append_left _ (List.mem_of_getElem? (i := 207) rfl))))) rfl
set_option maxRecDepth 20000 in
theorem ml_X8_302 : Cond.methodLink RX8 302 yX1_setItem ∈ gw_tb := gw_in (List.mem_append_right _ (List.mem_append_right _ (List.mem_append_right _ (List.mem_append_left _ (List.mem_of_getElem? (i := 212) rfl))))) rfl
set_option maxRecDepth 20000 in
theorem ml_X8_307 : Cond.methodLink RX8 307 yX1_hasItems ∈ gw_tb := gw_in (List.mem_append_right _ (List.mem_append_right _ (List.mem_append_right _ (List.mem_append_left _ (List.mem_of_getElem? (i := 225) rfl))))) rfl
set_option maxRecDepth 20000 in
theorem ml_X8_310 : Cond.methodLink RX8 310 arraycopyName ∈ gw_tb := gw_in (List.mem_append_right _ (List.mem_append_right _ (List.mem_append_right _ (List.mem_append_left _ (List.mem_of_getElem? (i := 229) rfl))))) rfl
set_option maxRecDepth 20000 in
theorem ml_X8_320 : Cond.methodLink RX8 320 yX8_count ∈ gw_tb := gw_in (List.mem_append_right _ (List.mem_append_right _ (List.mem_append_right _ (List.mem_append_right _ (List.mem_append_left _ (List.mem_of_getElem? (i := 4) rfl)))))) rfl
set_option maxRecDepth 20000 in
theorem ml_X8_323 : Cond.methodLink RX8 323 yX8_fault ∈ gw_tb := gw_in (List.mem_append_right _ (List.mem_append_right _ (List.mem_append_right _ (List.mem_append_right _ (List.mem_append_left _ (List.mem_of_getElem? (i := 5) rfl)))))) rfl
set_option maxRecDepth 20000 in
theorem ml_X8_326 : Cond.methodLink RX8 326 yX8_mixBottle ∈ gw_tb := gw_in (List.mem_append_right _ (List.mem_append_right _ (List.mem_append_right _ (List.mem_append_right _ (List.mem_append_left _ (List.mem_of_getElem? (i := 6) rfl)))))) rfl
set_option maxRecDepth 20000 in
theorem ml_X8_330 : Cond.methodLink RX8 330 yX8_note ∈ gw_tb := gw_in (List.mem_append_right _ (List.mem_append_right _ (List.mem_append_right _ (List.mem_append_right _ (List.mem_append_left _ (List.mem_of_getElem? (i := 16) rfl)))))) rfl
set_option maxRecDepth 20000 in
theorem ml_X8_333 : Cond.methodLink RX8 333 yX8_heard ∈ gw_tb := gw_in (List.mem_append_right _ (List.mem_append_right _ (List.mem_append_right _ (List.mem_append_right _ (List.mem_append_left _ (List.mem_of_getElem? (i := 17) rfl)))))) rfl
set_option maxRecDepth 20000 in
theorem ml_X8_336 : Cond.methodLink RX8 336 yX8_spilled ∈ gw_tb := gw_in (List.mem_append_right _ (List.mem_append_right _ (List.mem_append_right _ (List.mem_append_right _ (List.mem_append_left _ (List.mem_of_getElem? (i := 18) rfl)))))) rfl
set_option maxRecDepth 20000 in
theorem ml_X8_339 : Cond.methodLink RX8 339 yX8_most ∈ gw_tb := gw_in (List.mem_append_right _ (List.mem_append_right _ (List.mem_append_right _ (List.mem_append_right _ (List.mem_append_left _ (List.mem_of_getElem? (i := 19) rfl)))))) rfl
set_option maxRecDepth 20000 in
theorem ml_X8_341 : Cond.methodLink RX8 341 yX8_has ∈ gw_tb := gw_in (List.mem_append_right _ (List.mem_append_right _ (List.mem_append_right _ (List.mem_append_right _ (List.mem_append_left _ (List.mem_of_getElem? (i := 20) rfl)))))) rfl
set_option maxRecDepth 20000 in
theorem ml_X8_344 : Cond.methodLink RX8 344 yX8_leaked ∈ gw_tb := gw_in (List.mem_append_right _ (List.mem_append_right _ (List.mem_append_right _ (List.mem_append_right _ (List.mem_append_left _ (List.mem_of_getElem? (i := 21) rfl)))))) rfl
set_option maxRecDepth 20000 in
theorem ml_X8_347 : Cond.methodLink RX8 347 yX8_lost ∈ gw_tb := gw_in (List.mem_append_right _ (List.mem_append_right _ (List.mem_append_right _ (List.mem_append_right _ (List.mem_append_left _ (List.mem_of_getElem? (i := 22) rfl)))))) rfl
set_option maxRecDepth 20000 in
theorem ml_X8_350 : Cond.methodLink RX8 350 yX8_sing ∈ gw_tb := gw_in (List.mem_append_right _ (List.mem_append_right _ (List.mem_append_right _ (List.mem_append_right _ (List.mem_append_left _ (List.mem_of_getElem? (i := 23) rfl)))))) rfl
set_option maxRecDepth 20000 in
theorem ml_X8_353 : Cond.methodLink RX8 353 yX8_corks ∈ gw_tb := gw_in (List.mem_append_right _ (List.mem_append_right _ (List.mem_append_right _ (List.mem_append_right _ (List.mem_append_left _ (List.mem_of_getElem? (i := 24) rfl)))))) rfl
set_option maxRecDepth 20000 in
theorem ml_X8_356 : Cond.methodLink RX8 356 yX8_weigh ∈ gw_tb := gw_in (List.mem_append_right _ (List.mem_append_right _ (List.mem_append_right _ (List.mem_append_right _ (List.mem_append_left _ (List.mem_of_getElem? (i := 25) rfl)))))) rfl
set_option maxRecDepth 20000 in
theorem ml_X8_359 : Cond.methodLink RX8 359 yX8_works ∈ gw_tb := gw_in (List.mem_append_right _ (List.mem_append_right _ (List.mem_append_right _ (List.mem_append_right _ (List.mem_append_left _ (List.mem_of_getElem? (i := 26) rfl)))))) rfl
set_option maxRecDepth 20000 in
theorem ml_X8_362 : Cond.methodLink RX8 362 yX8_swapped ∈ gw_tb := gw_in (List.mem_append_right _ (List.mem_append_right _ (List.mem_append_right _ (List.mem_append_right _ (List.mem_append_left _ (List.mem_of_getElem? (i := 27) rfl)))))) rfl
set_option maxRecDepth 20000 in
theorem ml_X8_365 : Cond.methodLink RX8 365 yX8_market ∈ gw_tb := gw_in (List.mem_append_right _ (List.mem_append_right _ (List.mem_append_right _ (List.mem_append_right _ (List.mem_append_left _ (List.mem_of_getElem? (i := 15) rfl)))))) rfl
set_option maxRecDepth 20000 in
theorem ml_X8_368 : Cond.methodLink RX8 368 yX8_bottle ∈ gw_tb := gw_in (List.mem_append_right _ (List.mem_append_right _ (List.mem_append_right _ (List.mem_append_right _ (List.mem_append_left _ (List.mem_of_getElem? (i := 10) rfl)))))) rfl
set_option maxRecDepth 20000 in
theorem ml_X8_370 : Cond.methodLink RX8 370 yX8_holds ∈ gw_tb := gw_in (List.mem_append_right _ (List.mem_append_right _ (List.mem_append_right _ (List.mem_append_right _ (List.mem_append_left _ (List.mem_of_getElem? (i := 11) rfl)))))) rfl
set_option maxRecDepth 20000 in
theorem ml_X8_373 : Cond.methodLink RX8 373 yX8_who ∈ gw_tb := gw_in (List.mem_append_right _ (List.mem_append_right _ (List.mem_append_right _ (List.mem_append_right _ (List.mem_append_left _ (List.mem_of_getElem? (i := 12) rfl)))))) rfl
set_option maxRecDepth 20000 in
theorem ml_X8_376 : Cond.methodLink RX8 376 yX8_whole ∈ gw_tb := gw_in (List.mem_append_right _ (List.mem_append_right _ (List.mem_append_right _ (List.mem_append_right _ (List.mem_append_left _ (List.mem_of_getElem? (i := 13) rfl)))))) rfl
set_option maxRecDepth 20000 in
theorem ml_X8_379 : Cond.methodLink RX8 379 yX8_heat ∈ gw_tb := gw_in (List.mem_append_right _ (List.mem_append_right _ (List.mem_append_right _ (List.mem_append_right _ (List.mem_append_left _ (List.mem_of_getElem? (i := 14) rfl)))))) rfl
set_option maxRecDepth 20000 in
theorem ml_X8_383 : Cond.methodLink RX8 383 yX4_takeFrom ∈ gw_tb := gw_in (List.mem_append_right _ (List.mem_append_right _ (List.mem_append_left _ (List.mem_of_getElem? (i := 96) rfl)))) rfl
set_option maxRecDepth 20000 in
theorem ml_X8_387 : Cond.methodLink RX8 387 yX2_takeFrom ∈ gw_tb := gw_in (List.mem_append_right _ (List.mem_append_right _ (List.mem_append_left _ (List.mem_of_getElem? (i := 115) rfl)))) rfl
set_option maxRecDepth 20000 in
theorem ml_X8_390 : Cond.methodLink RX8 390 yX8_areBottles ∈ gw_tb := gw_in (List.mem_append_right _ (List.mem_append_right _ (List.mem_append_right _ (List.mem_append_left _ (List.mem_of_getElem? (i := 92) rfl))))) rfl
set_option maxRecDepth 20000 in
theorem ml_X8_393 : Cond.methodLink RX8 393 yX8_singsCorked ∈ gw_tb := gw_in (List.mem_append_right _ (List.mem_append_right _ (List.mem_append_right _ (List.mem_append_left _ (List.mem_of_getElem? (i := 96) rfl))))) rfl
set_option maxRecDepth 20000 in
theorem ml_X8_396 : Cond.methodLink RX8 396 yX8_isAmong ∈ gw_tb := gw_in (List.mem_append_right _ (List.mem_append_right _ (List.mem_append_right _ (List.mem_append_left _ (List.mem_of_getElem? (i := 100) rfl))))) rfl
set_option maxRecDepth 20000 in
theorem ml_X8_400 : Cond.methodLink RX8 400 yX2_seekLeast ∈ gw_tb := gw_in (List.mem_append_right _ (List.mem_append_right _ (List.mem_append_right _ (List.mem_append_left _ (List.mem_of_getElem? (i := 103) rfl))))) rfl
set_option maxRecDepth 20000 in
theorem ml_X8_403 : Cond.methodLink RX8 403 yX7_lastDay ∈ gw_tb := gw_in (List.mem_append_right _ (List.mem_append_right _ (List.mem_append_right _ (List.mem_append_left _ (List.mem_of_getElem? (i := 128) rfl))))) rfl
set_option maxRecDepth 20000 in
theorem ml_X8_406 : Cond.methodLink RX8 406 yX7_agreeWith ∈ gw_tb := gw_in (List.mem_append_right _ (List.mem_append_right _ (List.mem_append_right _ (List.mem_append_left _ (List.mem_of_getElem? (i := 135) rfl))))) rfl
set_option maxRecDepth 20000 in
theorem ml_X8_410 : Cond.methodLink RX8 410 yJ9_max_7cf53 ∈ gw_tb := gw_in (List.mem_append_right _ (List.mem_append_right _ (List.mem_append_right _ (List.mem_append_left _ (List.mem_of_getElem? (i := 157) rfl))))) rfl
set_option maxRecDepth 20000 in
theorem ml_X8_413 : Cond.methodLink RX8 413 yX3_become ∈ gw_tb := gw_in (List.mem_append_right _ (List.mem_append_right _ (List.mem_append_right _ (List.mem_append_left _ (List.mem_of_getElem? (i := 166) rfl))))) rfl
set_option maxRecDepth 20000 in
theorem ml_X8_416 : Cond.methodLink RX8 416 yX3_passUntilHeat ∈ gw_tb := gw_in (List.mem_append_right _ (List.mem_append_right _ (List.mem_append_right _ (List.mem_append_left _ (List.mem_of_getElem? (i := 173) rfl))))) rfl
set_option maxRecDepth 20000 in
theorem ml_X8_420 : Cond.methodLink RX8 420 yX3_ripeBottles ∈ gw_tb := gw_in (List.mem_append_right _ (List.mem_append_right _ (List.mem_append_right _ (List.mem_append_left _ (List.mem_of_getElem? (i := 174) rfl))))) rfl
set_option maxRecDepth 20000 in
theorem ml_X8_425 : Cond.methodLink RX8 425 yX3_burstAll ∈ gw_tb := gw_in (List.mem_append_right _ (List.mem_append_right _ (List.mem_append_right _ (List.mem_append_left _ (List.mem_of_getElem? (i := 176) rfl))))) rfl
set_option maxRecDepth 20000 in
theorem ml_X1_23 : Cond.methodLink RX1 23 yJ7_fill_53178 ∈ gw_tb := gw_in (List.mem_append_right _ (List.mem_append_left _ (List.mem_of_getElem? (i := 205) rfl))) rfl
set_option maxRecDepth 20000 in
theorem ml_X2_31 : Cond.methodLink RX2 31 yX5_faultAsSong ∈ gw_tb := gw_in (List.mem_append_right _ (List.mem_append_right _ (List.mem_append_left _ (List.mem_of_getElem? (i := 119) rfl)))) rfl
set_option maxRecDepth 20000 in
theorem ml_X2_38 : Cond.methodLink RX2 38 yJ9_min_7cf53 ∈ gw_tb := gw_in (List.mem_append_right _ (List.mem_append_right _ (List.mem_append_left _ (List.mem_of_getElem? (i := 123) rfl)))) rfl
set_option maxRecDepth 20000 in
theorem ml_X2_50 : Cond.methodLink RX2 50 yX2_voices ∈ gw_tb := gw_in (List.mem_append_right _ (List.mem_append_right _ (List.mem_append_right _ (List.mem_append_left _ (List.mem_of_getElem? (i := 58) rfl))))) rfl
set_option maxRecDepth 20000 in
theorem ml_X2_53 : Cond.methodLink RX2 53 yX3_voicesWith ∈ gw_tb := gw_in (List.mem_append_right _ (List.mem_append_right _ (List.mem_append_right _ (List.mem_append_left _ (List.mem_of_getElem? (i := 62) rfl))))) rfl
set_option maxRecDepth 20000 in
theorem ml_X2_57 : Cond.methodLink RX2 57 yX3_muchOf ∈ gw_tb := gw_in (List.mem_append_right _ (List.mem_append_right _ (List.mem_append_right _ (List.mem_append_left _ (List.mem_of_getElem? (i := 63) rfl))))) rfl
set_option maxRecDepth 20000 in
theorem ml_X2_60 : Cond.methodLink RX2 60 yX3_allIn ∈ gw_tb := gw_in (List.mem_append_right _ (List.mem_append_right _ (List.mem_append_right _ (List.mem_append_left _ (List.mem_of_getElem? (i := 64) rfl))))) rfl
set_option maxRecDepth 20000 in
theorem ml_X2_64 : Cond.methodLink RX2 64 yJ7_fill_53178 ∈ gw_tb := gw_in (List.mem_append_right _ (List.mem_append_right _ (List.mem_append_right _ (List.mem_append_left _ (List.mem_of_getElem? (i := 66) rfl))))) rfl
set_option maxRecDepth 20000 in
theorem ml_X2_70 : Cond.methodLink RX2 70 yX2_leastFrom ∈ gw_tb := gw_in (List.mem_append_right _ (List.mem_append_right _ (List.mem_append_right _ (List.mem_append_left _ (List.mem_of_getElem? (i := 67) rfl))))) rfl
set_option maxRecDepth 20000 in
theorem ml_X2_74 : Cond.methodLink RX2 74 yX2_seekLeast ∈ gw_tb := gw_in (List.mem_append_right _ (List.mem_append_right _ (List.mem_append_right _ (List.mem_append_left _ (List.mem_of_getElem? (i := 54) rfl))))) rfl
set_option maxRecDepth 20000 in
theorem ml_X2_78 : Cond.methodLink RX2 78 yX2_leastNext ∈ gw_tb := gw_in (List.mem_append_right _ (List.mem_append_right _ (List.mem_append_right _ (List.mem_append_left _ (List.mem_of_getElem? (i := 74) rfl))))) rfl
set_option maxRecDepth 20000 in
theorem ml_X2_81 : Cond.methodLink RX2 81 yX2_isFree ∈ gw_tb := gw_in (List.mem_append_right _ (List.mem_append_right _ (List.mem_append_right _ (List.mem_append_left _ (List.mem_of_getElem? (i := 70) rfl))))) rfl
set_option maxRecDepth 20000 in
theorem ml_X3_61 : Cond.methodLink RX3 61 yJ7_fill_53178 ∈ gw_tb := gw_in (List.mem_append_right _ (List.mem_append_right _ (List.mem_append_left _ (List.mem_of_getElem? (i := 194) rfl)))) rfl
set_option maxRecDepth 20000 in
theorem ml_X3_67 : Cond.methodLink RX3 67 arraycopyName ∈ gw_tb := gw_in (List.mem_append_right _ (List.mem_append_right _ (List.mem_append_right _ (List.mem_append_left _ (List.mem_of_getElem? (i := 170) rfl))))) rfl
set_option maxRecDepth 20000 in
theorem ml_X3_79 : Cond.methodLink RX3 79 yX3_passUntilHeat ∈ gw_tb := gw_in (List.mem_append_right _ (List.mem_append_right _ (List.mem_append_left _ (List.mem_of_getElem? (i := 199) rfl)))) rfl
set_option maxRecDepth 20000 in
theorem ml_X3_83 : Cond.methodLink RX3 83 yX6_isHot ∈ gw_tb := gw_in (List.mem_append_right _ (List.mem_append_right _ (List.mem_append_left _ (List.mem_of_getElem? (i := 224) rfl)))) rfl
set_option maxRecDepth 20000 in
theorem ml_X3_90 : Cond.methodLink RX3 90 yX3_ripeBottles ∈ gw_tb := gw_in (List.mem_append_right _ (List.mem_append_right _ (List.mem_append_left _ (List.mem_of_getElem? (i := 228) rfl)))) rfl
set_option maxRecDepth 20000 in
theorem ml_X3_94 : Cond.methodLink RX3 94 yX3_burstAll ∈ gw_tb := gw_in (List.mem_append_right _ (List.mem_append_right _ (List.mem_append_left _ (List.mem_of_getElem? (i := 236) rfl)))) rfl
set_option maxRecDepth 20000 in
theorem ml_X3_112 : Cond.methodLink RX3 112 yX3_doAct ∈ gw_tb := gw_in (List.mem_append_right _ (List.mem_append_right _ (List.mem_append_left _ (List.mem_of_getElem? (i := 203) rfl)))) rfl
set_option maxRecDepth 20000 in
theorem ml_X3_116 : Cond.methodLink RX3 116 yX3_leak ∈ gw_tb := gw_in (List.mem_append_right _ (List.mem_append_right _ (List.mem_append_left _ (List.mem_of_getElem? (i := 220) rfl)))) rfl
set_option maxRecDepth 20000 in
theorem ml_X3_123 : Cond.methodLink RX3 123 yX3_isWhole ∈ gw_tb := gw_in (List.mem_append_right _ (List.mem_append_right _ (List.mem_append_left _ (List.mem_of_getElem? (i := 208) rfl)))) rfl
set_option maxRecDepth 20000 in
theorem ml_X3_126 : Cond.methodLink RX3 126 yX3_pourInto ∈ gw_tb := gw_in (List.mem_append_right _ (List.mem_append_right _ (List.mem_append_left _ (List.mem_of_getElem? (i := 212) rfl)))) rfl
set_option maxRecDepth 20000 in
theorem ml_X3_130 : Cond.methodLink RX3 130 yX3_letGo ∈ gw_tb := gw_in (List.mem_append_right _ (List.mem_append_right _ (List.mem_append_left _ (List.mem_of_getElem? (i := 216) rfl)))) rfl
set_option maxRecDepth 20000 in
theorem ml_X3_134 : Cond.methodLink RX3 134 yX3_allIn ∈ gw_tb := gw_in (List.mem_append_right _ (List.mem_append_right _ (List.mem_append_left _ (List.mem_of_getElem? (i := 232) rfl)))) rfl
set_option maxRecDepth 20000 in
theorem ml_X4_28 : Cond.methodLink RX4 28 yX5_faultAsBottles ∈ gw_tb := gw_in (List.mem_append_right _ (List.mem_append_right _ (List.mem_append_left _ (List.mem_of_getElem? (i := 100) rfl)))) rfl
set_option maxRecDepth 20000 in
theorem ml_X4_35 : Cond.methodLink RX4 35 yJ9_min_7cf53 ∈ gw_tb := gw_in (List.mem_append_right _ (List.mem_append_right _ (List.mem_append_left _ (List.mem_of_getElem? (i := 114) rfl)))) rfl
set_option maxRecDepth 20000 in
theorem ml_X5_19 : Cond.methodLink RX5 19 yJ9_min_7cf53 ∈ gw_tb := gw_in (List.mem_append_right _ (List.mem_append_left _ (List.mem_of_getElem? (i := 31) rfl))) rfl
set_option maxRecDepth 20000 in
theorem ml_X5_28 : Cond.methodLink RX5 28 yX5_mayStandAt ∈ gw_tb := gw_in (List.mem_append_right _ (List.mem_append_right _ (List.mem_append_left _ (List.mem_of_getElem? (i := 104) rfl)))) rfl
set_option maxRecDepth 20000 in
theorem ml_X5_32 : Cond.methodLink RX5 32 yX5_isLetter ∈ gw_tb := gw_in (List.mem_append_right _ (List.mem_append_right _ (List.mem_append_left _ (List.mem_of_getElem? (i := 108) rfl)))) rfl
set_option maxRecDepth 20000 in
theorem ml_X5_35 : Cond.methodLink RX5 35 yX5_isFigure ∈ gw_tb := gw_in (List.mem_append_right _ (List.mem_append_right _ (List.mem_append_left _ (List.mem_of_getElem? (i := 111) rfl)))) rfl
set_option maxRecDepth 20000 in
theorem ml_X7_25 : Cond.methodLink RX7 25 yJ9_max_7cf53 ∈ gw_tb := gw_in (List.mem_append_right _ (List.mem_append_right _ (List.mem_append_right _ (List.mem_append_left _ (List.mem_of_getElem? (i := 132) rfl))))) rfl
set_option maxRecDepth 20000 in
theorem ml_X7_36 : Cond.methodLink RX7 36 yX3_allIn ∈ gw_tb := gw_in (List.mem_append_right _ (List.mem_append_right _ (List.mem_append_right _ (List.mem_append_left _ (List.mem_of_getElem? (i := 139) rfl))))) rfl
set_option maxRecDepth 20000 in
theorem ml_X9_116 : Cond.methodLink RX9 116 yX9_in ∈ gw_tb := gw_in (List.mem_append_right _ (List.mem_append_right _ (List.mem_append_right _ (List.mem_append_right _ (List.mem_append_left _ (List.mem_of_getElem? (i := 184) rfl)))))) rfl
set_option maxRecDepth 20000 in
theorem ml_X9_120 : Cond.methodLink RX9 120 yX9_isText ∈ gw_tb := gw_in (List.mem_append_right _ (List.mem_append_right _ (List.mem_append_right _ (List.mem_append_right _ (List.mem_append_left _ (List.mem_of_getElem? (i := 181) rfl)))))) rfl
set_option maxRecDepth 20000 in
theorem ml_X9_124 : Cond.methodLink RX9 124 yX9_byteAt ∈ gw_tb := gw_in (List.mem_append_right _ (List.mem_append_right _ (List.mem_append_right _ (List.mem_append_right _ (List.mem_append_left _ (List.mem_of_getElem? (i := 211) rfl)))))) rfl
set_option maxRecDepth 20000 in
theorem ml_X9_131 : Cond.methodLink RX9 131 yX9_readsBottle ∈ gw_tb := gw_in (List.mem_append_right _ (List.mem_append_right _ (List.mem_append_right _ (List.mem_append_right _ (List.mem_append_left _ (List.mem_of_getElem? (i := 207) rfl)))))) rfl
set_option maxRecDepth 20000 in
theorem ml_X9_137 : Cond.methodLink RX9 137 yX9_readsBottles ∈ gw_tb := gw_in (List.mem_append_right _ (List.mem_append_right _ (List.mem_append_right _ (List.mem_append_right _ (List.mem_append_left _ (List.mem_of_getElem? (i := 203) rfl)))))) rfl
set_option maxRecDepth 20000 in
theorem ml_X9_141 : Cond.methodLink RX9 141 yX9_readsSong ∈ gw_tb := gw_in (List.mem_append_right _ (List.mem_append_right _ (List.mem_append_right _ (List.mem_append_right _ (List.mem_append_left _ (List.mem_of_getElem? (i := 215) rfl)))))) rfl
set_option maxRecDepth 20000 in
theorem ml_X9_144 : Cond.methodLink RX9 144 yX9_faultOf ∈ gw_tb := gw_in (List.mem_append_right _ (List.mem_append_right _ (List.mem_append_right _ (List.mem_append_right _ (List.mem_append_left _ (List.mem_of_getElem? (i := 199) rfl)))))) rfl
set_option maxRecDepth 20000 in
theorem ml_X9_148 : Cond.methodLink RX9 148 yX9_reads ∈ gw_tb := gw_in (List.mem_append_right _ (List.mem_append_right _ (List.mem_append_right _ (List.mem_append_right _ (List.mem_append_left _ (List.mem_of_getElem? (i := 227) rfl)))))) rfl
set_option maxRecDepth 20000 in
theorem ml_X9_151 : Cond.methodLink RX9 151 yX9_isBottle ∈ gw_tb := gw_in (List.mem_append_right _ (List.mem_append_right _ (List.mem_append_right _ (List.mem_append_right _ (List.mem_append_left _ (List.mem_of_getElem? (i := 223) rfl)))))) rfl
set_option maxRecDepth 20000 in
theorem ml_X9_154 : Cond.methodLink RX9 154 yX9_bottleOf ∈ gw_tb := gw_in (List.mem_append_right _ (List.mem_append_right _ (List.mem_append_right _ (List.mem_append_right _ (List.mem_append_left _ (List.mem_of_getElem? (i := 231) rfl)))))) rfl
set_option maxRecDepth 20000 in
theorem ml_X9_157 : Cond.methodLink RX9 157 yX9_isEight ∈ gw_tb := gw_in (List.mem_append_right _ (List.mem_append_right _ (List.mem_append_right _ (List.mem_append_right _ (List.mem_append_left _ (List.mem_of_getElem? (i := 239) rfl)))))) rfl
set_option maxRecDepth 20000 in
theorem ml_X9_160 : Cond.methodLink RX9 160 yX9_noteOf ∈ gw_tb := gw_in (List.mem_append_right _ (List.mem_append_right _ (List.mem_append_right _ (List.mem_append_right _ (List.mem_append_right _ (List.mem_append_left _ (List.mem_of_getElem? (i := 2) rfl))))))) rfl
set_option maxRecDepth 20000 in
theorem ml_X9_163 : Cond.methodLink RX9 163 yX9_isDay ∈ gw_tb := gw_in (List.mem_append_right _ (List.mem_append_right _ (List.mem_append_right _ (List.mem_append_right _ (List.mem_append_right _ (List.mem_append_left _ (List.mem_of_getElem? (i := 14) rfl))))))) rfl
set_option maxRecDepth 20000 in
theorem ml_X9_172 : Cond.methodLink RX9 172 yX9_isSheet ∈ gw_tb := gw_in (List.mem_append_right _ (List.mem_append_right _ (List.mem_append_right _ (List.mem_append_right _ (List.mem_append_right _ (List.mem_append_left _ (List.mem_of_getElem? (i := 29) rfl))))))) rfl
set_option maxRecDepth 20000 in
theorem ml_X9_175 : Cond.methodLink RX9 175 yX9_meets ∈ gw_tb := gw_in (List.mem_append_right _ (List.mem_append_right _ (List.mem_append_right _ (List.mem_append_right _ (List.mem_append_right _ (List.mem_append_left _ (List.mem_of_getElem? (i := 32) rfl))))))) rfl
set_option maxRecDepth 20000 in
theorem ml_X9_178 : Cond.methodLink RX9 178 yX9_act ∈ gw_tb := gw_in (List.mem_append_right _ (List.mem_append_right _ (List.mem_append_right _ (List.mem_append_right _ (List.mem_append_right _ (List.mem_append_left _ (List.mem_of_getElem? (i := 36) rfl))))))) rfl
set_option maxRecDepth 20000 in
theorem ml_X9_203 : Cond.methodLink RX9 203 yX9_as ∈ gw_tb := gw_in (List.mem_append_right _ (List.mem_append_right _ (List.mem_append_right _ (List.mem_append_right _ (List.mem_append_right _ (List.mem_append_left _ (List.mem_of_getElem? (i := 61) rfl))))))) rfl
set_option maxRecDepth 20000 in
theorem ml_X9_206 : Cond.methodLink RX9 206 yX9_sells ∈ gw_tb := gw_in (List.mem_append_right _ (List.mem_append_right _ (List.mem_append_right _ (List.mem_append_right _ (List.mem_append_right _ (List.mem_append_left _ (List.mem_of_getElem? (i := 77) rfl))))))) rfl
set_option maxRecDepth 20000 in
theorem ml_X9_210 : Cond.methodLink RX9 210 yX9_joins ∈ gw_tb := gw_in (List.mem_append_right _ (List.mem_append_right _ (List.mem_append_right _ (List.mem_append_right _ (List.mem_append_right _ (List.mem_append_left _ (List.mem_of_getElem? (i := 81) rfl))))))) rfl
set_option maxRecDepth 20000 in
theorem ml_X9_213 : Cond.methodLink RX9 213 yX9_breaks ∈ gw_tb := gw_in (List.mem_append_right _ (List.mem_append_right _ (List.mem_append_right _ (List.mem_append_right _ (List.mem_append_right _ (List.mem_append_left _ (List.mem_of_getElem? (i := 85) rfl))))))) rfl
set_option maxRecDepth 20000 in
theorem ml_X9_216 : Cond.methodLink RX9 216 yX9_corksOne ∈ gw_tb := gw_in (List.mem_append_right _ (List.mem_append_right _ (List.mem_append_right _ (List.mem_append_right _ (List.mem_append_right _ (List.mem_append_left _ (List.mem_of_getElem? (i := 69) rfl))))))) rfl
set_option maxRecDepth 20000 in
theorem ml_X9_219 : Cond.methodLink RX9 219 yX9_allIn ∈ gw_tb := gw_in (List.mem_append_right _ (List.mem_append_right _ (List.mem_append_right _ (List.mem_append_right _ (List.mem_append_right _ (List.mem_append_left _ (List.mem_of_getElem? (i := 93) rfl))))))) rfl
set_option maxRecDepth 20000 in
theorem ml_X9_222 : Cond.methodLink RX9 222 yX9_does ∈ gw_tb := gw_in (List.mem_append_right _ (List.mem_append_right _ (List.mem_append_right _ (List.mem_append_right _ (List.mem_append_right _ (List.mem_append_left _ (List.mem_of_getElem? (i := 73) rfl))))))) rfl
set_option maxRecDepth 20000 in
theorem ml_X9_225 : Cond.methodLink RX9 225 yX9_ends ∈ gw_tb := gw_in (List.mem_append_right _ (List.mem_append_right _ (List.mem_append_right _ (List.mem_append_right _ (List.mem_append_right _ (List.mem_append_left _ (List.mem_of_getElem? (i := 89) rfl))))))) rfl
set_option maxRecDepth 20000 in
theorem ml_X9_229 : Cond.methodLink RX9 229 yX9_begins ∈ gw_tb := gw_in (List.mem_append_right _ (List.mem_append_right _ (List.mem_append_right _ (List.mem_append_right _ (List.mem_append_right _ (List.mem_append_left _ (List.mem_of_getElem? (i := 57) rfl))))))) rfl
set_option maxRecDepth 20000 in
theorem ml_X9_232 : Cond.methodLink RX9 232 yX9_goesBy ∈ gw_tb := gw_in (List.mem_append_right _ (List.mem_append_right _ (List.mem_append_right _ (List.mem_append_right _ (List.mem_append_right _ (List.mem_append_left _ (List.mem_of_getElem? (i := 65) rfl))))))) rfl
set_option maxRecDepth 20000 in
theorem ml_X9_236 : Cond.methodLink RX9 236 yX9_asTold ∈ gw_tb := gw_in (List.mem_append_right _ (List.mem_append_right _ (List.mem_append_right _ (List.mem_append_right _ (List.mem_append_right _ (List.mem_append_left _ (List.mem_of_getElem? (i := 49) rfl))))))) rfl
set_option maxRecDepth 20000 in
theorem ml_X9_239 : Cond.methodLink RX9 239 yX9_runs ∈ gw_tb := gw_in (List.mem_append_right _ (List.mem_append_right _ (List.mem_append_right _ (List.mem_append_right _ (List.mem_append_right _ (List.mem_append_left _ (List.mem_of_getElem? (i := 53) rfl))))))) rfl
set_option maxRecDepth 20000 in
theorem ml_X9_242 : Cond.methodLink RX9 242 yX9_runsTold ∈ gw_tb := gw_in (List.mem_append_right _ (List.mem_append_right _ (List.mem_append_right _ (List.mem_append_right _ (List.mem_append_right _ (List.mem_append_left _ (List.mem_of_getElem? (i := 45) rfl))))))) rfl
set_option maxRecDepth 20000 in
theorem ml_X9_245 : Cond.methodLink RX9 245 yX9_holdsOf ∈ gw_tb := gw_in (List.mem_append_right _ (List.mem_append_right _ (List.mem_append_right _ (List.mem_append_right _ (List.mem_append_right _ (List.mem_append_left _ (List.mem_of_getElem? (i := 41) rfl))))))) rfl
set_option maxRecDepth 20000 in
theorem ml_X9_249 : Cond.methodLink RX9 249 yX9_whoOf ∈ gw_tb := gw_in (List.mem_append_right _ (List.mem_append_right _ (List.mem_append_right _ (List.mem_append_right _ (List.mem_append_right _ (List.mem_append_left _ (List.mem_of_getElem? (i := 101) rfl))))))) rfl
set_option maxRecDepth 20000 in
theorem ml_X9_252 : Cond.methodLink RX9 252 yX9_wholeOf ∈ gw_tb := gw_in (List.mem_append_right _ (List.mem_append_right _ (List.mem_append_right _ (List.mem_append_right _ (List.mem_append_right _ (List.mem_append_left _ (List.mem_of_getElem? (i := 109) rfl))))))) rfl
set_option maxRecDepth 20000 in
theorem ml_X9_255 : Cond.methodLink RX9 255 yX9_hasOf ∈ gw_tb := gw_in (List.mem_append_right _ (List.mem_append_right _ (List.mem_append_right _ (List.mem_append_right _ (List.mem_append_right _ (List.mem_append_left _ (List.mem_of_getElem? (i := 117) rfl))))))) rfl
set_option maxRecDepth 20000 in
theorem ml_X9_258 : Cond.methodLink RX9 258 yX9_heardOf ∈ gw_tb := gw_in (List.mem_append_right _ (List.mem_append_right _ (List.mem_append_right _ (List.mem_append_right _ (List.mem_append_right _ (List.mem_append_left _ (List.mem_of_getElem? (i := 125) rfl))))))) rfl
set_option maxRecDepth 20000 in
theorem ml_X9_261 : Cond.methodLink RX9 261 yX9_spilledOf ∈ gw_tb := gw_in (List.mem_append_right _ (List.mem_append_right _ (List.mem_append_right _ (List.mem_append_right _ (List.mem_append_right _ (List.mem_append_left _ (List.mem_of_getElem? (i := 133) rfl))))))) rfl
set_option maxRecDepth 20000 in
theorem ml_X9_264 : Cond.methodLink RX9 264 yX9_leakedOf ∈ gw_tb := gw_in (List.mem_append_right _ (List.mem_append_right _ (List.mem_append_right _ (List.mem_append_right _ (List.mem_append_right _ (List.mem_append_left _ (List.mem_of_getElem? (i := 141) rfl))))))) rfl
set_option maxRecDepth 20000 in
theorem ml_X9_267 : Cond.methodLink RX9 267 yX9_lostOf ∈ gw_tb := gw_in (List.mem_append_right _ (List.mem_append_right _ (List.mem_append_right _ (List.mem_append_right _ (List.mem_append_right _ (List.mem_append_left _ (List.mem_of_getElem? (i := 149) rfl))))))) rfl
set_option maxRecDepth 20000 in
theorem ml_X9_270 : Cond.methodLink RX9 270 yX9_worksOf ∈ gw_tb := gw_in (List.mem_append_right _ (List.mem_append_right _ (List.mem_append_right _ (List.mem_append_right _ (List.mem_append_right _ (List.mem_append_left _ (List.mem_of_getElem? (i := 157) rfl))))))) rfl
set_option maxRecDepth 20000 in
theorem ml_X9_274 : Cond.methodLink RX9 274 yX9_isIn ∈ gw_tb := gw_in (List.mem_append_right _ (List.mem_append_right _ (List.mem_append_right _ (List.mem_append_right _ (List.mem_append_right _ (List.mem_append_left _ (List.mem_of_getElem? (i := 174) rfl))))))) rfl
set_option maxRecDepth 20000 in
theorem ml_X9_277 : Cond.methodLink RX9 277 yX9_spill ∈ gw_tb := gw_in (List.mem_append_right _ (List.mem_append_right _ (List.mem_append_right _ (List.mem_append_right _ (List.mem_append_right _ (List.mem_append_left _ (List.mem_of_getElem? (i := 177) rfl))))))) rfl
set_option maxRecDepth 20000 in
theorem ml_X9_280 : Cond.methodLink RX9 280 yX9_laysSpills ∈ gw_tb := gw_in (List.mem_append_right _ (List.mem_append_right _ (List.mem_append_right _ (List.mem_append_right _ (List.mem_append_right _ (List.mem_append_left _ (List.mem_of_getElem? (i := 169) rfl))))))) rfl
set_option maxRecDepth 20000 in
theorem ml_X9_283 : Cond.methodLink RX9 283 yX9_singOf ∈ gw_tb := gw_in (List.mem_append_right _ (List.mem_append_right _ (List.mem_append_right _ (List.mem_append_right _ (List.mem_append_right _ (List.mem_append_left _ (List.mem_of_getElem? (i := 165) rfl))))))) rfl
set_option maxRecDepth 20000 in
theorem ml_X9_286 : Cond.methodLink RX9 286 yX9_sings ∈ gw_tb := gw_in (List.mem_append_right _ (List.mem_append_right _ (List.mem_append_right _ (List.mem_append_right _ (List.mem_append_right _ (List.mem_append_left _ (List.mem_of_getElem? (i := 189) rfl))))))) rfl
set_option maxRecDepth 20000 in
theorem ml_X9_290 : Cond.methodLink RX9 290 yX9_corksBy ∈ gw_tb := gw_in (List.mem_append_right _ (List.mem_append_right _ (List.mem_append_right _ (List.mem_append_right _ (List.mem_append_right _ (List.mem_append_left _ (List.mem_of_getElem? (i := 185) rfl))))))) rfl
set_option maxRecDepth 20000 in
theorem ml_X9_293 : Cond.methodLink RX9 293 yX9_ofCorks ∈ gw_tb := gw_in (List.mem_append_right _ (List.mem_append_right _ (List.mem_append_right _ (List.mem_append_right _ (List.mem_append_right _ (List.mem_append_left _ (List.mem_of_getElem? (i := 193) rfl))))))) rfl
set_option maxRecDepth 20000 in
theorem ml_X9_296 : Cond.methodLink RX9 296 yX9_mostOf ∈ gw_tb := gw_in (List.mem_append_right _ (List.mem_append_right _ (List.mem_append_right _ (List.mem_append_right _ (List.mem_append_right _ (List.mem_append_left _ (List.mem_of_getElem? (i := 201) rfl))))))) rfl
set_option maxRecDepth 20000 in
theorem ml_X9_302 : Cond.methodLink RX9 302 yX9_isWeighed ∈ gw_tb := gw_in (List.mem_append_right _ (List.mem_append_right _ (List.mem_append_right _ (List.mem_append_right _ (List.mem_append_right _ (List.mem_append_left _ (List.mem_of_getElem? (i := 221) rfl))))))) rfl
set_option maxRecDepth 20000 in
theorem ml_X9_306 : Cond.methodLink RX9 306 yX9_hidNow ∈ gw_tb := gw_in (List.mem_append_right _ (List.mem_append_right _ (List.mem_append_right _ (List.mem_append_right _ (List.mem_append_right _ (List.mem_append_left _ (List.mem_of_getElem? (i := 217) rfl))))))) rfl
set_option maxRecDepth 20000 in
theorem ml_X9_309 : Cond.methodLink RX9 309 yX9_swappedOf ∈ gw_tb := gw_in (List.mem_append_right _ (List.mem_append_right _ (List.mem_append_right _ (List.mem_append_right _ (List.mem_append_right _ (List.mem_append_left _ (List.mem_of_getElem? (i := 229) rfl))))))) rfl
set_option maxRecDepth 20000 in
theorem ml_X9_312 : Cond.methodLink RX9 312 yX9_weighOf ∈ gw_tb := gw_in (List.mem_append_right _ (List.mem_append_right _ (List.mem_append_right _ (List.mem_append_right _ (List.mem_append_right _ (List.mem_append_left _ (List.mem_of_getElem? (i := 237) rfl))))))) rfl
set_option maxRecDepth 20000 in
theorem ml_X9_315 : Cond.methodLink RX9 315 yX9_lowest ∈ gw_tb := gw_in (List.mem_append_right _ (List.mem_append_right _ (List.mem_append_right _ (List.mem_append_right _ (List.mem_append_right _ (List.mem_append_right _ (List.mem_of_getElem? (i := 9) rfl))))))) rfl
set_option maxRecDepth 20000 in
theorem ml_X9_319 : Cond.methodLink RX9 319 yX9_heatOf ∈ gw_tb := gw_in (List.mem_append_right _ (List.mem_append_right _ (List.mem_append_right _ (List.mem_append_right _ (List.mem_append_right _ (List.mem_append_right _ (List.mem_of_getElem? (i := 5) rfl))))))) rfl
set_option maxRecDepth 20000 in
theorem ml_X9_323 : Cond.methodLink RX9 323 yX9_no ∈ gw_tb := gw_in (List.mem_append_right _ (List.mem_append_right _ (List.mem_append_right _ (List.mem_append_right _ (List.mem_append_right _ (List.mem_append_right _ (List.mem_of_getElem? (i := 12) rfl))))))) rfl
set_option maxRecDepth 20000 in
theorem ml_X9_328 : Cond.methodLink RX9 328 yX9_marketOf ∈ gw_tb := gw_in (List.mem_append_right _ (List.mem_append_right _ (List.mem_append_right _ (List.mem_append_right _ (List.mem_append_right _ (List.mem_append_right _ (List.mem_of_getElem? (i := 20) rfl))))))) rfl
set_option maxRecDepth 20000 in
theorem ml_X9_334 : Cond.methodLink RX9 334 yX9_lacks ∈ gw_tb := gw_in (List.mem_append_right _ (List.mem_append_right _ (List.mem_append_right _ (List.mem_append_right _ (List.mem_append_right _ (List.mem_append_right _ (List.mem_of_getElem? (i := 37) rfl))))))) rfl
set_option maxRecDepth 20000 in
theorem ml_X9_337 : Cond.methodLink RX9 337 yX9_keep ∈ gw_tb := gw_in (List.mem_append_right _ (List.mem_append_right _ (List.mem_append_right _ (List.mem_append_right _ (List.mem_append_right _ (List.mem_append_right _ (List.mem_of_getElem? (i := 41) rfl))))))) rfl
set_option maxRecDepth 20000 in
theorem ml_X9_342 : Cond.methodLink RX9 342 yX9_sumOf ∈ gw_tb := gw_in (List.mem_append_right _ (List.mem_append_right _ (List.mem_append_right _ (List.mem_append_right _ (List.mem_append_right _ (List.mem_append_right _ (List.mem_of_getElem? (i := 62) rfl))))))) rfl
set_option maxRecDepth 20000 in
theorem ml_X9_349 : Cond.methodLink RX9 349 yX9_count ∈ gw_tb := gw_in (List.mem_append_right _ (List.mem_append_right _ (List.mem_append_right _ (List.mem_append_right _ (List.mem_append_right _ (List.mem_append_right _ (List.mem_of_getElem? (i := 72) rfl))))))) rfl
set_option maxRecDepth 20000 in
theorem ml_X9_352 : Cond.methodLink RX9 352 yX9_bottleDigest ∈ gw_tb := gw_in (List.mem_append_right _ (List.mem_append_right _ (List.mem_append_right _ (List.mem_append_right _ (List.mem_append_right _ (List.mem_append_right _ (List.mem_of_getElem? (i := 73) rfl))))))) rfl
set_option maxRecDepth 20000 in
theorem ml_X9_356 : Cond.methodLink RX9 356 yX9_dayDigest ∈ gw_tb := gw_in (List.mem_append_right _ (List.mem_append_right _ (List.mem_append_right _ (List.mem_append_right _ (List.mem_append_right _ (List.mem_append_right _ (List.mem_of_getElem? (i := 77) rfl))))))) rfl
set_option maxRecDepth 20000 in
theorem ml_J13_311 : Cond.methodLink RJ13 311 yJ6_numberOfTrailingZeros_0f7a4 ∈ gw_tb := gw_in (List.mem_append_right _ (List.mem_append_right _ (List.mem_append_right _ (List.mem_append_left _ (List.mem_of_getElem? (i := 180) rfl))))) rfl
set_option maxRecDepth 20000 in
theorem co_X8_306 : Cond.constant RX8 306 (-2147483648) ∈ gw_tb := gw_in (List.mem_append_right _ (List.mem_append_right _ (List.mem_append_right _ (List.mem_append_left _ (List.mem_of_getElem? (i := 220) rfl))))) rfl
set_option maxRecDepth 20000 in
theorem co_X8_428 : Cond.constant RX8 428 (1103515245) ∈ gw_tb := gw_in (List.mem_append_right _ (List.mem_append_right _ (List.mem_append_right _ (List.mem_append_left _ (List.mem_of_getElem? (i := 192) rfl))))) rfl
set_option maxRecDepth 20000 in
theorem co_X2_63 : Cond.constant RX2 63 (1000000) ∈ gw_tb := gw_in (List.mem_append_right _ (List.mem_append_right _ (List.mem_append_right _ (List.mem_append_left _ (List.mem_of_getElem? (i := 65) rfl))))) rfl
set_option maxRecDepth 20000 in
theorem co_X9_273 : Cond.constant RX9 273 (1000000) ∈ gw_tb := gw_in (List.mem_append_right _ (List.mem_append_right _ (List.mem_append_right _ (List.mem_append_right _ (List.mem_append_right _ (List.mem_append_left _ (List.mem_of_getElem? (i := 173) rfl))))))) rfl
set_option maxRecDepth 20000 in
theorem co_X9_327 : Cond.constant RX9 327 (1103515245) ∈ gw_tb := gw_in (List.mem_append_right _ (List.mem_append_right _ (List.mem_append_right _ (List.mem_append_right _ (List.mem_append_right _ (List.mem_append_right _ (List.mem_of_getElem? (i := 24) rfl))))))) rfl
set_option maxRecDepth 20000 in
theorem co_X9_341 : Cond.constant RX9 341 (-2147483648) ∈ gw_tb := gw_in (List.mem_append_right _ (List.mem_append_right _ (List.mem_append_right _ (List.mem_append_right _ (List.mem_append_right _ (List.mem_append_right _ (List.mem_of_getElem? (i := 49) rfl))))))) rfl
set_option maxRecDepth 20000 in
theorem co_J6_264 : Cond.constant RJ6 264 (65536) ∈ gw_tb := gw_in (List.mem_append_right _ (List.mem_append_right _ (List.mem_append_right _ (List.mem_append_left _ (List.mem_of_getElem? (i := 183) rfl))))) rfl
set_option maxRecDepth 20000 in
theorem co_J6_265 : Cond.constant RJ6 265 (1431655765) ∈ gw_tb := gw_in (List.mem_append_right _ (List.mem_append_right _ (List.mem_append_right _ (List.mem_append_left _ (List.mem_of_getElem? (i := 89) rfl))))) rfl
set_option maxRecDepth 20000 in
theorem co_J6_266 : Cond.constant RJ6 266 (858993459) ∈ gw_tb := gw_in (List.mem_append_right _ (List.mem_append_right _ (List.mem_append_right _ (List.mem_append_left _ (List.mem_of_getElem? (i := 90) rfl))))) rfl
set_option maxRecDepth 20000 in
theorem co_J6_267 : Cond.constant RJ6 267 (252645135) ∈ gw_tb := gw_in (List.mem_append_right _ (List.mem_append_right _ (List.mem_append_right _ (List.mem_append_left _ (List.mem_of_getElem? (i := 91) rfl))))) rfl
set_option maxRecDepth 20000 in
theorem cl_X8_263 : Cond.constantLong RX8 263 (-9223372036854775806) ∈ gw_tb := gw_in (List.mem_append_right _ (List.mem_append_right _ (List.mem_append_right _ (List.mem_append_left _ (List.mem_of_getElem? (i := 162) rfl))))) rfl
set_option maxRecDepth 20000 in
theorem cl_X8_316 : Cond.constantLong RX8 316 (17) ∈ gw_tb := gw_in (List.mem_append_right _ (List.mem_append_right _ (List.mem_append_right _ (List.mem_append_right _ (List.mem_append_left _ (List.mem_of_getElem? (i := 2) rfl)))))) rfl
set_option maxRecDepth 20000 in
theorem cl_X8_318 : Cond.constantLong RX8 318 (31) ∈ gw_tb := gw_in (List.mem_append_right _ (List.mem_append_right _ (List.mem_append_right _ (List.mem_append_right _ (List.mem_append_left _ (List.mem_of_getElem? (i := 3) rfl)))))) rfl
set_option maxRecDepth 20000 in
theorem cl_X8_423 : Cond.constantLong RX8 423 (16) ∈ gw_tb := gw_in (List.mem_append_right _ (List.mem_append_right _ (List.mem_append_right _ (List.mem_append_left _ (List.mem_of_getElem? (i := 175) rfl))))) rfl
set_option maxRecDepth 20000 in
theorem cl_X9_114 : Cond.constantLong RX9 114 (-9223372036854775808) ∈ gw_tb := gw_in (List.mem_append_right _ (List.mem_append_right _ (List.mem_append_right _ (List.mem_append_right _ (List.mem_append_right _ (List.mem_append_right _ (List.mem_of_getElem? (i := 15) rfl))))))) rfl
set_option maxRecDepth 20000 in
theorem cl_X9_345 : Cond.constantLong RX9 345 (31) ∈ gw_tb := gw_in (List.mem_append_right _ (List.mem_append_right _ (List.mem_append_right _ (List.mem_append_right _ (List.mem_append_right _ (List.mem_append_right _ (List.mem_of_getElem? (i := 71) rfl))))))) rfl
set_option maxRecDepth 20000 in
theorem cl_X9_347 : Cond.constantLong RX9 347 (17) ∈ gw_tb := gw_in (List.mem_append_right _ (List.mem_append_right _ (List.mem_append_right _ (List.mem_append_right _ (List.mem_append_right _ (List.mem_append_right _ (List.mem_of_getElem? (i := 70) rfl))))))) rfl
set_option maxRecDepth 20000 in
theorem cpw : Cond.native arraycopyName ∈ gw_tb ∧ Cond.static arraycopyName ∈ gw_tb ∧ Cond.initialized "java/lang/System" ∈ gw_tb := ⟨gw_in (List.mem_append_right _ (List.mem_append_right _ (List.mem_append_right _ (List.mem_append_left _ (List.mem_of_getElem? (i := 172) rfl))))) rfl, gw_in (List.mem_append_right _ (List.mem_append_right _ (List.mem_append_right _ (List.mem_append_left _ (List.mem_of_getElem? (i := 171) rfl))))) rfl, gw_in (List.mem_append_right _ (List.mem_append_left _ (List.mem_of_getElem? (i := 15) rfl))) rfl⟩
