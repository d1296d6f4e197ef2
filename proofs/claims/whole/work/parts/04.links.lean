/-! links, by program (wip/whole/mknames.py) -/
theorem iTX0 : ∀ w ∈ wsX00, w ∈ Tg := fun w h => in_Tg (inX0 w h) (List.all_eq_true.mp (by decide +kernel : (wsX00).all goodWord = true) w h)
theorem iTX1 : ∀ w ∈ wsX10, w ∈ Tg := fun w h => in_Tg (inX1 w h) (List.all_eq_true.mp (by decide +kernel : (wsX10).all goodWord = true) w h)
theorem iTX2 : ∀ w ∈ wsX20, w ∈ Tg := fun w h => in_Tg (inX2 w h) (List.all_eq_true.mp (by decide +kernel : (wsX20).all goodWord = true) w h)
theorem iTX3 : ∀ w ∈ wsX30, w ∈ Tg := fun w h => in_Tg (inX3 w h) (List.all_eq_true.mp (by decide +kernel : (wsX30).all goodWord = true) w h)
theorem iTX4 : ∀ w ∈ wsX40, w ∈ Tg := fun w h => in_Tg (inX4 w h) (List.all_eq_true.mp (by decide +kernel : (wsX40).all goodWord = true) w h)
theorem iTX5 : ∀ w ∈ wsX50, w ∈ Tg := fun w h => in_Tg (inX5 w h) (List.all_eq_true.mp (by decide +kernel : (wsX50).all goodWord = true) w h)
theorem iTX6 : ∀ w ∈ wsX60, w ∈ Tg := fun w h => in_Tg (inX6 w h) (List.all_eq_true.mp (by decide +kernel : (wsX60).all goodWord = true) w h)
theorem iTX7 : ∀ w ∈ wsX70, w ∈ Tg := fun w h => in_Tg (inX7 w h) (List.all_eq_true.mp (by decide +kernel : (wsX70).all goodWord = true) w h)
theorem iTX8 : ∀ w ∈ wsX80, w ∈ Tg := fun w h => in_Tg (inX8 w h) (List.all_eq_true.mp (by decide +kernel : (wsX80).all goodWord = true) w h)
theorem iTX9 : ∀ w ∈ wsX90, w ∈ Tg := fun w h => in_Tg (inX9 w h) (List.all_eq_true.mp (by decide +kernel : (wsX90).all goodWord = true) w h)
theorem iTX10 : ∀ w ∈ wsX100, w ∈ Tg := fun w h => in_Tg (inX10 w h) (List.all_eq_true.mp (by decide +kernel : (wsX100).all goodWord = true) w h)
theorem iTX11 : ∀ w ∈ wsX110, w ∈ Tg := fun w h => in_Tg (inX11 w h) (List.all_eq_true.mp (by decide +kernel : (wsX110).all goodWord = true) w h)
theorem iTX12 : ∀ w ∈ wsX120, w ∈ Tg := fun w h => in_Tg (inX12 w h) (List.all_eq_true.mp (by decide +kernel : (wsX120).all goodWord = true) w h)
theorem kfX11_12 : FldOK RX11 12 11 0 := ⟨RX11, TX11, 15, rfl, by decide, iTX11, in_Tg (in_t2 (List.mem_of_getElem? (i := 38) (by decide +kernel))) rfl⟩
theorem kfX11_16 : FldOK RX11 16 11 1 := ⟨RX11, TX11, 15, rfl, by decide, iTX11, in_Tg (in_t2 (List.mem_of_getElem? (i := 39) (by decide +kernel))) rfl⟩
theorem kfX11_22 : FldOK RX11 22 11 2 := ⟨RX11, TX11, 15, rfl, by decide, iTX11, in_Tg (in_t2 (List.mem_of_getElem? (i := 40) (by decide +kernel))) rfl⟩
theorem kfX11_26 : FldOK RX11 26 11 3 := ⟨RX11, TX11, 15, rfl, by decide, iTX11, in_Tg (in_t2 (List.mem_of_getElem? (i := 41) (by decide +kernel))) rfl⟩
theorem kfX11_32 : FldOK RX11 32 11 4 := ⟨RX11, TX11, 15, rfl, by decide, iTX11, in_Tg (in_t2 (List.mem_of_getElem? (i := 42) (by decide +kernel))) rfl⟩
theorem kfX11_39 : FldOK RX11 39 11 5 := ⟨RX11, TX11, 15, rfl, by decide, iTX11, in_Tg (in_t2 (List.mem_of_getElem? (i := 43) (by decide +kernel))) rfl⟩
theorem kfX11_46 : FldOK RX11 46 11 6 := ⟨RX11, TX11, 15, rfl, by decide, iTX11, in_Tg (in_t2 (List.mem_of_getElem? (i := 44) (by decide +kernel))) rfl⟩
theorem kfX11_53 : FldOK RX11 53 11 7 := ⟨RX11, TX11, 15, rfl, by decide, iTX11, in_Tg (in_t2 (List.mem_of_getElem? (i := 45) (by decide +kernel))) rfl⟩
theorem kfX11_60 : FldOK RX11 60 11 8 := ⟨RX11, TX11, 15, rfl, by decide, iTX11, in_Tg (in_t2 (List.mem_of_getElem? (i := 46) (by decide +kernel))) rfl⟩
theorem kfX11_67 : FldOK RX11 67 11 9 := ⟨RX11, TX11, 15, rfl, by decide, iTX11, in_Tg (in_t2 (List.mem_of_getElem? (i := 47) (by decide +kernel))) rfl⟩
theorem kfX11_74 : FldOK RX11 74 11 10 := ⟨RX11, TX11, 15, rfl, by decide, iTX11, in_Tg (in_t2 (List.mem_of_getElem? (i := 48) (by decide +kernel))) rfl⟩
theorem kfX11_81 : FldOK RX11 81 11 11 := ⟨RX11, TX11, 15, rfl, by decide, iTX11, in_Tg (in_t2 (List.mem_of_getElem? (i := 49) (by decide +kernel))) rfl⟩
theorem kfX11_85 : FldOK RX11 85 11 12 := ⟨RX11, TX11, 15, rfl, by decide, iTX11, in_Tg (in_t2 (List.mem_of_getElem? (i := 50) (by decide +kernel))) rfl⟩
theorem kfX11_89 : FldOK RX11 89 11 13 := ⟨RX11, TX11, 15, rfl, by decide, iTX11, in_Tg (in_t2 (List.mem_of_getElem? (i := 51) (by decide +kernel))) rfl⟩
theorem kfX11_92 : FldOK RX11 92 11 14 := ⟨RX11, TX11, 15, rfl, by decide, iTX11, in_Tg (in_t2 (List.mem_of_getElem? (i := 52) (by decide +kernel))) rfl⟩
theorem kfX11_99 : FldOK RX11 99 9 1 := ⟨RX9, TX9, 2, rfl, by decide, iTX9, in_Tg (in_t1 (List.mem_of_getElem? (i := 145) (by decide +kernel))) rfl⟩
theorem kpX11_99 : PutOK RX11 99 9 1 .int := ⟨RX9, TX9, 2, tyX9, rfl, by decide, iTX9, in_Tg (in_t1 (List.mem_of_getElem? (i := 145) (by decide +kernel))) rfl, tyX9_ok, nmX9, rfl, by decide +kernel⟩
theorem kfX11_106 : FldOK RX11 106 1 0 := ⟨RX1, TX1, 10, rfl, by decide, iTX1, in_Tg (in_t1 (List.mem_of_getElem? (i := 40) (by decide +kernel))) rfl⟩
theorem kpX11_106 : PutOK RX11 106 1 0 .int := ⟨RX1, TX1, 10, tyX1, rfl, by decide, iTX1, in_Tg (in_t1 (List.mem_of_getElem? (i := 40) (by decide +kernel))) rfl, tyX1_ok, nmX1, rfl, by decide +kernel⟩
theorem kfX11_148 : FldOK RX11 148 1 1 := ⟨RX1, TX1, 10, rfl, by decide, iTX1, in_Tg (in_t1 (List.mem_of_getElem? (i := 43) (by decide +kernel))) rfl⟩
theorem kfX11_151 : FldOK RX11 151 1 2 := ⟨RX1, TX1, 10, rfl, by decide, iTX1, in_Tg (in_t1 (List.mem_of_getElem? (i := 46) (by decide +kernel))) rfl⟩
theorem kfX11_154 : FldOK RX11 154 1 3 := ⟨RX1, TX1, 10, rfl, by decide, iTX1, in_Tg (in_t1 (List.mem_of_getElem? (i := 49) (by decide +kernel))) rfl⟩
theorem kfX11_157 : FldOK RX11 157 1 4 := ⟨RX1, TX1, 10, rfl, by decide, iTX1, in_Tg (in_t1 (List.mem_of_getElem? (i := 51) (by decide +kernel))) rfl⟩
theorem kfX11_247 : FldOK RX11 247 3 2 := ⟨RX3, TX3, 5, rfl, by decide, iTX3, in_Tg (in_t1 (List.mem_of_getElem? (i := 178) (by decide +kernel))) rfl⟩
theorem kpX11_247 : PutOK RX11 247 3 2 .int := ⟨RX3, TX3, 5, tyX3, rfl, by decide, iTX3, in_Tg (in_t1 (List.mem_of_getElem? (i := 178) (by decide +kernel))) rfl, tyX3_ok, nmX3, rfl, by decide +kernel⟩
theorem kfX11_291 : FldOK RX11 291 8 0 := ⟨RX8, TX8, 5, rfl, by decide, iTX8, in_Tg (in_t1 (List.mem_of_getElem? (i := 200) (by decide +kernel))) rfl⟩
theorem kfX11_302 : FldOK RX11 302 8 3 := ⟨RX8, TX8, 5, rfl, by decide, iTX8, in_Tg (in_t1 (List.mem_of_getElem? (i := 204) (by decide +kernel))) rfl⟩
theorem kpX11_302 : PutOK RX11 302 8 3 .int := ⟨RX8, TX8, 5, tyX8, rfl, by decide, iTX8, in_Tg (in_t1 (List.mem_of_getElem? (i := 204) (by decide +kernel))) rfl, tyX8_ok, nmX8, rfl, by decide +kernel⟩
theorem kfX11_321 : FldOK RX11 321 8 4 := ⟨RX8, TX8, 5, rfl, by decide, iTX8, in_Tg (in_t1 (List.mem_of_getElem? (i := 206) (by decide +kernel))) rfl⟩
theorem kpX11_321 : PutOK RX11 321 8 4 .int := ⟨RX8, TX8, 5, tyX8, rfl, by decide, iTX8, in_Tg (in_t1 (List.mem_of_getElem? (i := 206) (by decide +kernel))) rfl, tyX8_ok, nmX8, rfl, by decide +kernel⟩
theorem kfX11_328 : FldOK RX11 328 10 1 := ⟨RX10, TX10, 2, rfl, by decide, iTX10, in_Tg (in_t1 (List.mem_of_getElem? (i := 162) (by decide +kernel))) rfl⟩
theorem kpX11_328 : PutOK RX11 328 10 1 .int := ⟨RX10, TX10, 2, tyX10, rfl, by decide, iTX10, in_Tg (in_t1 (List.mem_of_getElem? (i := 162) (by decide +kernel))) rfl, tyX10_ok, nmX10, rfl, by decide +kernel⟩
theorem kfX11_335 : FldOK RX11 335 6 3 := ⟨RX6, TX6, 4, rfl, by decide, iTX6, in_Tg (in_t2 (List.mem_of_getElem? (i := 1) (by decide +kernel))) rfl⟩
theorem kpX11_335 : PutOK RX11 335 6 3 .int := ⟨RX6, TX6, 4, tyX6, rfl, by decide, iTX6, in_Tg (in_t2 (List.mem_of_getElem? (i := 1) (by decide +kernel))) rfl, tyX6_ok, nmX6, rfl, by decide +kernel⟩
theorem kfX11_360 : FldOK RX11 360 2 2 := ⟨RX2, TX2, 3, rfl, by decide, iTX2, in_Tg (in_t2 (List.mem_of_getElem? (i := 20) (by decide +kernel))) rfl⟩
theorem kpX11_360 : PutOK RX11 360 2 2 .int := ⟨RX2, TX2, 3, tyX2, rfl, by decide, iTX2, in_Tg (in_t2 (List.mem_of_getElem? (i := 20) (by decide +kernel))) rfl, tyX2_ok, nmX2, rfl, by decide +kernel⟩
theorem kfX11_400 : FldOK RX11 400 1 6 := ⟨RX1, TX1, 10, rfl, by decide, iTX1, in_Tg (in_t1 (List.mem_of_getElem? (i := 54) (by decide +kernel))) rfl⟩
theorem kpX11_400 : PutOK RX11 400 1 6 .int := ⟨RX1, TX1, 10, tyX1, rfl, by decide, iTX1, in_Tg (in_t1 (List.mem_of_getElem? (i := 54) (by decide +kernel))) rfl, tyX1_ok, nmX1, rfl, by decide +kernel⟩
theorem kfX11_403 : FldOK RX11 403 1 7 := ⟨RX1, TX1, 10, rfl, by decide, iTX1, in_Tg (in_t1 (List.mem_of_getElem? (i := 56) (by decide +kernel))) rfl⟩
theorem kpX11_403 : PutOK RX11 403 1 7 .int := ⟨RX1, TX1, 10, tyX1, rfl, by decide, iTX1, in_Tg (in_t1 (List.mem_of_getElem? (i := 56) (by decide +kernel))) rfl, tyX1_ok, nmX1, rfl, by decide +kernel⟩
theorem kfX11_406 : FldOK RX11 406 10 0 := ⟨RX10, TX10, 2, rfl, by decide, iTX10, in_Tg (in_t1 (List.mem_of_getElem? (i := 160) (by decide +kernel))) rfl⟩
theorem kfX0_7 : FldOK RX0 7 0 0 := ⟨RX0, TX0, 1, rfl, by decide, iTX0, in_Tg (in_t2 (List.mem_of_getElem? (i := 34) (by decide +kernel))) rfl⟩
theorem kpX0_7 : PutOK RX0 7 0 0 .int := ⟨RX0, TX0, 1, tyX0, rfl, by decide, iTX0, in_Tg (in_t2 (List.mem_of_getElem? (i := 34) (by decide +kernel))) rfl, tyX0_ok, nmX0, rfl, by decide +kernel⟩
theorem kfX1_9 : FldOK RX1 9 1 0 := ⟨RX1, TX1, 10, rfl, by decide, iTX1, in_Tg (in_t1 (List.mem_of_getElem? (i := 39) (by decide +kernel))) rfl⟩
theorem kpX1_9 : PutOK RX1 9 1 0 .int := ⟨RX1, TX1, 10, tyX1, rfl, by decide, iTX1, in_Tg (in_t1 (List.mem_of_getElem? (i := 39) (by decide +kernel))) rfl, tyX1_ok, nmX1, rfl, by decide +kernel⟩
theorem kfX1_15 : FldOK RX1 15 1 1 := ⟨RX1, TX1, 10, rfl, by decide, iTX1, in_Tg (in_t1 (List.mem_of_getElem? (i := 42) (by decide +kernel))) rfl⟩
theorem kfX1_19 : FldOK RX1 19 1 2 := ⟨RX1, TX1, 10, rfl, by decide, iTX1, in_Tg (in_t1 (List.mem_of_getElem? (i := 44) (by decide +kernel))) rfl⟩
theorem kfX1_22 : FldOK RX1 22 1 3 := ⟨RX1, TX1, 10, rfl, by decide, iTX1, in_Tg (in_t1 (List.mem_of_getElem? (i := 47) (by decide +kernel))) rfl⟩
theorem kfX1_25 : FldOK RX1 25 1 4 := ⟨RX1, TX1, 10, rfl, by decide, iTX1, in_Tg (in_t1 (List.mem_of_getElem? (i := 50) (by decide +kernel))) rfl⟩
theorem kfX1_28 : FldOK RX1 28 1 5 := ⟨RX1, TX1, 10, rfl, by decide, iTX1, in_Tg (in_t1 (List.mem_of_getElem? (i := 52) (by decide +kernel))) rfl⟩
theorem kpX1_28 : PutOK RX1 28 1 5 .int := ⟨RX1, TX1, 10, tyX1, rfl, by decide, iTX1, in_Tg (in_t1 (List.mem_of_getElem? (i := 52) (by decide +kernel))) rfl, tyX1_ok, nmX1, rfl, by decide +kernel⟩
theorem kfX1_31 : FldOK RX1 31 1 6 := ⟨RX1, TX1, 10, rfl, by decide, iTX1, in_Tg (in_t1 (List.mem_of_getElem? (i := 53) (by decide +kernel))) rfl⟩
theorem kpX1_31 : PutOK RX1 31 1 6 .int := ⟨RX1, TX1, 10, tyX1, rfl, by decide, iTX1, in_Tg (in_t1 (List.mem_of_getElem? (i := 53) (by decide +kernel))) rfl, tyX1_ok, nmX1, rfl, by decide +kernel⟩
theorem kfX1_34 : FldOK RX1 34 1 7 := ⟨RX1, TX1, 10, rfl, by decide, iTX1, in_Tg (in_t1 (List.mem_of_getElem? (i := 55) (by decide +kernel))) rfl⟩
theorem kpX1_34 : PutOK RX1 34 1 7 .int := ⟨RX1, TX1, 10, tyX1, rfl, by decide, iTX1, in_Tg (in_t1 (List.mem_of_getElem? (i := 55) (by decide +kernel))) rfl, tyX1_ok, nmX1, rfl, by decide +kernel⟩
theorem kfX1_37 : FldOK RX1 37 1 8 := ⟨RX1, TX1, 10, rfl, by decide, iTX1, in_Tg (in_t1 (List.mem_of_getElem? (i := 57) (by decide +kernel))) rfl⟩
theorem kfX1_42 : FldOK RX1 42 1 9 := ⟨RX1, TX1, 10, rfl, by decide, iTX1, in_Tg (in_t1 (List.mem_of_getElem? (i := 58) (by decide +kernel))) rfl⟩
theorem kfX1_88 : FldOK RX1 88 5 2 := ⟨RX5, TX5, 9, rfl, by decide, iTX5, in_Tg (in_t1 (List.mem_of_getElem? (i := 111) (by decide +kernel))) rfl⟩
theorem kpX1_88 : PutOK RX1 88 5 2 .boolean := ⟨RX5, TX5, 9, tyX5, rfl, by decide, iTX5, in_Tg (in_t1 (List.mem_of_getElem? (i := 111) (by decide +kernel))) rfl, tyX5_ok, nmX5, rfl, by decide +kernel⟩
theorem kfX2_11 : FldOK RX2 11 2 0 := ⟨RX2, TX2, 3, rfl, by decide, iTX2, in_Tg (in_t2 (List.mem_of_getElem? (i := 17) (by decide +kernel))) rfl⟩
theorem kfX2_15 : FldOK RX2 15 2 1 := ⟨RX2, TX2, 3, rfl, by decide, iTX2, in_Tg (in_t2 (List.mem_of_getElem? (i := 18) (by decide +kernel))) rfl⟩
theorem kfX2_18 : FldOK RX2 18 2 2 := ⟨RX2, TX2, 3, rfl, by decide, iTX2, in_Tg (in_t2 (List.mem_of_getElem? (i := 19) (by decide +kernel))) rfl⟩
theorem kpX2_18 : PutOK RX2 18 2 2 .int := ⟨RX2, TX2, 3, tyX2, rfl, by decide, iTX2, in_Tg (in_t2 (List.mem_of_getElem? (i := 19) (by decide +kernel))) rfl, tyX2_ok, nmX2, rfl, by decide +kernel⟩
theorem kfX2_32 : FldOK RX2 32 1 2 := ⟨RX1, TX1, 10, rfl, by decide, iTX1, in_Tg (in_t1 (List.mem_of_getElem? (i := 45) (by decide +kernel))) rfl⟩
theorem kfX2_35 : FldOK RX2 35 1 3 := ⟨RX1, TX1, 10, rfl, by decide, iTX1, in_Tg (in_t1 (List.mem_of_getElem? (i := 48) (by decide +kernel))) rfl⟩
theorem kfX2_46 : FldOK RX2 46 1 0 := ⟨RX1, TX1, 10, rfl, by decide, iTX1, in_Tg (in_t1 (List.mem_of_getElem? (i := 41) (by decide +kernel))) rfl⟩
theorem kpX2_46 : PutOK RX2 46 1 0 .int := ⟨RX1, TX1, 10, tyX1, rfl, by decide, iTX1, in_Tg (in_t1 (List.mem_of_getElem? (i := 41) (by decide +kernel))) rfl, tyX1_ok, nmX1, rfl, by decide +kernel⟩
theorem kfX3_11 : FldOK RX3 11 3 0 := ⟨RX3, TX3, 5, rfl, by decide, iTX3, in_Tg (in_t1 (List.mem_of_getElem? (i := 175) (by decide +kernel))) rfl⟩
theorem kfX3_15 : FldOK RX3 15 3 1 := ⟨RX3, TX3, 5, rfl, by decide, iTX3, in_Tg (in_t1 (List.mem_of_getElem? (i := 176) (by decide +kernel))) rfl⟩
theorem kpX3_15 : PutOK RX3 15 3 1 .int := ⟨RX3, TX3, 5, tyX3, rfl, by decide, iTX3, in_Tg (in_t1 (List.mem_of_getElem? (i := 176) (by decide +kernel))) rfl, tyX3_ok, nmX3, rfl, by decide +kernel⟩
theorem kfX3_19 : FldOK RX3 19 3 2 := ⟨RX3, TX3, 5, rfl, by decide, iTX3, in_Tg (in_t1 (List.mem_of_getElem? (i := 177) (by decide +kernel))) rfl⟩
theorem kpX3_19 : PutOK RX3 19 3 2 .int := ⟨RX3, TX3, 5, tyX3, rfl, by decide, iTX3, in_Tg (in_t1 (List.mem_of_getElem? (i := 177) (by decide +kernel))) rfl, tyX3_ok, nmX3, rfl, by decide +kernel⟩
theorem kfX3_22 : FldOK RX3 22 3 3 := ⟨RX3, TX3, 5, rfl, by decide, iTX3, in_Tg (in_t1 (List.mem_of_getElem? (i := 179) (by decide +kernel))) rfl⟩
theorem kfX3_25 : FldOK RX3 25 3 4 := ⟨RX3, TX3, 5, rfl, by decide, iTX3, in_Tg (in_t1 (List.mem_of_getElem? (i := 180) (by decide +kernel))) rfl⟩
theorem kfX4_9 : FldOK RX4 9 4 0 := ⟨RX4, TX4, 2, rfl, by decide, iTX4, in_Tg (in_t1 (List.mem_of_getElem? (i := 93) (by decide +kernel))) rfl⟩
theorem kfX4_15 : FldOK RX4 15 4 1 := ⟨RX4, TX4, 2, rfl, by decide, iTX4, in_Tg (in_t1 (List.mem_of_getElem? (i := 94) (by decide +kernel))) rfl⟩
theorem kpX4_15 : PutOK RX4 15 4 1 .int := ⟨RX4, TX4, 2, tyX4, rfl, by decide, iTX4, in_Tg (in_t1 (List.mem_of_getElem? (i := 94) (by decide +kernel))) rfl, tyX4_ok, nmX4, rfl, by decide +kernel⟩
theorem kfX5_11 : FldOK RX5 11 5 0 := ⟨RX5, TX5, 9, rfl, by decide, iTX5, in_Tg (in_t1 (List.mem_of_getElem? (i := 108) (by decide +kernel))) rfl⟩
theorem kfX5_15 : FldOK RX5 15 5 1 := ⟨RX5, TX5, 9, rfl, by decide, iTX5, in_Tg (in_t1 (List.mem_of_getElem? (i := 109) (by decide +kernel))) rfl⟩
theorem kpX5_15 : PutOK RX5 15 5 1 .int := ⟨RX5, TX5, 9, tyX5, rfl, by decide, iTX5, in_Tg (in_t1 (List.mem_of_getElem? (i := 109) (by decide +kernel))) rfl, tyX5_ok, nmX5, rfl, by decide +kernel⟩
theorem kfX5_19 : FldOK RX5 19 5 2 := ⟨RX5, TX5, 9, rfl, by decide, iTX5, in_Tg (in_t1 (List.mem_of_getElem? (i := 110) (by decide +kernel))) rfl⟩
theorem kpX5_19 : PutOK RX5 19 5 2 .boolean := ⟨RX5, TX5, 9, tyX5, rfl, by decide, iTX5, in_Tg (in_t1 (List.mem_of_getElem? (i := 110) (by decide +kernel))) rfl, tyX5_ok, nmX5, rfl, by decide +kernel⟩
theorem kfX5_23 : FldOK RX5 23 5 3 := ⟨RX5, TX5, 9, rfl, by decide, iTX5, in_Tg (in_t1 (List.mem_of_getElem? (i := 112) (by decide +kernel))) rfl⟩
theorem kfX5_29 : FldOK RX5 29 5 4 := ⟨RX5, TX5, 9, rfl, by decide, iTX5, in_Tg (in_t1 (List.mem_of_getElem? (i := 113) (by decide +kernel))) rfl⟩
theorem kfX5_33 : FldOK RX5 33 5 5 := ⟨RX5, TX5, 9, rfl, by decide, iTX5, in_Tg (in_t1 (List.mem_of_getElem? (i := 114) (by decide +kernel))) rfl⟩
theorem kpX5_33 : PutOK RX5 33 5 5 .boolean := ⟨RX5, TX5, 9, tyX5, rfl, by decide, iTX5, in_Tg (in_t1 (List.mem_of_getElem? (i := 114) (by decide +kernel))) rfl, tyX5_ok, nmX5, rfl, by decide +kernel⟩
theorem kfX5_36 : FldOK RX5 36 5 6 := ⟨RX5, TX5, 9, rfl, by decide, iTX5, in_Tg (in_t1 (List.mem_of_getElem? (i := 115) (by decide +kernel))) rfl⟩
theorem kpX5_36 : PutOK RX5 36 5 6 .int := ⟨RX5, TX5, 9, tyX5, rfl, by decide, iTX5, in_Tg (in_t1 (List.mem_of_getElem? (i := 115) (by decide +kernel))) rfl, tyX5_ok, nmX5, rfl, by decide +kernel⟩
theorem kfX5_39 : FldOK RX5 39 5 7 := ⟨RX5, TX5, 9, rfl, by decide, iTX5, in_Tg (in_t1 (List.mem_of_getElem? (i := 116) (by decide +kernel))) rfl⟩
theorem kpX5_39 : PutOK RX5 39 5 7 .int := ⟨RX5, TX5, 9, tyX5, rfl, by decide, iTX5, in_Tg (in_t1 (List.mem_of_getElem? (i := 116) (by decide +kernel))) rfl, tyX5_ok, nmX5, rfl, by decide +kernel⟩
theorem kfX5_42 : FldOK RX5 42 5 8 := ⟨RX5, TX5, 9, rfl, by decide, iTX5, in_Tg (in_t1 (List.mem_of_getElem? (i := 117) (by decide +kernel))) rfl⟩
theorem kpX5_42 : PutOK RX5 42 5 8 .int := ⟨RX5, TX5, 9, tyX5, rfl, by decide, iTX5, in_Tg (in_t1 (List.mem_of_getElem? (i := 117) (by decide +kernel))) rfl, tyX5_ok, nmX5, rfl, by decide +kernel⟩
theorem kfX5_51 : FldOK RX5 51 9 1 := ⟨RX9, TX9, 2, rfl, by decide, iTX9, in_Tg (in_t1 (List.mem_of_getElem? (i := 146) (by decide +kernel))) rfl⟩
theorem kpX5_51 : PutOK RX5 51 9 1 .int := ⟨RX9, TX9, 2, tyX9, rfl, by decide, iTX9, in_Tg (in_t1 (List.mem_of_getElem? (i := 146) (by decide +kernel))) rfl, tyX9_ok, nmX9, rfl, by decide +kernel⟩
theorem kfX6_9 : FldOK RX6 9 6 0 := ⟨RX6, TX6, 4, rfl, by decide, iTX6, in_Tg (in_t1 (List.mem_of_getElem? (i := 237) (by decide +kernel))) rfl⟩
theorem kfX6_13 : FldOK RX6 13 6 1 := ⟨RX6, TX6, 4, rfl, by decide, iTX6, in_Tg (in_t1 (List.mem_of_getElem? (i := 238) (by decide +kernel))) rfl⟩
theorem kfX6_16 : FldOK RX6 16 6 2 := ⟨RX6, TX6, 4, rfl, by decide, iTX6, in_Tg (in_t1 (List.mem_of_getElem? (i := 239) (by decide +kernel))) rfl⟩
theorem kfX6_19 : FldOK RX6 19 6 3 := ⟨RX6, TX6, 4, rfl, by decide, iTX6, in_Tg (in_t2 (List.mem_of_getElem? (i := 0) (by decide +kernel))) rfl⟩
theorem kpX6_19 : PutOK RX6 19 6 3 .int := ⟨RX6, TX6, 4, tyX6, rfl, by decide, iTX6, in_Tg (in_t2 (List.mem_of_getElem? (i := 0) (by decide +kernel))) rfl, tyX6_ok, nmX6, rfl, by decide +kernel⟩
theorem kfX7_9 : FldOK RX7 9 7 0 := ⟨RX7, TX7, 2, rfl, by decide, iTX7, in_Tg (in_t1 (List.mem_of_getElem? (i := 224) (by decide +kernel))) rfl⟩
theorem kfX7_15 : FldOK RX7 15 7 1 := ⟨RX7, TX7, 2, rfl, by decide, iTX7, in_Tg (in_t1 (List.mem_of_getElem? (i := 225) (by decide +kernel))) rfl⟩
theorem kfX8_9 : FldOK RX8 9 8 0 := ⟨RX8, TX8, 5, rfl, by decide, iTX8, in_Tg (in_t1 (List.mem_of_getElem? (i := 199) (by decide +kernel))) rfl⟩
theorem kfX8_15 : FldOK RX8 15 8 1 := ⟨RX8, TX8, 5, rfl, by decide, iTX8, in_Tg (in_t1 (List.mem_of_getElem? (i := 201) (by decide +kernel))) rfl⟩
theorem kpX8_15 : PutOK RX8 15 8 1 .int := ⟨RX8, TX8, 5, tyX8, rfl, by decide, iTX8, in_Tg (in_t1 (List.mem_of_getElem? (i := 201) (by decide +kernel))) rfl, tyX8_ok, nmX8, rfl, by decide +kernel⟩
theorem kfX8_19 : FldOK RX8 19 8 2 := ⟨RX8, TX8, 5, rfl, by decide, iTX8, in_Tg (in_t1 (List.mem_of_getElem? (i := 202) (by decide +kernel))) rfl⟩
theorem kpX8_19 : PutOK RX8 19 8 2 .int := ⟨RX8, TX8, 5, tyX8, rfl, by decide, iTX8, in_Tg (in_t1 (List.mem_of_getElem? (i := 202) (by decide +kernel))) rfl, tyX8_ok, nmX8, rfl, by decide +kernel⟩
theorem kfX8_22 : FldOK RX8 22 8 3 := ⟨RX8, TX8, 5, rfl, by decide, iTX8, in_Tg (in_t1 (List.mem_of_getElem? (i := 203) (by decide +kernel))) rfl⟩
theorem kpX8_22 : PutOK RX8 22 8 3 .int := ⟨RX8, TX8, 5, tyX8, rfl, by decide, iTX8, in_Tg (in_t1 (List.mem_of_getElem? (i := 203) (by decide +kernel))) rfl, tyX8_ok, nmX8, rfl, by decide +kernel⟩
theorem kfX8_25 : FldOK RX8 25 8 4 := ⟨RX8, TX8, 5, rfl, by decide, iTX8, in_Tg (in_t1 (List.mem_of_getElem? (i := 205) (by decide +kernel))) rfl⟩
theorem kpX8_25 : PutOK RX8 25 8 4 .int := ⟨RX8, TX8, 5, tyX8, rfl, by decide, iTX8, in_Tg (in_t1 (List.mem_of_getElem? (i := 205) (by decide +kernel))) rfl, tyX8_ok, nmX8, rfl, by decide +kernel⟩
theorem kfX9_11 : FldOK RX9 11 9 0 := ⟨RX9, TX9, 2, rfl, by decide, iTX9, in_Tg (in_t1 (List.mem_of_getElem? (i := 143) (by decide +kernel))) rfl⟩
theorem kfX9_15 : FldOK RX9 15 9 1 := ⟨RX9, TX9, 2, rfl, by decide, iTX9, in_Tg (in_t1 (List.mem_of_getElem? (i := 144) (by decide +kernel))) rfl⟩
theorem kpX9_15 : PutOK RX9 15 9 1 .int := ⟨RX9, TX9, 2, tyX9, rfl, by decide, iTX9, in_Tg (in_t1 (List.mem_of_getElem? (i := 144) (by decide +kernel))) rfl, tyX9_ok, nmX9, rfl, by decide +kernel⟩
theorem kfX10_9 : FldOK RX10 9 10 0 := ⟨RX10, TX10, 2, rfl, by decide, iTX10, in_Tg (in_t1 (List.mem_of_getElem? (i := 159) (by decide +kernel))) rfl⟩
theorem kfX10_13 : FldOK RX10 13 10 1 := ⟨RX10, TX10, 2, rfl, by decide, iTX10, in_Tg (in_t1 (List.mem_of_getElem? (i := 161) (by decide +kernel))) rfl⟩
theorem kpX10_13 : PutOK RX10 13 10 1 .int := ⟨RX10, TX10, 2, tyX10, rfl, by decide, iTX10, in_Tg (in_t1 (List.mem_of_getElem? (i := 161) (by decide +kernel))) rfl, tyX10_ok, nmX10, rfl, by decide +kernel⟩
theorem kfX12_3 : FldOK RX12 3 12 0 := ⟨RX12, TX12, 45, rfl, by decide, iTX12, in_Tg (in_t5 (List.mem_of_getElem? (i := 160) (by decide +kernel))) rfl⟩
theorem kpX12_3 : PutOK RX12 3 12 0 .int := ⟨RX12, TX12, 45, tyX12, rfl, by decide, iTX12, in_Tg (in_t5 (List.mem_of_getElem? (i := 160) (by decide +kernel))) rfl, tyX12_ok, nmX12, rfl, by decide +kernel⟩
theorem kfX12_11 : FldOK RX12 11 12 2 := ⟨RX12, TX12, 45, rfl, by decide, iTX12, in_Tg (in_t5 (List.mem_of_getElem? (i := 162) (by decide +kernel))) rfl⟩
theorem kfX12_15 : FldOK RX12 15 12 1 := ⟨RX12, TX12, 45, rfl, by decide, iTX12, in_Tg (in_t5 (List.mem_of_getElem? (i := 161) (by decide +kernel))) rfl⟩
theorem kpX12_15 : PutOK RX12 15 12 1 .int := ⟨RX12, TX12, 45, tyX12, rfl, by decide, iTX12, in_Tg (in_t5 (List.mem_of_getElem? (i := 161) (by decide +kernel))) rfl, tyX12_ok, nmX12, rfl, by decide +kernel⟩
theorem kfX12_28 : FldOK RX12 28 12 5 := ⟨RX12, TX12, 45, rfl, by decide, iTX12, in_Tg (in_t5 (List.mem_of_getElem? (i := 165) (by decide +kernel))) rfl⟩
theorem kfX12_32 : FldOK RX12 32 12 6 := ⟨RX12, TX12, 45, rfl, by decide, iTX12, in_Tg (in_t5 (List.mem_of_getElem? (i := 166) (by decide +kernel))) rfl⟩
theorem kfX12_35 : FldOK RX12 35 12 7 := ⟨RX12, TX12, 45, rfl, by decide, iTX12, in_Tg (in_t5 (List.mem_of_getElem? (i := 167) (by decide +kernel))) rfl⟩
theorem kfX12_38 : FldOK RX12 38 12 8 := ⟨RX12, TX12, 45, rfl, by decide, iTX12, in_Tg (in_t5 (List.mem_of_getElem? (i := 168) (by decide +kernel))) rfl⟩
theorem kfX12_41 : FldOK RX12 41 12 14 := ⟨RX12, TX12, 45, rfl, by decide, iTX12, in_Tg (in_t5 (List.mem_of_getElem? (i := 174) (by decide +kernel))) rfl⟩
theorem kfX12_44 : FldOK RX12 44 12 15 := ⟨RX12, TX12, 45, rfl, by decide, iTX12, in_Tg (in_t5 (List.mem_of_getElem? (i := 175) (by decide +kernel))) rfl⟩
theorem kfX12_47 : FldOK RX12 47 12 17 := ⟨RX12, TX12, 45, rfl, by decide, iTX12, in_Tg (in_t5 (List.mem_of_getElem? (i := 177) (by decide +kernel))) rfl⟩
theorem kfX12_50 : FldOK RX12 50 12 18 := ⟨RX12, TX12, 45, rfl, by decide, iTX12, in_Tg (in_t5 (List.mem_of_getElem? (i := 178) (by decide +kernel))) rfl⟩
theorem kfX12_53 : FldOK RX12 53 12 21 := ⟨RX12, TX12, 45, rfl, by decide, iTX12, in_Tg (in_t5 (List.mem_of_getElem? (i := 181) (by decide +kernel))) rfl⟩
theorem kfX12_56 : FldOK RX12 56 12 22 := ⟨RX12, TX12, 45, rfl, by decide, iTX12, in_Tg (in_t5 (List.mem_of_getElem? (i := 182) (by decide +kernel))) rfl⟩
theorem kfX12_59 : FldOK RX12 59 12 24 := ⟨RX12, TX12, 45, rfl, by decide, iTX12, in_Tg (in_t5 (List.mem_of_getElem? (i := 184) (by decide +kernel))) rfl⟩
theorem kfX12_62 : FldOK RX12 62 12 25 := ⟨RX12, TX12, 45, rfl, by decide, iTX12, in_Tg (in_t5 (List.mem_of_getElem? (i := 185) (by decide +kernel))) rfl⟩
theorem kfX12_65 : FldOK RX12 65 12 26 := ⟨RX12, TX12, 45, rfl, by decide, iTX12, in_Tg (in_t5 (List.mem_of_getElem? (i := 186) (by decide +kernel))) rfl⟩
theorem kfX12_68 : FldOK RX12 68 12 27 := ⟨RX12, TX12, 45, rfl, by decide, iTX12, in_Tg (in_t5 (List.mem_of_getElem? (i := 187) (by decide +kernel))) rfl⟩
theorem kfX12_71 : FldOK RX12 71 12 28 := ⟨RX12, TX12, 45, rfl, by decide, iTX12, in_Tg (in_t5 (List.mem_of_getElem? (i := 188) (by decide +kernel))) rfl⟩
theorem kfX12_74 : FldOK RX12 74 12 30 := ⟨RX12, TX12, 45, rfl, by decide, iTX12, in_Tg (in_t5 (List.mem_of_getElem? (i := 190) (by decide +kernel))) rfl⟩
theorem kfX12_77 : FldOK RX12 77 12 32 := ⟨RX12, TX12, 45, rfl, by decide, iTX12, in_Tg (in_t5 (List.mem_of_getElem? (i := 192) (by decide +kernel))) rfl⟩
theorem kfX12_80 : FldOK RX12 80 12 33 := ⟨RX12, TX12, 45, rfl, by decide, iTX12, in_Tg (in_t5 (List.mem_of_getElem? (i := 193) (by decide +kernel))) rfl⟩
theorem kfX12_83 : FldOK RX12 83 12 34 := ⟨RX12, TX12, 45, rfl, by decide, iTX12, in_Tg (in_t5 (List.mem_of_getElem? (i := 194) (by decide +kernel))) rfl⟩
theorem kfX12_86 : FldOK RX12 86 12 35 := ⟨RX12, TX12, 45, rfl, by decide, iTX12, in_Tg (in_t5 (List.mem_of_getElem? (i := 195) (by decide +kernel))) rfl⟩
theorem kfX12_89 : FldOK RX12 89 12 37 := ⟨RX12, TX12, 45, rfl, by decide, iTX12, in_Tg (in_t5 (List.mem_of_getElem? (i := 197) (by decide +kernel))) rfl⟩
theorem kfX12_92 : FldOK RX12 92 12 38 := ⟨RX12, TX12, 45, rfl, by decide, iTX12, in_Tg (in_t5 (List.mem_of_getElem? (i := 198) (by decide +kernel))) rfl⟩
theorem kfX12_95 : FldOK RX12 95 12 39 := ⟨RX12, TX12, 45, rfl, by decide, iTX12, in_Tg (in_t5 (List.mem_of_getElem? (i := 199) (by decide +kernel))) rfl⟩
theorem kfX12_98 : FldOK RX12 98 12 40 := ⟨RX12, TX12, 45, rfl, by decide, iTX12, in_Tg (in_t5 (List.mem_of_getElem? (i := 200) (by decide +kernel))) rfl⟩
theorem kfX12_101 : FldOK RX12 101 12 42 := ⟨RX12, TX12, 45, rfl, by decide, iTX12, in_Tg (in_t5 (List.mem_of_getElem? (i := 202) (by decide +kernel))) rfl⟩
theorem kfX12_105 : FldOK RX12 105 12 43 := ⟨RX12, TX12, 45, rfl, by decide, iTX12, in_Tg (in_t5 (List.mem_of_getElem? (i := 203) (by decide +kernel))) rfl⟩
theorem kfX12_108 : FldOK RX12 108 12 44 := ⟨RX12, TX12, 45, rfl, by decide, iTX12, in_Tg (in_t5 (List.mem_of_getElem? (i := 204) (by decide +kernel))) rfl⟩
theorem kfX12_111 : FldOK RX12 111 12 3 := ⟨RX12, TX12, 45, rfl, by decide, iTX12, in_Tg (in_t5 (List.mem_of_getElem? (i := 163) (by decide +kernel))) rfl⟩
theorem kpX12_111 : PutOK RX12 111 12 3 .int := ⟨RX12, TX12, 45, tyX12, rfl, by decide, iTX12, in_Tg (in_t5 (List.mem_of_getElem? (i := 163) (by decide +kernel))) rfl, tyX12_ok, nmX12, rfl, by decide +kernel⟩
theorem kfX12_141 : FldOK RX12 141 12 9 := ⟨RX12, TX12, 45, rfl, by decide, iTX12, in_Tg (in_t5 (List.mem_of_getElem? (i := 169) (by decide +kernel))) rfl⟩
theorem kpX12_141 : PutOK RX12 141 12 9 .int := ⟨RX12, TX12, 45, tyX12, rfl, by decide, iTX12, in_Tg (in_t5 (List.mem_of_getElem? (i := 169) (by decide +kernel))) rfl, tyX12_ok, nmX12, rfl, by decide +kernel⟩
theorem kfX12_144 : FldOK RX12 144 12 10 := ⟨RX12, TX12, 45, rfl, by decide, iTX12, in_Tg (in_t5 (List.mem_of_getElem? (i := 170) (by decide +kernel))) rfl⟩
theorem kpX12_144 : PutOK RX12 144 12 10 .int := ⟨RX12, TX12, 45, tyX12, rfl, by decide, iTX12, in_Tg (in_t5 (List.mem_of_getElem? (i := 170) (by decide +kernel))) rfl, tyX12_ok, nmX12, rfl, by decide +kernel⟩
theorem kfX12_147 : FldOK RX12 147 12 12 := ⟨RX12, TX12, 45, rfl, by decide, iTX12, in_Tg (in_t5 (List.mem_of_getElem? (i := 172) (by decide +kernel))) rfl⟩
theorem kpX12_147 : PutOK RX12 147 12 12 .int := ⟨RX12, TX12, 45, tyX12, rfl, by decide, iTX12, in_Tg (in_t5 (List.mem_of_getElem? (i := 172) (by decide +kernel))) rfl, tyX12_ok, nmX12, rfl, by decide +kernel⟩
theorem kfX12_156 : FldOK RX12 156 12 11 := ⟨RX12, TX12, 45, rfl, by decide, iTX12, in_Tg (in_t5 (List.mem_of_getElem? (i := 171) (by decide +kernel))) rfl⟩
theorem kpX12_156 : PutOK RX12 156 12 11 .int := ⟨RX12, TX12, 45, tyX12, rfl, by decide, iTX12, in_Tg (in_t5 (List.mem_of_getElem? (i := 171) (by decide +kernel))) rfl, tyX12_ok, nmX12, rfl, by decide +kernel⟩
theorem kfX12_184 : FldOK RX12 184 12 13 := ⟨RX12, TX12, 45, rfl, by decide, iTX12, in_Tg (in_t5 (List.mem_of_getElem? (i := 173) (by decide +kernel))) rfl⟩
theorem kpX12_184 : PutOK RX12 184 12 13 .int := ⟨RX12, TX12, 45, tyX12, rfl, by decide, iTX12, in_Tg (in_t5 (List.mem_of_getElem? (i := 173) (by decide +kernel))) rfl, tyX12_ok, nmX12, rfl, by decide +kernel⟩
theorem kfX12_187 : FldOK RX12 187 12 16 := ⟨RX12, TX12, 45, rfl, by decide, iTX12, in_Tg (in_t5 (List.mem_of_getElem? (i := 176) (by decide +kernel))) rfl⟩
theorem kpX12_187 : PutOK RX12 187 12 16 .int := ⟨RX12, TX12, 45, tyX12, rfl, by decide, iTX12, in_Tg (in_t5 (List.mem_of_getElem? (i := 176) (by decide +kernel))) rfl, tyX12_ok, nmX12, rfl, by decide +kernel⟩
theorem kfX12_213 : FldOK RX12 213 12 23 := ⟨RX12, TX12, 45, rfl, by decide, iTX12, in_Tg (in_t5 (List.mem_of_getElem? (i := 183) (by decide +kernel))) rfl⟩
theorem kpX12_213 : PutOK RX12 213 12 23 .int := ⟨RX12, TX12, 45, tyX12, rfl, by decide, iTX12, in_Tg (in_t5 (List.mem_of_getElem? (i := 183) (by decide +kernel))) rfl, tyX12_ok, nmX12, rfl, by decide +kernel⟩
theorem kfX12_216 : FldOK RX12 216 12 4 := ⟨RX12, TX12, 45, rfl, by decide, iTX12, in_Tg (in_t5 (List.mem_of_getElem? (i := 164) (by decide +kernel))) rfl⟩
theorem kpX12_216 : PutOK RX12 216 12 4 .int := ⟨RX12, TX12, 45, tyX12, rfl, by decide, iTX12, in_Tg (in_t5 (List.mem_of_getElem? (i := 164) (by decide +kernel))) rfl, tyX12_ok, nmX12, rfl, by decide +kernel⟩
theorem kfX12_219 : FldOK RX12 219 12 20 := ⟨RX12, TX12, 45, rfl, by decide, iTX12, in_Tg (in_t5 (List.mem_of_getElem? (i := 180) (by decide +kernel))) rfl⟩
theorem kpX12_219 : PutOK RX12 219 12 20 .int := ⟨RX12, TX12, 45, tyX12, rfl, by decide, iTX12, in_Tg (in_t5 (List.mem_of_getElem? (i := 180) (by decide +kernel))) rfl, tyX12_ok, nmX12, rfl, by decide +kernel⟩
theorem kfX12_240 : FldOK RX12 240 12 19 := ⟨RX12, TX12, 45, rfl, by decide, iTX12, in_Tg (in_t5 (List.mem_of_getElem? (i := 179) (by decide +kernel))) rfl⟩
theorem kpX12_240 : PutOK RX12 240 12 19 .int := ⟨RX12, TX12, 45, tyX12, rfl, by decide, iTX12, in_Tg (in_t5 (List.mem_of_getElem? (i := 179) (by decide +kernel))) rfl, tyX12_ok, nmX12, rfl, by decide +kernel⟩
theorem kfX12_330 : FldOK RX12 330 12 29 := ⟨RX12, TX12, 45, rfl, by decide, iTX12, in_Tg (in_t5 (List.mem_of_getElem? (i := 189) (by decide +kernel))) rfl⟩
theorem kpX12_330 : PutOK RX12 330 12 29 .int := ⟨RX12, TX12, 45, tyX12, rfl, by decide, iTX12, in_Tg (in_t5 (List.mem_of_getElem? (i := 189) (by decide +kernel))) rfl, tyX12_ok, nmX12, rfl, by decide +kernel⟩
theorem kfX12_391 : FldOK RX12 391 12 31 := ⟨RX12, TX12, 45, rfl, by decide, iTX12, in_Tg (in_t5 (List.mem_of_getElem? (i := 191) (by decide +kernel))) rfl⟩
theorem kpX12_391 : PutOK RX12 391 12 31 .int := ⟨RX12, TX12, 45, tyX12, rfl, by decide, iTX12, in_Tg (in_t5 (List.mem_of_getElem? (i := 191) (by decide +kernel))) rfl, tyX12_ok, nmX12, rfl, by decide +kernel⟩
theorem kfX12_418 : FldOK RX12 418 12 36 := ⟨RX12, TX12, 45, rfl, by decide, iTX12, in_Tg (in_t5 (List.mem_of_getElem? (i := 196) (by decide +kernel))) rfl⟩
theorem kpX12_418 : PutOK RX12 418 12 36 .int := ⟨RX12, TX12, 45, tyX12, rfl, by decide, iTX12, in_Tg (in_t5 (List.mem_of_getElem? (i := 196) (by decide +kernel))) rfl, tyX12_ok, nmX12, rfl, by decide +kernel⟩
theorem kfX12_438 : FldOK RX12 438 12 41 := ⟨RX12, TX12, 45, rfl, by decide, iTX12, in_Tg (in_t5 (List.mem_of_getElem? (i := 201) (by decide +kernel))) rfl⟩
theorem kpX12_438 : PutOK RX12 438 12 41 .int := ⟨RX12, TX12, 45, tyX12, rfl, by decide, iTX12, in_Tg (in_t5 (List.mem_of_getElem? (i := 201) (by decide +kernel))) rfl, tyX12_ok, nmX12, rfl, by decide +kernel⟩
