/-! facts of the tables: fields, methods, constants, by their pool entries -/
set_option maxRecDepth 20000 in
theorem us_X1 : ∀ w ∈ u_ws RX1 TX1 7, w ∈ lw_g := fun w h => List.mem_filter.mpr ⟨(goodIn_r (big := lw_tbl) (u_ws RX1 TX1 7) [481, 483, 485, 487, 489, 491, 493] (by decide +kernel) (by decide +kernel) w h).1, List.all_eq_true.mp (show (u_ws RX1 TX1 7).all goodWord = true by decide +kernel) w h⟩
set_option maxRecDepth 20000 in
theorem us_X2 : ∀ w ∈ u_ws RX2 TX2 10, w ∈ lw_g := fun w h => List.mem_filter.mpr ⟨(goodIn_r (big := lw_tbl) (u_ws RX2 TX2 10) [265, 267, 269, 271, 273, 275, 277, 279, 281, 283] (by decide +kernel) (by decide +kernel) w h).1, List.all_eq_true.mp (show (u_ws RX2 TX2 10).all goodWord = true by decide +kernel) w h⟩
set_option maxRecDepth 20000 in
theorem us_X3 : ∀ w ∈ u_ws RX3 TX3 5, w ∈ lw_g := fun w h => List.mem_filter.mpr ⟨(goodIn_r (big := lw_tbl) (u_ws RX3 TX3 5) [320, 322, 324, 326, 328] (by decide +kernel) (by decide +kernel) w h).1, List.all_eq_true.mp (show (u_ws RX3 TX3 5).all goodWord = true by decide +kernel) w h⟩
set_option maxRecDepth 20000 in
theorem us_X4 : ∀ w ∈ u_ws RX4 TX4 5, w ∈ lw_g := fun w h => List.mem_filter.mpr ⟨(goodIn_r (big := lw_tbl) (u_ws RX4 TX4 5) [201, 203, 205, 207, 209] (by decide +kernel) (by decide +kernel) w h).1, List.all_eq_true.mp (show (u_ws RX4 TX4 5).all goodWord = true by decide +kernel) w h⟩
set_option maxRecDepth 20000 in
theorem us_X5 : ∀ w ∈ u_ws RX5 TX5 3, w ∈ lw_g := fun w h => List.mem_filter.mpr ⟨(goodIn_r (big := lw_tbl) (u_ws RX5 TX5 3) [300, 302, 304] (by decide +kernel) (by decide +kernel) w h).1, List.all_eq_true.mp (show (u_ws RX5 TX5 3).all goodWord = true by decide +kernel) w h⟩
set_option maxRecDepth 20000 in
theorem us_X6 : ∀ w ∈ u_ws RX6 TX6 10, w ∈ lw_g := fun w h => List.mem_filter.mpr ⟨(goodIn_r (big := lw_tbl) (u_ws RX6 TX6 10) [446, 448, 450, 452, 454, 456, 458, 460, 462, 464] (by decide +kernel) (by decide +kernel) w h).1, List.all_eq_true.mp (show (u_ws RX6 TX6 10).all goodWord = true by decide +kernel) w h⟩
set_option maxRecDepth 20000 in
theorem us_X7 : ∀ w ∈ u_ws RX7 TX7 3, w ∈ lw_g := fun w h => List.mem_filter.mpr ⟨(goodIn_r (big := lw_tbl) (u_ws RX7 TX7 3) [509, 511, 513] (by decide +kernel) (by decide +kernel) w h).1, List.all_eq_true.mp (show (u_ws RX7 TX7 3).all goodWord = true by decide +kernel) w h⟩
set_option maxRecDepth 20000 in
theorem us_X8 : ∀ w ∈ u_ws RX8 TX8 8, w ∈ lw_g := fun w h => List.mem_filter.mpr ⟨(goodIn_r (big := lw_tbl) (u_ws RX8 TX8 8) [170, 172, 174, 176, 178, 180, 182, 184] (by decide +kernel) (by decide +kernel) w h).1, List.all_eq_true.mp (show (u_ws RX8 TX8 8).all goodWord = true by decide +kernel) w h⟩
set_option maxRecDepth 20000 in
theorem us_X9 : ∀ w ∈ u_ws RX9 TX9 15, w ∈ lw_g := fun w h => List.mem_filter.mpr ⟨(goodIn_r (big := lw_tbl) (u_ws RX9 TX9 15) [383, 385, 387, 389, 391, 393, 395, 397, 399, 401, 403, 405, 407, 409, 411] (by decide +kernel) (by decide +kernel) w h).1, List.all_eq_true.mp (show (u_ws RX9 TX9 15).all goodWord = true by decide +kernel) w h⟩
set_option maxRecDepth 20000 in
theorem us_X11 : ∀ w ∈ u_ws RX11 TX11 11, w ∈ lw_g := fun w h => List.mem_filter.mpr ⟨(goodIn_r (big := lw_tbl) (u_ws RX11 TX11 11) [527, 529, 531, 533, 535, 537, 539, 541, 543, 545, 547] (by decide +kernel) (by decide +kernel) w h).1, List.all_eq_true.mp (show (u_ws RX11 TX11 11).all goodWord = true by decide +kernel) w h⟩
set_option maxRecDepth 20000 in
theorem us_X12 : ∀ w ∈ u_ws RX12 TX12 54, w ∈ lw_g := fun w h => List.mem_filter.mpr ⟨(goodIn_r (big := lw_tbl) (u_ws RX12 TX12 54) [1373, 1375, 1377, 1379, 1381, 1383, 1385, 1387, 1389, 1391, 1393, 1395, 1397, 1399, 1401, 1403, 1405, 1407, 1409, 1411, 1413, 1415, 1417, 1419, 1421, 1423, 1425, 1427, 1429, 1431, 1433, 1435, 1437, 1439, 1441, 1443, 1445, 1447, 1449, 1451, 1453, 1455, 1457, 1459, 1461, 1463, 1465, 1467, 1469, 1471, 1473, 1475, 1477, 1479] (by decide +kernel) (by decide +kernel) w h).1, List.all_eq_true.mp (show (u_ws RX12 TX12 54).all goodWord = true by decide +kernel) w h⟩
theorem fl_X1_9 : Cond.fieldLink RX1 9 (TX1 0).1 (TX1 0).2.1 (TX1 0).2.2.1 ∈ lw_g := lw_in 474 (by decide +kernel) rfl
theorem fg_X1_9 : pf_ok RX1 9 0 7 0 := ⟨RX1, TX1, rfl, by decide, fl_X1_9, us_X1⟩
theorem fp_X1_9 : pp_ok RX1 9 0 7 0 (.object "WhistleRoster$Roster") true := ⟨RX1, TX1, tyX1, rfl, by decide, fl_X1_9, us_X1, tyX1_ok, nmX1, rfl, rfl, fun _ => by first | rfl | (rename_i h; cases h)⟩
theorem fl_X1_15 : Cond.fieldLink RX1 15 (TX1 1).1 (TX1 1).2.1 (TX1 1).2.2.1 ∈ lw_g := lw_in 475 (by decide +kernel) rfl
theorem fg_X1_15 : pf_ok RX1 15 0 7 1 := ⟨RX1, TX1, rfl, by decide, fl_X1_15, us_X1⟩
theorem fp_X1_15 : pp_ok RX1 15 0 7 1 (.array .int) true := ⟨RX1, TX1, tyX1, rfl, by decide, fl_X1_15, us_X1, tyX1_ok, nmX1, rfl, rfl, fun _ => by first | rfl | (rename_i h; cases h)⟩
theorem fl_X1_19 : Cond.fieldLink RX1 19 (TX1 2).1 (TX1 2).2.1 (TX1 2).2.2.1 ∈ lw_g := lw_in 476 (by decide +kernel) rfl
theorem fg_X1_19 : pf_ok RX1 19 0 7 2 := ⟨RX1, TX1, rfl, by decide, fl_X1_19, us_X1⟩
theorem fp_X1_19 : pp_ok RX1 19 0 7 2 (.array .int) true := ⟨RX1, TX1, tyX1, rfl, by decide, fl_X1_19, us_X1, tyX1_ok, nmX1, rfl, rfl, fun _ => by first | rfl | (rename_i h; cases h)⟩
theorem fl_X1_22 : Cond.fieldLink RX1 22 (TX1 3).1 (TX1 3).2.1 (TX1 3).2.2.1 ∈ lw_g := lw_in 477 (by decide +kernel) rfl
theorem fg_X1_22 : pf_ok RX1 22 0 7 3 := ⟨RX1, TX1, rfl, by decide, fl_X1_22, us_X1⟩
theorem fp_X1_22 : pp_ok RX1 22 0 7 3 (.array .int) true := ⟨RX1, TX1, tyX1, rfl, by decide, fl_X1_22, us_X1, tyX1_ok, nmX1, rfl, rfl, fun _ => by first | rfl | (rename_i h; cases h)⟩
theorem fl_X1_25 : Cond.fieldLink RX1 25 (TX1 6).1 (TX1 6).2.1 (TX1 6).2.2.1 ∈ lw_g := lw_in 480 (by decide +kernel) rfl
theorem fg_X1_25 : pf_ok RX1 25 0 7 6 := ⟨RX1, TX1, rfl, by decide, fl_X1_25, us_X1⟩
theorem fp_X1_25 : pp_ok RX1 25 0 7 6 (.array .int) true := ⟨RX1, TX1, tyX1, rfl, by decide, fl_X1_25, us_X1, tyX1_ok, nmX1, rfl, rfl, fun _ => by first | rfl | (rename_i h; cases h)⟩
theorem fl_X1_53 : Cond.fieldLink RX1 53 (TX1 5).1 (TX1 5).2.1 (TX1 5).2.2.1 ∈ lw_g := lw_in 479 (by decide +kernel) rfl
theorem fg_X1_53 : pf_ok RX1 53 0 7 5 := ⟨RX1, TX1, rfl, by decide, fl_X1_53, us_X1⟩
theorem fp_X1_53 : pp_ok RX1 53 0 7 5 (.boolean) false := ⟨RX1, TX1, tyX1, rfl, by decide, fl_X1_53, us_X1, tyX1_ok, nmX1, rfl, rfl, fun h => by cases h⟩
theorem fl_X1_61 : Cond.fieldLink RX1 61 (TX1 4).1 (TX1 4).2.1 (TX1 4).2.2.1 ∈ lw_g := lw_in 478 (by decide +kernel) rfl
theorem fg_X1_61 : pf_ok RX1 61 0 7 4 := ⟨RX1, TX1, rfl, by decide, fl_X1_61, us_X1⟩
theorem fp_X1_61 : pp_ok RX1 61 0 7 4 (.int) false := ⟨RX1, TX1, tyX1, rfl, by decide, fl_X1_61, us_X1, tyX1_ok, nmX1, rfl, rfl, fun h => by cases h⟩
theorem fl_X1_65 : Cond.fieldLink RX1 65 (TX6 0).1 (TX6 0).2.1 (TX6 0).2.2.1 ∈ lw_g := lw_in 426 (by decide +kernel) rfl
theorem fg_X1_65 : pf_ok RX1 65 5 10 0 := ⟨RX6, TX6, rfl, by decide, fl_X1_65, us_X6⟩
theorem fl_X1_69 : Cond.fieldLink RX1 69 (TX9 6).1 (TX9 6).2.1 (TX9 6).2.2.1 ∈ lw_g := lw_in 353 (by decide +kernel) rfl
theorem fg_X1_69 : pf_ok RX1 69 8 15 6 := ⟨RX9, TX9, rfl, by decide, fl_X1_69, us_X9⟩
theorem fl_X1_75 : Cond.fieldLink RX1 75 (TX2 7).1 (TX2 7).2.1 (TX2 7).2.2.1 ∈ lw_g := lw_in 254 (by decide +kernel) rfl
theorem fg_X1_75 : pf_ok RX1 75 1 10 7 := ⟨RX2, TX2, rfl, by decide, fl_X1_75, us_X2⟩
theorem fl_X1_80 : Cond.fieldLink RX1 80 (TX6 2).1 (TX6 2).2.1 (TX6 2).2.2.1 ∈ lw_g := lw_in 430 (by decide +kernel) rfl
theorem fg_X1_80 : pf_ok RX1 80 5 10 2 := ⟨RX6, TX6, rfl, by decide, fl_X1_80, us_X6⟩
theorem fl_X1_103 : Cond.fieldLink RX1 103 (TX9 7).1 (TX9 7).2.1 (TX9 7).2.2.1 ∈ lw_g := lw_in 359 (by decide +kernel) rfl
theorem fg_X1_103 : pf_ok RX1 103 8 15 7 := ⟨RX9, TX9, rfl, by decide, fl_X1_103, us_X9⟩
theorem fl_X1_132 : Cond.fieldLink RX1 132 (TX6 7).1 (TX6 7).2.1 (TX6 7).2.2.1 ∈ lw_g := lw_in 442 (by decide +kernel) rfl
theorem fg_X1_132 : pf_ok RX1 132 5 10 7 := ⟨RX6, TX6, rfl, by decide, fl_X1_132, us_X6⟩
theorem fl_X1_150 : Cond.fieldLink RX1 150 (TX2 3).1 (TX2 3).2.1 (TX2 3).2.2.1 ∈ lw_g := lw_in 241 (by decide +kernel) rfl
theorem fg_X1_150 : pf_ok RX1 150 1 10 3 := ⟨RX2, TX2, rfl, by decide, fl_X1_150, us_X2⟩
theorem fl_X11_10 : Cond.fieldLink RX11 10 (TX11 0).1 (TX11 0).2.1 (TX11 0).2.2.1 ∈ lw_g := lw_in 516 (by decide +kernel) rfl
theorem fg_X11_10 : pf_ok RX11 10 9 11 0 := ⟨RX11, TX11, rfl, by decide, fl_X11_10, us_X11⟩
theorem fp_X11_10 : pp_ok RX11 10 9 11 0 (.object "WhistleRoster$Tape") true := ⟨RX11, TX11, tyX11, rfl, by decide, fl_X11_10, us_X11, tyX11_ok, nmX11, rfl, rfl, fun _ => by first | rfl | (rename_i h; cases h)⟩
theorem fl_X11_21 : Cond.fieldLink RX11 21 (TX11 1).1 (TX11 1).2.1 (TX11 1).2.2.1 ∈ lw_g := lw_in 517 (by decide +kernel) rfl
theorem fg_X11_21 : pf_ok RX11 21 9 11 1 := ⟨RX11, TX11, rfl, by decide, fl_X11_21, us_X11⟩
theorem fp_X11_21 : pp_ok RX11 21 9 11 1 (.object "WhistleRoster$Reader") true := ⟨RX11, TX11, tyX11, rfl, by decide, fl_X11_21, us_X11, tyX11_ok, nmX11, rfl, rfl, fun _ => by first | rfl | (rename_i h; cases h)⟩
theorem fl_X11_28 : Cond.fieldLink RX11 28 (TX11 2).1 (TX11 2).2.1 (TX11 2).2.2.1 ∈ lw_g := lw_in 518 (by decide +kernel) rfl
theorem fg_X11_28 : pf_ok RX11 28 9 11 2 := ⟨RX11, TX11, rfl, by decide, fl_X11_28, us_X11⟩
theorem fp_X11_28 : pp_ok RX11 28 9 11 2 (.object "WhistleRoster$Week") false := ⟨RX11, TX11, tyX11, rfl, by decide, fl_X11_28, us_X11, tyX11_ok, nmX11, rfl, rfl, fun h => by cases h⟩
theorem fl_X11_32 : Cond.fieldLink RX11 32 (TX11 3).1 (TX11 3).2.1 (TX11 3).2.2.1 ∈ lw_g := lw_in 519 (by decide +kernel) rfl
theorem fg_X11_32 : pf_ok RX11 32 9 11 3 := ⟨RX11, TX11, rfl, by decide, fl_X11_32, us_X11⟩
theorem fp_X11_32 : pp_ok RX11 32 9 11 3 (.object "WhistleRoster$Week") false := ⟨RX11, TX11, tyX11, rfl, by decide, fl_X11_32, us_X11, tyX11_ok, nmX11, rfl, rfl, fun h => by cases h⟩
theorem fl_X11_40 : Cond.fieldLink RX11 40 (TX11 4).1 (TX11 4).2.1 (TX11 4).2.2.1 ∈ lw_g := lw_in 520 (by decide +kernel) rfl
theorem fg_X11_40 : pf_ok RX11 40 9 11 4 := ⟨RX11, TX11, rfl, by decide, fl_X11_40, us_X11⟩
theorem fp_X11_40 : pp_ok RX11 40 9 11 4 (.object "WhistleRoster$Roster") true := ⟨RX11, TX11, tyX11, rfl, by decide, fl_X11_40, us_X11, tyX11_ok, nmX11, rfl, rfl, fun _ => by first | rfl | (rename_i h; cases h)⟩
theorem fl_X11_44 : Cond.fieldLink RX11 44 (TX11 5).1 (TX11 5).2.1 (TX11 5).2.2.1 ∈ lw_g := lw_in 521 (by decide +kernel) rfl
theorem fg_X11_44 : pf_ok RX11 44 9 11 5 := ⟨RX11, TX11, rfl, by decide, fl_X11_44, us_X11⟩
theorem fp_X11_44 : pp_ok RX11 44 9 11 5 (.object "WhistleRoster$Roster") true := ⟨RX11, TX11, tyX11, rfl, by decide, fl_X11_44, us_X11, tyX11_ok, nmX11, rfl, rfl, fun _ => by first | rfl | (rename_i h; cases h)⟩
theorem fl_X11_52 : Cond.fieldLink RX11 52 (TX11 6).1 (TX11 6).2.1 (TX11 6).2.2.1 ∈ lw_g := lw_in 522 (by decide +kernel) rfl
theorem fg_X11_52 : pf_ok RX11 52 9 11 6 := ⟨RX11, TX11, rfl, by decide, fl_X11_52, us_X11⟩
theorem fp_X11_52 : pp_ok RX11 52 9 11 6 (.object "WhistleRoster$Desk") true := ⟨RX11, TX11, tyX11, rfl, by decide, fl_X11_52, us_X11, tyX11_ok, nmX11, rfl, rfl, fun _ => by first | rfl | (rename_i h; cases h)⟩
theorem fl_X11_56 : Cond.fieldLink RX11 56 (TX11 7).1 (TX11 7).2.1 (TX11 7).2.2.1 ∈ lw_g := lw_in 523 (by decide +kernel) rfl
theorem fg_X11_56 : pf_ok RX11 56 9 11 7 := ⟨RX11, TX11, rfl, by decide, fl_X11_56, us_X11⟩
theorem fp_X11_56 : pp_ok RX11 56 9 11 7 (.array (.object "WhistleRoster$Roster")) true := ⟨RX11, TX11, tyX11, rfl, by decide, fl_X11_56, us_X11, tyX11_ok, nmX11, rfl, rfl, fun _ => by first | rfl | (rename_i h; cases h)⟩
theorem fl_X11_63 : Cond.fieldLink RX11 63 (TX11 10).1 (TX11 10).2.1 (TX11 10).2.2.1 ∈ lw_g := lw_in 526 (by decide +kernel) rfl
theorem fg_X11_63 : pf_ok RX11 63 9 11 10 := ⟨RX11, TX11, rfl, by decide, fl_X11_63, us_X11⟩
theorem fp_X11_63 : pp_ok RX11 63 9 11 10 (.array (.object "WhistleRoster$Shelf")) true := ⟨RX11, TX11, tyX11, rfl, by decide, fl_X11_63, us_X11, tyX11_ok, nmX11, rfl, rfl, fun _ => by first | rfl | (rename_i h; cases h)⟩
theorem fl_X11_67 : Cond.fieldLink RX11 67 (TX8 1).1 (TX8 1).2.1 (TX8 1).2.2.1 ∈ lw_g := lw_in 157 (by decide +kernel) rfl
theorem fg_X11_67 : pf_ok RX11 67 7 8 1 := ⟨RX8, TX8, rfl, by decide, fl_X11_67, us_X8⟩
theorem fp_X11_67 : pp_ok RX11 67 7 8 1 (.int) false := ⟨RX8, TX8, tyX8, rfl, by decide, fl_X11_67, us_X8, tyX8_ok, nmX8, rfl, rfl, fun h => by cases h⟩
theorem fl_X11_82 : Cond.fieldLink RX11 82 (TX11 9).1 (TX11 9).2.1 (TX11 9).2.2.1 ∈ lw_g := lw_in 525 (by decide +kernel) rfl
theorem fg_X11_82 : pf_ok RX11 82 9 11 9 := ⟨RX11, TX11, rfl, by decide, fl_X11_82, us_X11⟩
theorem fp_X11_82 : pp_ok RX11 82 9 11 9 (.int) false := ⟨RX11, TX11, tyX11, rfl, by decide, fl_X11_82, us_X11, tyX11_ok, nmX11, rfl, rfl, fun h => by cases h⟩
theorem fl_X11_85 : Cond.fieldLink RX11 85 (TX9 7).1 (TX9 7).2.1 (TX9 7).2.2.1 ∈ lw_g := lw_in 358 (by decide +kernel) rfl
theorem fg_X11_85 : pf_ok RX11 85 8 15 7 := ⟨RX9, TX9, rfl, by decide, fl_X11_85, us_X9⟩
theorem fl_X11_88 : Cond.fieldLink RX11 88 (TX4 2).1 (TX4 2).2.1 (TX4 2).2.2.1 ∈ lw_g := lw_in 197 (by decide +kernel) rfl
theorem fg_X11_88 : pf_ok RX11 88 3 5 2 := ⟨RX4, TX4, rfl, by decide, fl_X11_88, us_X4⟩
theorem fl_X11_91 : Cond.fieldLink RX11 91 (TX4 3).1 (TX4 3).2.1 (TX4 3).2.2.1 ∈ lw_g := lw_in 199 (by decide +kernel) rfl
theorem fg_X11_91 : pf_ok RX11 91 3 5 3 := ⟨RX4, TX4, rfl, by decide, fl_X11_91, us_X4⟩
theorem fl_X11_94 : Cond.fieldLink RX11 94 (TX9 1).1 (TX9 1).2.1 (TX9 1).2.2.1 ∈ lw_g := lw_in 336 (by decide +kernel) rfl
theorem fg_X11_94 : pf_ok RX11 94 8 15 1 := ⟨RX9, TX9, rfl, by decide, fl_X11_94, us_X9⟩
theorem fl_X11_98 : Cond.fieldLink RX11 98 (TX9 8).1 (TX9 8).2.1 (TX9 8).2.2.1 ∈ lw_g := lw_in 363 (by decide +kernel) rfl
theorem fg_X11_98 : pf_ok RX11 98 8 15 8 := ⟨RX9, TX9, rfl, by decide, fl_X11_98, us_X9⟩
theorem fl_X11_101 : Cond.fieldLink RX11 101 (TX9 9).1 (TX9 9).2.1 (TX9 9).2.2.1 ∈ lw_g := lw_in 367 (by decide +kernel) rfl
theorem fg_X11_101 : pf_ok RX11 101 8 15 9 := ⟨RX9, TX9, rfl, by decide, fl_X11_101, us_X9⟩
theorem fl_X11_104 : Cond.fieldLink RX11 104 (TX6 1).1 (TX6 1).2.1 (TX6 1).2.2.1 ∈ lw_g := lw_in 428 (by decide +kernel) rfl
theorem fg_X11_104 : pf_ok RX11 104 5 10 1 := ⟨RX6, TX6, rfl, by decide, fl_X11_104, us_X6⟩
theorem fp_X11_104 : pp_ok RX11 104 5 10 1 (.int) false := ⟨RX6, TX6, tyX6, rfl, by decide, fl_X11_104, us_X6, tyX6_ok, nmX6, rfl, rfl, fun h => by cases h⟩
theorem fl_X11_118 : Cond.fieldLink RX11 118 (TX9 0).1 (TX9 0).2.1 (TX9 0).2.2.1 ∈ lw_g := lw_in 333 (by decide +kernel) rfl
theorem fg_X11_118 : pf_ok RX11 118 8 15 0 := ⟨RX9, TX9, rfl, by decide, fl_X11_118, us_X9⟩
theorem fl_X11_126 : Cond.fieldLink RX11 126 (TX6 4).1 (TX6 4).2.1 (TX6 4).2.2.1 ∈ lw_g := lw_in 435 (by decide +kernel) rfl
theorem fg_X11_126 : pf_ok RX11 126 5 10 4 := ⟨RX6, TX6, rfl, by decide, fl_X11_126, us_X6⟩
theorem fl_X11_129 : Cond.fieldLink RX11 129 (TX9 3).1 (TX9 3).2.1 (TX9 3).2.2.1 ∈ lw_g := lw_in 342 (by decide +kernel) rfl
theorem fg_X11_129 : pf_ok RX11 129 8 15 3 := ⟨RX9, TX9, rfl, by decide, fl_X11_129, us_X9⟩
theorem fl_X11_132 : Cond.fieldLink RX11 132 (TX9 4).1 (TX9 4).2.1 (TX9 4).2.2.1 ∈ lw_g := lw_in 346 (by decide +kernel) rfl
theorem fg_X11_132 : pf_ok RX11 132 8 15 4 := ⟨RX9, TX9, rfl, by decide, fl_X11_132, us_X9⟩
theorem fl_X11_135 : Cond.fieldLink RX11 135 (TX9 5).1 (TX9 5).2.1 (TX9 5).2.2.1 ∈ lw_g := lw_in 350 (by decide +kernel) rfl
theorem fg_X11_135 : pf_ok RX11 135 8 15 5 := ⟨RX9, TX9, rfl, by decide, fl_X11_135, us_X9⟩
theorem fl_X11_138 : Cond.fieldLink RX11 138 (TX6 6).1 (TX6 6).2.1 (TX6 6).2.2.1 ∈ lw_g := lw_in 439 (by decide +kernel) rfl
theorem fg_X11_138 : pf_ok RX11 138 5 10 6 := ⟨RX6, TX6, rfl, by decide, fl_X11_138, us_X6⟩
theorem fl_X11_141 : Cond.fieldLink RX11 141 (TX6 5).1 (TX6 5).2.1 (TX6 5).2.2.1 ∈ lw_g := lw_in 437 (by decide +kernel) rfl
theorem fg_X11_141 : pf_ok RX11 141 5 10 5 := ⟨RX6, TX6, rfl, by decide, fl_X11_141, us_X6⟩
theorem fl_X11_145 : Cond.fieldLink RX11 145 (TX6 7).1 (TX6 7).2.1 (TX6 7).2.2.1 ∈ lw_g := lw_in 441 (by decide +kernel) rfl
theorem fg_X11_145 : pf_ok RX11 145 5 10 7 := ⟨RX6, TX6, rfl, by decide, fl_X11_145, us_X6⟩
theorem fl_X11_161 : Cond.fieldLink RX11 161 (TX9 6).1 (TX9 6).2.1 (TX9 6).2.2.1 ∈ lw_g := lw_in 356 (by decide +kernel) rfl
theorem fg_X11_161 : pf_ok RX11 161 8 15 6 := ⟨RX9, TX9, rfl, by decide, fl_X11_161, us_X9⟩
theorem fl_X11_165 : Cond.fieldLink RX11 165 (TX2 0).1 (TX2 0).2.1 (TX2 0).2.2.1 ∈ lw_g := lw_in 228 (by decide +kernel) rfl
theorem fg_X11_165 : pf_ok RX11 165 1 10 0 := ⟨RX2, TX2, rfl, by decide, fl_X11_165, us_X2⟩
theorem fl_X11_170 : Cond.fieldLink RX11 170 (TX2 1).1 (TX2 1).2.1 (TX2 1).2.2.1 ∈ lw_g := lw_in 231 (by decide +kernel) rfl
theorem fg_X11_170 : pf_ok RX11 170 1 10 1 := ⟨RX2, TX2, rfl, by decide, fl_X11_170, us_X2⟩
theorem fl_X11_173 : Cond.fieldLink RX11 173 (TX2 2).1 (TX2 2).2.1 (TX2 2).2.2.1 ∈ lw_g := lw_in 234 (by decide +kernel) rfl
theorem fg_X11_173 : pf_ok RX11 173 1 10 2 := ⟨RX2, TX2, rfl, by decide, fl_X11_173, us_X2⟩
theorem fl_X11_176 : Cond.fieldLink RX11 176 (TX2 3).1 (TX2 3).2.1 (TX2 3).2.2.1 ∈ lw_g := lw_in 239 (by decide +kernel) rfl
theorem fg_X11_176 : pf_ok RX11 176 1 10 3 := ⟨RX2, TX2, rfl, by decide, fl_X11_176, us_X2⟩
theorem fl_X11_179 : Cond.fieldLink RX11 179 (TX2 4).1 (TX2 4).2.1 (TX2 4).2.2.1 ∈ lw_g := lw_in 244 (by decide +kernel) rfl
theorem fg_X11_179 : pf_ok RX11 179 1 10 4 := ⟨RX2, TX2, rfl, by decide, fl_X11_179, us_X2⟩
theorem fl_X11_182 : Cond.fieldLink RX11 182 (TX2 5).1 (TX2 5).2.1 (TX2 5).2.2.1 ∈ lw_g := lw_in 249 (by decide +kernel) rfl
theorem fg_X11_182 : pf_ok RX11 182 1 10 5 := ⟨RX2, TX2, rfl, by decide, fl_X11_182, us_X2⟩
theorem fl_X11_185 : Cond.fieldLink RX11 185 (TX2 6).1 (TX2 6).2.1 (TX2 6).2.2.1 ∈ lw_g := lw_in 253 (by decide +kernel) rfl
theorem fg_X11_185 : pf_ok RX11 185 1 10 6 := ⟨RX2, TX2, rfl, by decide, fl_X11_185, us_X2⟩
theorem fl_X11_187 : Cond.fieldLink RX11 187 (TX2 7).1 (TX2 7).2.1 (TX2 7).2.2.1 ∈ lw_g := lw_in 256 (by decide +kernel) rfl
theorem fg_X11_187 : pf_ok RX11 187 1 10 7 := ⟨RX2, TX2, rfl, by decide, fl_X11_187, us_X2⟩
theorem fl_X11_202 : Cond.fieldLink RX11 202 (TX6 2).1 (TX6 2).2.1 (TX6 2).2.2.1 ∈ lw_g := lw_in 431 (by decide +kernel) rfl
theorem fg_X11_202 : pf_ok RX11 202 5 10 2 := ⟨RX6, TX6, rfl, by decide, fl_X11_202, us_X6⟩
theorem fl_X11_205 : Cond.fieldLink RX11 205 (TX6 3).1 (TX6 3).2.1 (TX6 3).2.2.1 ∈ lw_g := lw_in 433 (by decide +kernel) rfl
theorem fg_X11_205 : pf_ok RX11 205 5 10 3 := ⟨RX6, TX6, rfl, by decide, fl_X11_205, us_X6⟩
theorem fl_X11_211 : Cond.fieldLink RX11 211 (TX9 10).1 (TX9 10).2.1 (TX9 10).2.2.1 ∈ lw_g := lw_in 373 (by decide +kernel) rfl
theorem fg_X11_211 : pf_ok RX11 211 8 15 10 := ⟨RX9, TX9, rfl, by decide, fl_X11_211, us_X9⟩
theorem fl_X11_215 : Cond.fieldLink RX11 215 (TX5 2).1 (TX5 2).2.1 (TX5 2).2.2.1 ∈ lw_g := lw_in 298 (by decide +kernel) rfl
theorem fg_X11_215 : pf_ok RX11 215 4 3 2 := ⟨RX5, TX5, rfl, by decide, fl_X11_215, us_X5⟩
theorem fl_X11_307 : Cond.fieldLink RX11 307 (TX6 8).1 (TX6 8).2.1 (TX6 8).2.2.1 ∈ lw_g := lw_in 444 (by decide +kernel) rfl
theorem fg_X11_307 : pf_ok RX11 307 5 10 8 := ⟨RX6, TX6, rfl, by decide, fl_X11_307, us_X6⟩
theorem fl_X11_310 : Cond.fieldLink RX11 310 (TX11 8).1 (TX11 8).2.1 (TX11 8).2.2.1 ∈ lw_g := lw_in 524 (by decide +kernel) rfl
theorem fg_X11_310 : pf_ok RX11 310 9 11 8 := ⟨RX11, TX11, rfl, by decide, fl_X11_310, us_X11⟩
theorem fp_X11_310 : pp_ok RX11 310 9 11 8 (.int) false := ⟨RX11, TX11, tyX11, rfl, by decide, fl_X11_310, us_X11, tyX11_ok, nmX11, rfl, rfl, fun h => by cases h⟩
theorem fl_X11_336 : Cond.fieldLink RX11 336 (TX7 2).1 (TX7 2).2.1 (TX7 2).2.2.1 ∈ lw_g := lw_in 508 (by decide +kernel) rfl
theorem fg_X11_336 : pf_ok RX11 336 6 3 2 := ⟨RX7, TX7, rfl, by decide, fl_X11_336, us_X7⟩
theorem fl_X11_340 : Cond.fieldLink RX11 340 (TX7 0).1 (TX7 0).2.1 (TX7 0).2.2.1 ∈ lw_g := lw_in 505 (by decide +kernel) rfl
theorem fg_X11_340 : pf_ok RX11 340 6 3 0 := ⟨RX7, TX7, rfl, by decide, fl_X11_340, us_X7⟩
theorem fl_X12_9 : Cond.fieldLink RX12 9 (TX12 1).1 (TX12 1).2.1 (TX12 1).2.2.1 ∈ lw_g := lw_in 1320 (by decide +kernel) rfl
theorem fg_X12_9 : pf_ok RX12 9 10 54 1 := ⟨RX12, TX12, rfl, by decide, fl_X12_9, us_X12⟩
theorem fp_X12_9 : pp_ok RX12 9 10 54 1 (.array .long) true := ⟨RX12, TX12, tyX12, rfl, by decide, fl_X12_9, us_X12, tyX12_ok, nmX12, rfl, rfl, fun _ => by first | rfl | (rename_i h; cases h)⟩
theorem fl_X12_15 : Cond.fieldLink RX12 15 (TX12 2).1 (TX12 2).2.1 (TX12 2).2.2.1 ∈ lw_g := lw_in 1321 (by decide +kernel) rfl
theorem fg_X12_15 : pf_ok RX12 15 10 54 2 := ⟨RX12, TX12, rfl, by decide, fl_X12_15, us_X12⟩
theorem fp_X12_15 : pp_ok RX12 15 10 54 2 (.array .int) true := ⟨RX12, TX12, tyX12, rfl, by decide, fl_X12_15, us_X12, tyX12_ok, nmX12, rfl, rfl, fun _ => by first | rfl | (rename_i h; cases h)⟩
theorem fl_X12_19 : Cond.fieldLink RX12 19 (TX12 3).1 (TX12 3).2.1 (TX12 3).2.2.1 ∈ lw_g := lw_in 1322 (by decide +kernel) rfl
theorem fg_X12_19 : pf_ok RX12 19 10 54 3 := ⟨RX12, TX12, rfl, by decide, fl_X12_19, us_X12⟩
theorem fp_X12_19 : pp_ok RX12 19 10 54 3 (.array .int) true := ⟨RX12, TX12, tyX12, rfl, by decide, fl_X12_19, us_X12, tyX12_ok, nmX12, rfl, rfl, fun _ => by first | rfl | (rename_i h; cases h)⟩
theorem fl_X12_22 : Cond.fieldLink RX12 22 (TX12 4).1 (TX12 4).2.1 (TX12 4).2.2.1 ∈ lw_g := lw_in 1323 (by decide +kernel) rfl
theorem fg_X12_22 : pf_ok RX12 22 10 54 4 := ⟨RX12, TX12, rfl, by decide, fl_X12_22, us_X12⟩
theorem fp_X12_22 : pp_ok RX12 22 10 54 4 (.array .long) true := ⟨RX12, TX12, tyX12, rfl, by decide, fl_X12_22, us_X12, tyX12_ok, nmX12, rfl, rfl, fun _ => by first | rfl | (rename_i h; cases h)⟩
theorem fl_X12_25 : Cond.fieldLink RX12 25 (TX12 5).1 (TX12 5).2.1 (TX12 5).2.2.1 ∈ lw_g := lw_in 1324 (by decide +kernel) rfl
theorem fg_X12_25 : pf_ok RX12 25 10 54 5 := ⟨RX12, TX12, rfl, by decide, fl_X12_25, us_X12⟩
theorem fp_X12_25 : pp_ok RX12 25 10 54 5 (.array .long) true := ⟨RX12, TX12, tyX12, rfl, by decide, fl_X12_25, us_X12, tyX12_ok, nmX12, rfl, rfl, fun _ => by first | rfl | (rename_i h; cases h)⟩
theorem fl_X12_28 : Cond.fieldLink RX12 28 (TX12 6).1 (TX12 6).2.1 (TX12 6).2.2.1 ∈ lw_g := lw_in 1325 (by decide +kernel) rfl
theorem fg_X12_28 : pf_ok RX12 28 10 54 6 := ⟨RX12, TX12, rfl, by decide, fl_X12_28, us_X12⟩
theorem fp_X12_28 : pp_ok RX12 28 10 54 6 (.array .int) true := ⟨RX12, TX12, tyX12, rfl, by decide, fl_X12_28, us_X12, tyX12_ok, nmX12, rfl, rfl, fun _ => by first | rfl | (rename_i h; cases h)⟩
theorem fl_X12_31 : Cond.fieldLink RX12 31 (TX12 7).1 (TX12 7).2.1 (TX12 7).2.2.1 ∈ lw_g := lw_in 1326 (by decide +kernel) rfl
theorem fg_X12_31 : pf_ok RX12 31 10 54 7 := ⟨RX12, TX12, rfl, by decide, fl_X12_31, us_X12⟩
theorem fp_X12_31 : pp_ok RX12 31 10 54 7 (.array .int) true := ⟨RX12, TX12, tyX12, rfl, by decide, fl_X12_31, us_X12, tyX12_ok, nmX12, rfl, rfl, fun _ => by first | rfl | (rename_i h; cases h)⟩
theorem fl_X12_34 : Cond.fieldLink RX12 34 (TX12 8).1 (TX12 8).2.1 (TX12 8).2.2.1 ∈ lw_g := lw_in 1327 (by decide +kernel) rfl
theorem fg_X12_34 : pf_ok RX12 34 10 54 8 := ⟨RX12, TX12, rfl, by decide, fl_X12_34, us_X12⟩
theorem fp_X12_34 : pp_ok RX12 34 10 54 8 (.array .int) true := ⟨RX12, TX12, tyX12, rfl, by decide, fl_X12_34, us_X12, tyX12_ok, nmX12, rfl, rfl, fun _ => by first | rfl | (rename_i h; cases h)⟩
theorem fl_X12_37 : Cond.fieldLink RX12 37 (TX12 9).1 (TX12 9).2.1 (TX12 9).2.2.1 ∈ lw_g := lw_in 1328 (by decide +kernel) rfl
theorem fg_X12_37 : pf_ok RX12 37 10 54 9 := ⟨RX12, TX12, rfl, by decide, fl_X12_37, us_X12⟩
theorem fp_X12_37 : pp_ok RX12 37 10 54 9 (.array .int) true := ⟨RX12, TX12, tyX12, rfl, by decide, fl_X12_37, us_X12, tyX12_ok, nmX12, rfl, rfl, fun _ => by first | rfl | (rename_i h; cases h)⟩
theorem fl_X12_40 : Cond.fieldLink RX12 40 (TX12 10).1 (TX12 10).2.1 (TX12 10).2.2.1 ∈ lw_g := lw_in 1329 (by decide +kernel) rfl
theorem fg_X12_40 : pf_ok RX12 40 10 54 10 := ⟨RX12, TX12, rfl, by decide, fl_X12_40, us_X12⟩
theorem fp_X12_40 : pp_ok RX12 40 10 54 10 (.array .int) true := ⟨RX12, TX12, tyX12, rfl, by decide, fl_X12_40, us_X12, tyX12_ok, nmX12, rfl, rfl, fun _ => by first | rfl | (rename_i h; cases h)⟩
theorem fl_X12_43 : Cond.fieldLink RX12 43 (TX12 11).1 (TX12 11).2.1 (TX12 11).2.2.1 ∈ lw_g := lw_in 1330 (by decide +kernel) rfl
theorem fg_X12_43 : pf_ok RX12 43 10 54 11 := ⟨RX12, TX12, rfl, by decide, fl_X12_43, us_X12⟩
theorem fp_X12_43 : pp_ok RX12 43 10 54 11 (.array .int) true := ⟨RX12, TX12, tyX12, rfl, by decide, fl_X12_43, us_X12, tyX12_ok, nmX12, rfl, rfl, fun _ => by first | rfl | (rename_i h; cases h)⟩
theorem fl_X12_46 : Cond.fieldLink RX12 46 (TX12 12).1 (TX12 12).2.1 (TX12 12).2.2.1 ∈ lw_g := lw_in 1331 (by decide +kernel) rfl
theorem fg_X12_46 : pf_ok RX12 46 10 54 12 := ⟨RX12, TX12, rfl, by decide, fl_X12_46, us_X12⟩
theorem fp_X12_46 : pp_ok RX12 46 10 54 12 (.array .int) true := ⟨RX12, TX12, tyX12, rfl, by decide, fl_X12_46, us_X12, tyX12_ok, nmX12, rfl, rfl, fun _ => by first | rfl | (rename_i h; cases h)⟩
theorem fl_X12_49 : Cond.fieldLink RX12 49 (TX12 13).1 (TX12 13).2.1 (TX12 13).2.2.1 ∈ lw_g := lw_in 1332 (by decide +kernel) rfl
theorem fg_X12_49 : pf_ok RX12 49 10 54 13 := ⟨RX12, TX12, rfl, by decide, fl_X12_49, us_X12⟩
theorem fp_X12_49 : pp_ok RX12 49 10 54 13 (.array .int) true := ⟨RX12, TX12, tyX12, rfl, by decide, fl_X12_49, us_X12, tyX12_ok, nmX12, rfl, rfl, fun _ => by first | rfl | (rename_i h; cases h)⟩
theorem fl_X12_52 : Cond.fieldLink RX12 52 (TX12 16).1 (TX12 16).2.1 (TX12 16).2.2.1 ∈ lw_g := lw_in 1335 (by decide +kernel) rfl
theorem fg_X12_52 : pf_ok RX12 52 10 54 16 := ⟨RX12, TX12, rfl, by decide, fl_X12_52, us_X12⟩
theorem fp_X12_52 : pp_ok RX12 52 10 54 16 (.array .int) true := ⟨RX12, TX12, tyX12, rfl, by decide, fl_X12_52, us_X12, tyX12_ok, nmX12, rfl, rfl, fun _ => by first | rfl | (rename_i h; cases h)⟩
theorem fl_X12_55 : Cond.fieldLink RX12 55 (TX12 19).1 (TX12 19).2.1 (TX12 19).2.2.1 ∈ lw_g := lw_in 1338 (by decide +kernel) rfl
theorem fg_X12_55 : pf_ok RX12 55 10 54 19 := ⟨RX12, TX12, rfl, by decide, fl_X12_55, us_X12⟩
theorem fp_X12_55 : pp_ok RX12 55 10 54 19 (.int) false := ⟨RX12, TX12, tyX12, rfl, by decide, fl_X12_55, us_X12, tyX12_ok, nmX12, rfl, rfl, fun h => by cases h⟩
theorem fl_X12_59 : Cond.fieldLink RX12 59 (TX12 30).1 (TX12 30).2.1 (TX12 30).2.2.1 ∈ lw_g := lw_in 1349 (by decide +kernel) rfl
theorem fg_X12_59 : pf_ok RX12 59 10 54 30 := ⟨RX12, TX12, rfl, by decide, fl_X12_59, us_X12⟩
theorem fp_X12_59 : pp_ok RX12 59 10 54 30 (.array .int) true := ⟨RX12, TX12, tyX12, rfl, by decide, fl_X12_59, us_X12, tyX12_ok, nmX12, rfl, rfl, fun _ => by first | rfl | (rename_i h; cases h)⟩
theorem fl_X12_62 : Cond.fieldLink RX12 62 (TX12 31).1 (TX12 31).2.1 (TX12 31).2.2.1 ∈ lw_g := lw_in 1350 (by decide +kernel) rfl
theorem fg_X12_62 : pf_ok RX12 62 10 54 31 := ⟨RX12, TX12, rfl, by decide, fl_X12_62, us_X12⟩
theorem fp_X12_62 : pp_ok RX12 62 10 54 31 (.array .int) true := ⟨RX12, TX12, tyX12, rfl, by decide, fl_X12_62, us_X12, tyX12_ok, nmX12, rfl, rfl, fun _ => by first | rfl | (rename_i h; cases h)⟩
theorem fl_X12_65 : Cond.fieldLink RX12 65 (TX12 32).1 (TX12 32).2.1 (TX12 32).2.2.1 ∈ lw_g := lw_in 1351 (by decide +kernel) rfl
theorem fg_X12_65 : pf_ok RX12 65 10 54 32 := ⟨RX12, TX12, rfl, by decide, fl_X12_65, us_X12⟩
theorem fp_X12_65 : pp_ok RX12 65 10 54 32 (.array .int) true := ⟨RX12, TX12, tyX12, rfl, by decide, fl_X12_65, us_X12, tyX12_ok, nmX12, rfl, rfl, fun _ => by first | rfl | (rename_i h; cases h)⟩
theorem fl_X12_68 : Cond.fieldLink RX12 68 (TX12 33).1 (TX12 33).2.1 (TX12 33).2.2.1 ∈ lw_g := lw_in 1352 (by decide +kernel) rfl
theorem fg_X12_68 : pf_ok RX12 68 10 54 33 := ⟨RX12, TX12, rfl, by decide, fl_X12_68, us_X12⟩
theorem fp_X12_68 : pp_ok RX12 68 10 54 33 (.array .int) true := ⟨RX12, TX12, tyX12, rfl, by decide, fl_X12_68, us_X12, tyX12_ok, nmX12, rfl, rfl, fun _ => by first | rfl | (rename_i h; cases h)⟩
theorem fl_X12_71 : Cond.fieldLink RX12 71 (TX12 34).1 (TX12 34).2.1 (TX12 34).2.2.1 ∈ lw_g := lw_in 1353 (by decide +kernel) rfl
theorem fg_X12_71 : pf_ok RX12 71 10 54 34 := ⟨RX12, TX12, rfl, by decide, fl_X12_71, us_X12⟩
theorem fp_X12_71 : pp_ok RX12 71 10 54 34 (.array .float) true := ⟨RX12, TX12, tyX12, rfl, by decide, fl_X12_71, us_X12, tyX12_ok, nmX12, rfl, rfl, fun _ => by first | rfl | (rename_i h; cases h)⟩
theorem fl_X12_75 : Cond.fieldLink RX12 75 (TX12 35).1 (TX12 35).2.1 (TX12 35).2.2.1 ∈ lw_g := lw_in 1354 (by decide +kernel) rfl
theorem fg_X12_75 : pf_ok RX12 75 10 54 35 := ⟨RX12, TX12, rfl, by decide, fl_X12_75, us_X12⟩
theorem fp_X12_75 : pp_ok RX12 75 10 54 35 (.int) false := ⟨RX12, TX12, tyX12, rfl, by decide, fl_X12_75, us_X12, tyX12_ok, nmX12, rfl, rfl, fun h => by cases h⟩
theorem fl_X12_78 : Cond.fieldLink RX12 78 (TX12 36).1 (TX12 36).2.1 (TX12 36).2.2.1 ∈ lw_g := lw_in 1355 (by decide +kernel) rfl
theorem fg_X12_78 : pf_ok RX12 78 10 54 36 := ⟨RX12, TX12, rfl, by decide, fl_X12_78, us_X12⟩
theorem fp_X12_78 : pp_ok RX12 78 10 54 36 (.array .int) true := ⟨RX12, TX12, tyX12, rfl, by decide, fl_X12_78, us_X12, tyX12_ok, nmX12, rfl, rfl, fun _ => by first | rfl | (rename_i h; cases h)⟩
theorem fl_X12_81 : Cond.fieldLink RX12 81 (TX12 37).1 (TX12 37).2.1 (TX12 37).2.2.1 ∈ lw_g := lw_in 1356 (by decide +kernel) rfl
theorem fg_X12_81 : pf_ok RX12 81 10 54 37 := ⟨RX12, TX12, rfl, by decide, fl_X12_81, us_X12⟩
theorem fp_X12_81 : pp_ok RX12 81 10 54 37 (.array .float) true := ⟨RX12, TX12, tyX12, rfl, by decide, fl_X12_81, us_X12, tyX12_ok, nmX12, rfl, rfl, fun _ => by first | rfl | (rename_i h; cases h)⟩
theorem fl_X12_84 : Cond.fieldLink RX12 84 (TX12 39).1 (TX12 39).2.1 (TX12 39).2.2.1 ∈ lw_g := lw_in 1358 (by decide +kernel) rfl
theorem fg_X12_84 : pf_ok RX12 84 10 54 39 := ⟨RX12, TX12, rfl, by decide, fl_X12_84, us_X12⟩
theorem fp_X12_84 : pp_ok RX12 84 10 54 39 (.array .int) true := ⟨RX12, TX12, tyX12, rfl, by decide, fl_X12_84, us_X12, tyX12_ok, nmX12, rfl, rfl, fun _ => by first | rfl | (rename_i h; cases h)⟩
theorem fl_X12_87 : Cond.fieldLink RX12 87 (TX12 40).1 (TX12 40).2.1 (TX12 40).2.2.1 ∈ lw_g := lw_in 1359 (by decide +kernel) rfl
theorem fg_X12_87 : pf_ok RX12 87 10 54 40 := ⟨RX12, TX12, rfl, by decide, fl_X12_87, us_X12⟩
theorem fp_X12_87 : pp_ok RX12 87 10 54 40 (.array .long) true := ⟨RX12, TX12, tyX12, rfl, by decide, fl_X12_87, us_X12, tyX12_ok, nmX12, rfl, rfl, fun _ => by first | rfl | (rename_i h; cases h)⟩
theorem fl_X12_90 : Cond.fieldLink RX12 90 (TX12 41).1 (TX12 41).2.1 (TX12 41).2.2.1 ∈ lw_g := lw_in 1360 (by decide +kernel) rfl
theorem fg_X12_90 : pf_ok RX12 90 10 54 41 := ⟨RX12, TX12, rfl, by decide, fl_X12_90, us_X12⟩
theorem fp_X12_90 : pp_ok RX12 90 10 54 41 (.array .int) true := ⟨RX12, TX12, tyX12, rfl, by decide, fl_X12_90, us_X12, tyX12_ok, nmX12, rfl, rfl, fun _ => by first | rfl | (rename_i h; cases h)⟩
theorem fl_X12_93 : Cond.fieldLink RX12 93 (TX12 42).1 (TX12 42).2.1 (TX12 42).2.2.1 ∈ lw_g := lw_in 1361 (by decide +kernel) rfl
theorem fg_X12_93 : pf_ok RX12 93 10 54 42 := ⟨RX12, TX12, rfl, by decide, fl_X12_93, us_X12⟩
theorem fp_X12_93 : pp_ok RX12 93 10 54 42 (.array .int) true := ⟨RX12, TX12, tyX12, rfl, by decide, fl_X12_93, us_X12, tyX12_ok, nmX12, rfl, rfl, fun _ => by first | rfl | (rename_i h; cases h)⟩
theorem fl_X12_96 : Cond.fieldLink RX12 96 (TX12 46).1 (TX12 46).2.1 (TX12 46).2.2.1 ∈ lw_g := lw_in 1365 (by decide +kernel) rfl
theorem fg_X12_96 : pf_ok RX12 96 10 54 46 := ⟨RX12, TX12, rfl, by decide, fl_X12_96, us_X12⟩
theorem fp_X12_96 : pp_ok RX12 96 10 54 46 (.array .int) true := ⟨RX12, TX12, tyX12, rfl, by decide, fl_X12_96, us_X12, tyX12_ok, nmX12, rfl, rfl, fun _ => by first | rfl | (rename_i h; cases h)⟩
theorem fl_X12_99 : Cond.fieldLink RX12 99 (TX12 47).1 (TX12 47).2.1 (TX12 47).2.2.1 ∈ lw_g := lw_in 1366 (by decide +kernel) rfl
theorem fg_X12_99 : pf_ok RX12 99 10 54 47 := ⟨RX12, TX12, rfl, by decide, fl_X12_99, us_X12⟩
theorem fp_X12_99 : pp_ok RX12 99 10 54 47 (.array .int) true := ⟨RX12, TX12, tyX12, rfl, by decide, fl_X12_99, us_X12, tyX12_ok, nmX12, rfl, rfl, fun _ => by first | rfl | (rename_i h; cases h)⟩
theorem fl_X12_102 : Cond.fieldLink RX12 102 (TX12 48).1 (TX12 48).2.1 (TX12 48).2.2.1 ∈ lw_g := lw_in 1367 (by decide +kernel) rfl
theorem fg_X12_102 : pf_ok RX12 102 10 54 48 := ⟨RX12, TX12, rfl, by decide, fl_X12_102, us_X12⟩
theorem fp_X12_102 : pp_ok RX12 102 10 54 48 (.array .int) true := ⟨RX12, TX12, tyX12, rfl, by decide, fl_X12_102, us_X12, tyX12_ok, nmX12, rfl, rfl, fun _ => by first | rfl | (rename_i h; cases h)⟩
theorem fl_X12_105 : Cond.fieldLink RX12 105 (TX12 49).1 (TX12 49).2.1 (TX12 49).2.2.1 ∈ lw_g := lw_in 1368 (by decide +kernel) rfl
theorem fg_X12_105 : pf_ok RX12 105 10 54 49 := ⟨RX12, TX12, rfl, by decide, fl_X12_105, us_X12⟩
theorem fp_X12_105 : pp_ok RX12 105 10 54 49 (.array .int) true := ⟨RX12, TX12, tyX12, rfl, by decide, fl_X12_105, us_X12, tyX12_ok, nmX12, rfl, rfl, fun _ => by first | rfl | (rename_i h; cases h)⟩
theorem fl_X12_108 : Cond.fieldLink RX12 108 (TX12 50).1 (TX12 50).2.1 (TX12 50).2.2.1 ∈ lw_g := lw_in 1369 (by decide +kernel) rfl
theorem fg_X12_108 : pf_ok RX12 108 10 54 50 := ⟨RX12, TX12, rfl, by decide, fl_X12_108, us_X12⟩
theorem fp_X12_108 : pp_ok RX12 108 10 54 50 (.array .int) true := ⟨RX12, TX12, tyX12, rfl, by decide, fl_X12_108, us_X12, tyX12_ok, nmX12, rfl, rfl, fun _ => by first | rfl | (rename_i h; cases h)⟩
theorem fl_X12_111 : Cond.fieldLink RX12 111 (TX12 51).1 (TX12 51).2.1 (TX12 51).2.2.1 ∈ lw_g := lw_in 1370 (by decide +kernel) rfl
theorem fg_X12_111 : pf_ok RX12 111 10 54 51 := ⟨RX12, TX12, rfl, by decide, fl_X12_111, us_X12⟩
theorem fp_X12_111 : pp_ok RX12 111 10 54 51 (.array .int) true := ⟨RX12, TX12, tyX12, rfl, by decide, fl_X12_111, us_X12, tyX12_ok, nmX12, rfl, rfl, fun _ => by first | rfl | (rename_i h; cases h)⟩
theorem fl_X12_114 : Cond.fieldLink RX12 114 (TX12 52).1 (TX12 52).2.1 (TX12 52).2.2.1 ∈ lw_g := lw_in 1371 (by decide +kernel) rfl
theorem fg_X12_114 : pf_ok RX12 114 10 54 52 := ⟨RX12, TX12, rfl, by decide, fl_X12_114, us_X12⟩
theorem fp_X12_114 : pp_ok RX12 114 10 54 52 (.array .long) true := ⟨RX12, TX12, tyX12, rfl, by decide, fl_X12_114, us_X12, tyX12_ok, nmX12, rfl, rfl, fun _ => by first | rfl | (rename_i h; cases h)⟩
theorem fl_X12_117 : Cond.fieldLink RX12 117 (TX12 53).1 (TX12 53).2.1 (TX12 53).2.2.1 ∈ lw_g := lw_in 1372 (by decide +kernel) rfl
theorem fg_X12_117 : pf_ok RX12 117 10 54 53 := ⟨RX12, TX12, rfl, by decide, fl_X12_117, us_X12⟩
theorem fp_X12_117 : pp_ok RX12 117 10 54 53 (.array .boolean) true := ⟨RX12, TX12, tyX12, rfl, by decide, fl_X12_117, us_X12, tyX12_ok, nmX12, rfl, rfl, fun _ => by first | rfl | (rename_i h; cases h)⟩
theorem fl_X12_121 : Cond.fieldLink RX12 121 (TX12 0).1 (TX12 0).2.1 (TX12 0).2.2.1 ∈ lw_g := lw_in 1319 (by decide +kernel) rfl
theorem fg_X12_121 : pf_ok RX12 121 10 54 0 := ⟨RX12, TX12, rfl, by decide, fl_X12_121, us_X12⟩
theorem fp_X12_121 : pp_ok RX12 121 10 54 0 (.int) false := ⟨RX12, TX12, tyX12, rfl, by decide, fl_X12_121, us_X12, tyX12_ok, nmX12, rfl, rfl, fun h => by cases h⟩
theorem fl_X12_124 : Cond.fieldLink RX12 124 (TX12 17).1 (TX12 17).2.1 (TX12 17).2.2.1 ∈ lw_g := lw_in 1336 (by decide +kernel) rfl
theorem fg_X12_124 : pf_ok RX12 124 10 54 17 := ⟨RX12, TX12, rfl, by decide, fl_X12_124, us_X12⟩
theorem fp_X12_124 : pp_ok RX12 124 10 54 17 (.int) false := ⟨RX12, TX12, tyX12, rfl, by decide, fl_X12_124, us_X12, tyX12_ok, nmX12, rfl, rfl, fun h => by cases h⟩
theorem fl_X12_135 : Cond.fieldLink RX12 135 (TX12 24).1 (TX12 24).2.1 (TX12 24).2.2.1 ∈ lw_g := lw_in 1343 (by decide +kernel) rfl
theorem fg_X12_135 : pf_ok RX12 135 10 54 24 := ⟨RX12, TX12, rfl, by decide, fl_X12_135, us_X12⟩
theorem fp_X12_135 : pp_ok RX12 135 10 54 24 (.int) false := ⟨RX12, TX12, tyX12, rfl, by decide, fl_X12_135, us_X12, tyX12_ok, nmX12, rfl, rfl, fun h => by cases h⟩
theorem fl_X12_142 : Cond.fieldLink RX12 142 (TX12 23).1 (TX12 23).2.1 (TX12 23).2.2.1 ∈ lw_g := lw_in 1342 (by decide +kernel) rfl
theorem fg_X12_142 : pf_ok RX12 142 10 54 23 := ⟨RX12, TX12, rfl, by decide, fl_X12_142, us_X12⟩
theorem fp_X12_142 : pp_ok RX12 142 10 54 23 (.int) false := ⟨RX12, TX12, tyX12, rfl, by decide, fl_X12_142, us_X12, tyX12_ok, nmX12, rfl, rfl, fun h => by cases h⟩
theorem fl_X12_145 : Cond.fieldLink RX12 145 (TX12 25).1 (TX12 25).2.1 (TX12 25).2.2.1 ∈ lw_g := lw_in 1344 (by decide +kernel) rfl
theorem fg_X12_145 : pf_ok RX12 145 10 54 25 := ⟨RX12, TX12, rfl, by decide, fl_X12_145, us_X12⟩
theorem fp_X12_145 : pp_ok RX12 145 10 54 25 (.long) false := ⟨RX12, TX12, tyX12, rfl, by decide, fl_X12_145, us_X12, tyX12_ok, nmX12, rfl, rfl, fun h => by cases h⟩
theorem fl_X12_149 : Cond.fieldLink RX12 149 (TX12 26).1 (TX12 26).2.1 (TX12 26).2.2.1 ∈ lw_g := lw_in 1345 (by decide +kernel) rfl
theorem fg_X12_149 : pf_ok RX12 149 10 54 26 := ⟨RX12, TX12, rfl, by decide, fl_X12_149, us_X12⟩
theorem fp_X12_149 : pp_ok RX12 149 10 54 26 (.int) false := ⟨RX12, TX12, tyX12, rfl, by decide, fl_X12_149, us_X12, tyX12_ok, nmX12, rfl, rfl, fun h => by cases h⟩
theorem fl_X12_152 : Cond.fieldLink RX12 152 (TX12 27).1 (TX12 27).2.1 (TX12 27).2.2.1 ∈ lw_g := lw_in 1346 (by decide +kernel) rfl
theorem fg_X12_152 : pf_ok RX12 152 10 54 27 := ⟨RX12, TX12, rfl, by decide, fl_X12_152, us_X12⟩
theorem fp_X12_152 : pp_ok RX12 152 10 54 27 (.int) false := ⟨RX12, TX12, tyX12, rfl, by decide, fl_X12_152, us_X12, tyX12_ok, nmX12, rfl, rfl, fun h => by cases h⟩
theorem fl_X12_155 : Cond.fieldLink RX12 155 (TX12 22).1 (TX12 22).2.1 (TX12 22).2.2.1 ∈ lw_g := lw_in 1341 (by decide +kernel) rfl
theorem fg_X12_155 : pf_ok RX12 155 10 54 22 := ⟨RX12, TX12, rfl, by decide, fl_X12_155, us_X12⟩
theorem fp_X12_155 : pp_ok RX12 155 10 54 22 (.int) false := ⟨RX12, TX12, tyX12, rfl, by decide, fl_X12_155, us_X12, tyX12_ok, nmX12, rfl, rfl, fun h => by cases h⟩
theorem fl_X12_170 : Cond.fieldLink RX12 170 (TX12 20).1 (TX12 20).2.1 (TX12 20).2.2.1 ∈ lw_g := lw_in 1339 (by decide +kernel) rfl
theorem fg_X12_170 : pf_ok RX12 170 10 54 20 := ⟨RX12, TX12, rfl, by decide, fl_X12_170, us_X12⟩
theorem fp_X12_170 : pp_ok RX12 170 10 54 20 (.int) false := ⟨RX12, TX12, tyX12, rfl, by decide, fl_X12_170, us_X12, tyX12_ok, nmX12, rfl, rfl, fun h => by cases h⟩
theorem fl_X12_173 : Cond.fieldLink RX12 173 (TX12 21).1 (TX12 21).2.1 (TX12 21).2.2.1 ∈ lw_g := lw_in 1340 (by decide +kernel) rfl
theorem fg_X12_173 : pf_ok RX12 173 10 54 21 := ⟨RX12, TX12, rfl, by decide, fl_X12_173, us_X12⟩
theorem fp_X12_173 : pp_ok RX12 173 10 54 21 (.int) false := ⟨RX12, TX12, tyX12, rfl, by decide, fl_X12_173, us_X12, tyX12_ok, nmX12, rfl, rfl, fun h => by cases h⟩
theorem fl_X12_245 : Cond.fieldLink RX12 245 (TX12 28).1 (TX12 28).2.1 (TX12 28).2.2.1 ∈ lw_g := lw_in 1347 (by decide +kernel) rfl
theorem fg_X12_245 : pf_ok RX12 245 10 54 28 := ⟨RX12, TX12, rfl, by decide, fl_X12_245, us_X12⟩
theorem fp_X12_245 : pp_ok RX12 245 10 54 28 (.int) false := ⟨RX12, TX12, tyX12, rfl, by decide, fl_X12_245, us_X12, tyX12_ok, nmX12, rfl, rfl, fun h => by cases h⟩
theorem fl_X12_278 : Cond.fieldLink RX12 278 (TX12 15).1 (TX12 15).2.1 (TX12 15).2.2.1 ∈ lw_g := lw_in 1334 (by decide +kernel) rfl
theorem fg_X12_278 : pf_ok RX12 278 10 54 15 := ⟨RX12, TX12, rfl, by decide, fl_X12_278, us_X12⟩
theorem fp_X12_278 : pp_ok RX12 278 10 54 15 (.int) false := ⟨RX12, TX12, tyX12, rfl, by decide, fl_X12_278, us_X12, tyX12_ok, nmX12, rfl, rfl, fun h => by cases h⟩
theorem fl_X12_281 : Cond.fieldLink RX12 281 (TX12 29).1 (TX12 29).2.1 (TX12 29).2.2.1 ∈ lw_g := lw_in 1348 (by decide +kernel) rfl
theorem fg_X12_281 : pf_ok RX12 281 10 54 29 := ⟨RX12, TX12, rfl, by decide, fl_X12_281, us_X12⟩
theorem fp_X12_281 : pp_ok RX12 281 10 54 29 (.int) false := ⟨RX12, TX12, tyX12, rfl, by decide, fl_X12_281, us_X12, tyX12_ok, nmX12, rfl, rfl, fun h => by cases h⟩
theorem fl_X12_334 : Cond.fieldLink RX12 334 (TX12 18).1 (TX12 18).2.1 (TX12 18).2.2.1 ∈ lw_g := lw_in 1337 (by decide +kernel) rfl
theorem fg_X12_334 : pf_ok RX12 334 10 54 18 := ⟨RX12, TX12, rfl, by decide, fl_X12_334, us_X12⟩
theorem fp_X12_334 : pp_ok RX12 334 10 54 18 (.int) false := ⟨RX12, TX12, tyX12, rfl, by decide, fl_X12_334, us_X12, tyX12_ok, nmX12, rfl, rfl, fun h => by cases h⟩
theorem fl_X12_340 : Cond.fieldLink RX12 340 (TX12 14).1 (TX12 14).2.1 (TX12 14).2.2.1 ∈ lw_g := lw_in 1333 (by decide +kernel) rfl
theorem fg_X12_340 : pf_ok RX12 340 10 54 14 := ⟨RX12, TX12, rfl, by decide, fl_X12_340, us_X12⟩
theorem fp_X12_340 : pp_ok RX12 340 10 54 14 (.int) false := ⟨RX12, TX12, tyX12, rfl, by decide, fl_X12_340, us_X12, tyX12_ok, nmX12, rfl, rfl, fun h => by cases h⟩
theorem fl_X12_344 : Cond.fieldLink RX12 344 (TX12 38).1 (TX12 38).2.1 (TX12 38).2.2.1 ∈ lw_g := lw_in 1357 (by decide +kernel) rfl
theorem fg_X12_344 : pf_ok RX12 344 10 54 38 := ⟨RX12, TX12, rfl, by decide, fl_X12_344, us_X12⟩
theorem fp_X12_344 : pp_ok RX12 344 10 54 38 (.int) false := ⟨RX12, TX12, tyX12, rfl, by decide, fl_X12_344, us_X12, tyX12_ok, nmX12, rfl, rfl, fun h => by cases h⟩
theorem fl_X12_475 : Cond.fieldLink RX12 475 (TX12 44).1 (TX12 44).2.1 (TX12 44).2.2.1 ∈ lw_g := lw_in 1363 (by decide +kernel) rfl
theorem fg_X12_475 : pf_ok RX12 475 10 54 44 := ⟨RX12, TX12, rfl, by decide, fl_X12_475, us_X12⟩
theorem fp_X12_475 : pp_ok RX12 475 10 54 44 (.boolean) false := ⟨RX12, TX12, tyX12, rfl, by decide, fl_X12_475, us_X12, tyX12_ok, nmX12, rfl, rfl, fun h => by cases h⟩
theorem fl_X12_479 : Cond.fieldLink RX12 479 (TX12 43).1 (TX12 43).2.1 (TX12 43).2.2.1 ∈ lw_g := lw_in 1362 (by decide +kernel) rfl
theorem fg_X12_479 : pf_ok RX12 479 10 54 43 := ⟨RX12, TX12, rfl, by decide, fl_X12_479, us_X12⟩
theorem fp_X12_479 : pp_ok RX12 479 10 54 43 (.int) false := ⟨RX12, TX12, tyX12, rfl, by decide, fl_X12_479, us_X12, tyX12_ok, nmX12, rfl, rfl, fun h => by cases h⟩
theorem fl_X12_489 : Cond.fieldLink RX12 489 (TX12 45).1 (TX12 45).2.1 (TX12 45).2.2.1 ∈ lw_g := lw_in 1364 (by decide +kernel) rfl
theorem fg_X12_489 : pf_ok RX12 489 10 54 45 := ⟨RX12, TX12, rfl, by decide, fl_X12_489, us_X12⟩
theorem fp_X12_489 : pp_ok RX12 489 10 54 45 (.int) false := ⟨RX12, TX12, tyX12, rfl, by decide, fl_X12_489, us_X12, tyX12_ok, nmX12, rfl, rfl, fun h => by cases h⟩
theorem fl_X2_9 : Cond.fieldLink RX2 9 (TX2 4).1 (TX2 4).2.1 (TX2 4).2.2.1 ∈ lw_g := lw_in 242 (by decide +kernel) rfl
theorem fg_X2_9 : pf_ok RX2 9 1 10 4 := ⟨RX2, TX2, rfl, by decide, fl_X2_9, us_X2⟩
theorem fl_X2_15 : Cond.fieldLink RX2 15 (TX2 5).1 (TX2 5).2.1 (TX2 5).2.2.1 ∈ lw_g := lw_in 247 (by decide +kernel) rfl
theorem fg_X2_15 : pf_ok RX2 15 1 10 5 := ⟨RX2, TX2, rfl, by decide, fl_X2_15, us_X2⟩
theorem fl_X2_18 : Cond.fieldLink RX2 18 (TX2 6).1 (TX2 6).2.1 (TX2 6).2.2.1 ∈ lw_g := lw_in 251 (by decide +kernel) rfl
theorem fg_X2_18 : pf_ok RX2 18 1 10 6 := ⟨RX2, TX2, rfl, by decide, fl_X2_18, us_X2⟩
theorem fl_X2_25 : Cond.fieldLink RX2 25 (TX2 8).1 (TX2 8).2.1 (TX2 8).2.2.1 ∈ lw_g := lw_in 259 (by decide +kernel) rfl
theorem fg_X2_25 : pf_ok RX2 25 1 10 8 := ⟨RX2, TX2, rfl, by decide, fl_X2_25, us_X2⟩
theorem fp_X2_25 : pp_ok RX2 25 1 10 8 (.int) false := ⟨RX2, TX2, tyX2, rfl, by decide, fl_X2_25, us_X2, tyX2_ok, nmX2, rfl, rfl, fun h => by cases h⟩
theorem fl_X2_28 : Cond.fieldLink RX2 28 (TX2 9).1 (TX2 9).2.1 (TX2 9).2.2.1 ∈ lw_g := lw_in 262 (by decide +kernel) rfl
theorem fg_X2_28 : pf_ok RX2 28 1 10 9 := ⟨RX2, TX2, rfl, by decide, fl_X2_28, us_X2⟩
theorem fp_X2_28 : pp_ok RX2 28 1 10 9 (.int) false := ⟨RX2, TX2, tyX2, rfl, by decide, fl_X2_28, us_X2, tyX2_ok, nmX2, rfl, rfl, fun h => by cases h⟩
theorem fl_X3_11 : Cond.fieldLink RX3 11 (TX3 0).1 (TX3 0).2.1 (TX3 0).2.2.1 ∈ lw_g := lw_in 313 (by decide +kernel) rfl
theorem fg_X3_11 : pf_ok RX3 11 2 5 0 := ⟨RX3, TX3, rfl, by decide, fl_X3_11, us_X3⟩
theorem fp_X3_11 : pp_ok RX3 11 2 5 0 (.array .int) true := ⟨RX3, TX3, tyX3, rfl, by decide, fl_X3_11, us_X3, tyX3_ok, nmX3, rfl, rfl, fun _ => by first | rfl | (rename_i h; cases h)⟩
theorem fl_X3_17 : Cond.fieldLink RX3 17 (TX3 2).1 (TX3 2).2.1 (TX3 2).2.2.1 ∈ lw_g := lw_in 317 (by decide +kernel) rfl
theorem fg_X3_17 : pf_ok RX3 17 2 5 2 := ⟨RX3, TX3, rfl, by decide, fl_X3_17, us_X3⟩
theorem fp_X3_17 : pp_ok RX3 17 2 5 2 (.array .int) true := ⟨RX3, TX3, tyX3, rfl, by decide, fl_X3_17, us_X3, tyX3_ok, nmX3, rfl, rfl, fun _ => by first | rfl | (rename_i h; cases h)⟩
theorem fl_X3_20 : Cond.fieldLink RX3 20 (TX3 3).1 (TX3 3).2.1 (TX3 3).2.2.1 ∈ lw_g := lw_in 318 (by decide +kernel) rfl
theorem fg_X3_20 : pf_ok RX3 20 2 5 3 := ⟨RX3, TX3, rfl, by decide, fl_X3_20, us_X3⟩
theorem fp_X3_20 : pp_ok RX3 20 2 5 3 (.array .long) true := ⟨RX3, TX3, tyX3, rfl, by decide, fl_X3_20, us_X3, tyX3_ok, nmX3, rfl, rfl, fun _ => by first | rfl | (rename_i h; cases h)⟩
theorem fl_X3_24 : Cond.fieldLink RX3 24 (TX3 1).1 (TX3 1).2.1 (TX3 1).2.2.1 ∈ lw_g := lw_in 314 (by decide +kernel) rfl
theorem fg_X3_24 : pf_ok RX3 24 2 5 1 := ⟨RX3, TX3, rfl, by decide, fl_X3_24, us_X3⟩
theorem fp_X3_24 : pp_ok RX3 24 2 5 1 (.int) false := ⟨RX3, TX3, tyX3, rfl, by decide, fl_X3_24, us_X3, tyX3_ok, nmX3, rfl, rfl, fun h => by cases h⟩
theorem fl_X3_28 : Cond.fieldLink RX3 28 (TX3 4).1 (TX3 4).2.1 (TX3 4).2.2.1 ∈ lw_g := lw_in 319 (by decide +kernel) rfl
theorem fg_X3_28 : pf_ok RX3 28 2 5 4 := ⟨RX3, TX3, rfl, by decide, fl_X3_28, us_X3⟩
theorem fp_X3_28 : pp_ok RX3 28 2 5 4 (.int) false := ⟨RX3, TX3, tyX3, rfl, by decide, fl_X3_28, us_X3, tyX3_ok, nmX3, rfl, rfl, fun h => by cases h⟩
theorem fl_X4_9 : Cond.fieldLink RX4 9 (TX4 0).1 (TX4 0).2.1 (TX4 0).2.2.1 ∈ lw_g := lw_in 194 (by decide +kernel) rfl
theorem fg_X4_9 : pf_ok RX4 9 3 5 0 := ⟨RX4, TX4, rfl, by decide, fl_X4_9, us_X4⟩
theorem fp_X4_9 : pp_ok RX4 9 3 5 0 (.object "WhistleRoster$Tape") true := ⟨RX4, TX4, tyX4, rfl, by decide, fl_X4_9, us_X4, tyX4_ok, nmX4, rfl, rfl, fun _ => by first | rfl | (rename_i h; cases h)⟩
theorem fl_X4_15 : Cond.fieldLink RX4 15 (TX4 3).1 (TX4 3).2.1 (TX4 3).2.2.1 ∈ lw_g := lw_in 198 (by decide +kernel) rfl
theorem fg_X4_15 : pf_ok RX4 15 3 5 3 := ⟨RX4, TX4, rfl, by decide, fl_X4_15, us_X4⟩
theorem fp_X4_15 : pp_ok RX4 15 3 5 3 (.int) false := ⟨RX4, TX4, tyX4, rfl, by decide, fl_X4_15, us_X4, tyX4_ok, nmX4, rfl, rfl, fun h => by cases h⟩
theorem fl_X4_19 : Cond.fieldLink RX4 19 (TX4 1).1 (TX4 1).2.1 (TX4 1).2.2.1 ∈ lw_g := lw_in 195 (by decide +kernel) rfl
theorem fg_X4_19 : pf_ok RX4 19 3 5 1 := ⟨RX4, TX4, rfl, by decide, fl_X4_19, us_X4⟩
theorem fp_X4_19 : pp_ok RX4 19 3 5 1 (.object "WhistleRoster$Week") false := ⟨RX4, TX4, tyX4, rfl, by decide, fl_X4_19, us_X4, tyX4_ok, nmX4, rfl, rfl, fun h => by cases h⟩
theorem fl_X4_28 : Cond.fieldLink RX4 28 (TX4 2).1 (TX4 2).2.1 (TX4 2).2.2.1 ∈ lw_g := lw_in 196 (by decide +kernel) rfl
theorem fg_X4_28 : pf_ok RX4 28 3 5 2 := ⟨RX4, TX4, rfl, by decide, fl_X4_28, us_X4⟩
theorem fp_X4_28 : pp_ok RX4 28 3 5 2 (.int) false := ⟨RX4, TX4, tyX4, rfl, by decide, fl_X4_28, us_X4, tyX4_ok, nmX4, rfl, rfl, fun h => by cases h⟩
theorem fl_X4_46 : Cond.fieldLink RX4 46 (TX8 2).1 (TX8 2).2.1 (TX8 2).2.2.1 ∈ lw_g := lw_in 160 (by decide +kernel) rfl
theorem fg_X4_46 : pf_ok RX4 46 7 8 2 := ⟨RX8, TX8, rfl, by decide, fl_X4_46, us_X8⟩
theorem fl_X4_49 : Cond.fieldLink RX4 49 (TX4 4).1 (TX4 4).2.1 (TX4 4).2.2.1 ∈ lw_g := lw_in 200 (by decide +kernel) rfl
theorem fg_X4_49 : pf_ok RX4 49 3 5 4 := ⟨RX4, TX4, rfl, by decide, fl_X4_49, us_X4⟩
theorem fp_X4_49 : pp_ok RX4 49 3 5 4 (.int) false := ⟨RX4, TX4, tyX4, rfl, by decide, fl_X4_49, us_X4, tyX4_ok, nmX4, rfl, rfl, fun h => by cases h⟩
theorem fl_X4_52 : Cond.fieldLink RX4 52 (TX8 5).1 (TX8 5).2.1 (TX8 5).2.2.1 ∈ lw_g := lw_in 164 (by decide +kernel) rfl
theorem fg_X4_52 : pf_ok RX4 52 7 8 5 := ⟨RX8, TX8, rfl, by decide, fl_X4_52, us_X8⟩
theorem fl_X4_142 : Cond.fieldLink RX4 142 (TX8 4).1 (TX8 4).2.1 (TX8 4).2.2.1 ∈ lw_g := lw_in 163 (by decide +kernel) rfl
theorem fg_X4_142 : pf_ok RX4 142 7 8 4 := ⟨RX8, TX8, rfl, by decide, fl_X4_142, us_X8⟩
theorem fl_X4_145 : Cond.fieldLink RX4 145 (TX9 2).1 (TX9 2).2.1 (TX9 2).2.2.1 ∈ lw_g := lw_in 339 (by decide +kernel) rfl
theorem fg_X4_145 : pf_ok RX4 145 8 15 2 := ⟨RX9, TX9, rfl, by decide, fl_X4_145, us_X9⟩
theorem fl_X4_148 : Cond.fieldLink RX4 148 (TX9 3).1 (TX9 3).2.1 (TX9 3).2.2.1 ∈ lw_g := lw_in 341 (by decide +kernel) rfl
theorem fg_X4_148 : pf_ok RX4 148 8 15 3 := ⟨RX9, TX9, rfl, by decide, fl_X4_148, us_X9⟩
theorem fl_X4_151 : Cond.fieldLink RX4 151 (TX9 4).1 (TX9 4).2.1 (TX9 4).2.2.1 ∈ lw_g := lw_in 345 (by decide +kernel) rfl
theorem fg_X4_151 : pf_ok RX4 151 8 15 4 := ⟨RX9, TX9, rfl, by decide, fl_X4_151, us_X9⟩
theorem fl_X4_154 : Cond.fieldLink RX4 154 (TX9 5).1 (TX9 5).2.1 (TX9 5).2.2.1 ∈ lw_g := lw_in 349 (by decide +kernel) rfl
theorem fg_X4_154 : pf_ok RX4 154 8 15 5 := ⟨RX9, TX9, rfl, by decide, fl_X4_154, us_X9⟩
theorem fl_X4_157 : Cond.fieldLink RX4 157 (TX9 10).1 (TX9 10).2.1 (TX9 10).2.2.1 ∈ lw_g := lw_in 371 (by decide +kernel) rfl
theorem fg_X4_157 : pf_ok RX4 157 8 15 10 := ⟨RX9, TX9, rfl, by decide, fl_X4_157, us_X9⟩
theorem fl_X4_174 : Cond.fieldLink RX4 174 (TX9 7).1 (TX9 7).2.1 (TX9 7).2.2.1 ∈ lw_g := lw_in 360 (by decide +kernel) rfl
theorem fg_X4_174 : pf_ok RX4 174 8 15 7 := ⟨RX9, TX9, rfl, by decide, fl_X4_174, us_X9⟩
theorem fp_X4_174 : pp_ok RX4 174 8 15 7 (.int) false := ⟨RX9, TX9, tyX9, rfl, by decide, fl_X4_174, us_X9, tyX9_ok, nmX9, rfl, rfl, fun h => by cases h⟩
theorem fl_X4_177 : Cond.fieldLink RX4 177 (TX9 6).1 (TX9 6).2.1 (TX9 6).2.2.1 ∈ lw_g := lw_in 355 (by decide +kernel) rfl
theorem fg_X4_177 : pf_ok RX4 177 8 15 6 := ⟨RX9, TX9, rfl, by decide, fl_X4_177, us_X9⟩
theorem fl_X4_181 : Cond.fieldLink RX4 181 (TX2 0).1 (TX2 0).2.1 (TX2 0).2.2.1 ∈ lw_g := lw_in 227 (by decide +kernel) rfl
theorem fg_X4_181 : pf_ok RX4 181 1 10 0 := ⟨RX2, TX2, rfl, by decide, fl_X4_181, us_X2⟩
theorem fp_X4_181 : pp_ok RX4 181 1 10 0 (.int) false := ⟨RX2, TX2, tyX2, rfl, by decide, fl_X4_181, us_X2, tyX2_ok, nmX2, rfl, rfl, fun h => by cases h⟩
theorem fl_X4_186 : Cond.fieldLink RX4 186 (TX2 1).1 (TX2 1).2.1 (TX2 1).2.2.1 ∈ lw_g := lw_in 230 (by decide +kernel) rfl
theorem fg_X4_186 : pf_ok RX4 186 1 10 1 := ⟨RX2, TX2, rfl, by decide, fl_X4_186, us_X2⟩
theorem fp_X4_186 : pp_ok RX4 186 1 10 1 (.int) false := ⟨RX2, TX2, tyX2, rfl, by decide, fl_X4_186, us_X2, tyX2_ok, nmX2, rfl, rfl, fun h => by cases h⟩
theorem fl_X4_189 : Cond.fieldLink RX4 189 (TX2 2).1 (TX2 2).2.1 (TX2 2).2.2.1 ∈ lw_g := lw_in 233 (by decide +kernel) rfl
theorem fg_X4_189 : pf_ok RX4 189 1 10 2 := ⟨RX2, TX2, rfl, by decide, fl_X4_189, us_X2⟩
theorem fp_X4_189 : pp_ok RX4 189 1 10 2 (.int) false := ⟨RX2, TX2, tyX2, rfl, by decide, fl_X4_189, us_X2, tyX2_ok, nmX2, rfl, rfl, fun h => by cases h⟩
theorem fl_X4_199 : Cond.fieldLink RX4 199 (TX2 3).1 (TX2 3).2.1 (TX2 3).2.2.1 ∈ lw_g := lw_in 238 (by decide +kernel) rfl
theorem fg_X4_199 : pf_ok RX4 199 1 10 3 := ⟨RX2, TX2, rfl, by decide, fl_X4_199, us_X2⟩
theorem fp_X4_199 : pp_ok RX4 199 1 10 3 (.int) false := ⟨RX2, TX2, tyX2, rfl, by decide, fl_X4_199, us_X2, tyX2_ok, nmX2, rfl, rfl, fun h => by cases h⟩
theorem fl_X4_202 : Cond.fieldLink RX4 202 (TX2 4).1 (TX2 4).2.1 (TX2 4).2.2.1 ∈ lw_g := lw_in 243 (by decide +kernel) rfl
theorem fg_X4_202 : pf_ok RX4 202 1 10 4 := ⟨RX2, TX2, rfl, by decide, fl_X4_202, us_X2⟩
theorem fp_X4_202 : pp_ok RX4 202 1 10 4 (.int) false := ⟨RX2, TX2, tyX2, rfl, by decide, fl_X4_202, us_X2, tyX2_ok, nmX2, rfl, rfl, fun h => by cases h⟩
theorem fl_X4_208 : Cond.fieldLink RX4 208 (TX2 5).1 (TX2 5).2.1 (TX2 5).2.2.1 ∈ lw_g := lw_in 248 (by decide +kernel) rfl
theorem fg_X4_208 : pf_ok RX4 208 1 10 5 := ⟨RX2, TX2, rfl, by decide, fl_X4_208, us_X2⟩
theorem fp_X4_208 : pp_ok RX4 208 1 10 5 (.int) false := ⟨RX2, TX2, tyX2, rfl, by decide, fl_X4_208, us_X2, tyX2_ok, nmX2, rfl, rfl, fun h => by cases h⟩
theorem fl_X4_214 : Cond.fieldLink RX4 214 (TX2 6).1 (TX2 6).2.1 (TX2 6).2.2.1 ∈ lw_g := lw_in 252 (by decide +kernel) rfl
theorem fg_X4_214 : pf_ok RX4 214 1 10 6 := ⟨RX2, TX2, rfl, by decide, fl_X4_214, us_X2⟩
theorem fp_X4_214 : pp_ok RX4 214 1 10 6 (.int) false := ⟨RX2, TX2, tyX2, rfl, by decide, fl_X4_214, us_X2, tyX2_ok, nmX2, rfl, rfl, fun h => by cases h⟩
theorem fl_X4_216 : Cond.fieldLink RX4 216 (TX2 7).1 (TX2 7).2.1 (TX2 7).2.2.1 ∈ lw_g := lw_in 255 (by decide +kernel) rfl
theorem fg_X4_216 : pf_ok RX4 216 1 10 7 := ⟨RX2, TX2, rfl, by decide, fl_X4_216, us_X2⟩
theorem fp_X4_216 : pp_ok RX4 216 1 10 7 (.int) false := ⟨RX2, TX2, tyX2, rfl, by decide, fl_X4_216, us_X2, tyX2_ok, nmX2, rfl, rfl, fun h => by cases h⟩
theorem fl_X4_222 : Cond.fieldLink RX4 222 (TX9 8).1 (TX9 8).2.1 (TX9 8).2.2.1 ∈ lw_g := lw_in 364 (by decide +kernel) rfl
theorem fg_X4_222 : pf_ok RX4 222 8 15 8 := ⟨RX9, TX9, rfl, by decide, fl_X4_222, us_X9⟩
theorem fp_X4_222 : pp_ok RX4 222 8 15 8 (.int) false := ⟨RX9, TX9, tyX9, rfl, by decide, fl_X4_222, us_X9, tyX9_ok, nmX9, rfl, rfl, fun h => by cases h⟩
theorem fl_X4_225 : Cond.fieldLink RX4 225 (TX9 9).1 (TX9 9).2.1 (TX9 9).2.2.1 ∈ lw_g := lw_in 368 (by decide +kernel) rfl
theorem fg_X4_225 : pf_ok RX4 225 8 15 9 := ⟨RX9, TX9, rfl, by decide, fl_X4_225, us_X9⟩
theorem fp_X4_225 : pp_ok RX4 225 8 15 9 (.int) false := ⟨RX9, TX9, tyX9, rfl, by decide, fl_X4_225, us_X9, tyX9_ok, nmX9, rfl, rfl, fun h => by cases h⟩
theorem fl_X4_228 : Cond.fieldLink RX4 228 (TX9 11).1 (TX9 11).2.1 (TX9 11).2.2.1 ∈ lw_g := lw_in 375 (by decide +kernel) rfl
theorem fg_X4_228 : pf_ok RX4 228 8 15 11 := ⟨RX9, TX9, rfl, by decide, fl_X4_228, us_X9⟩
theorem fl_X4_232 : Cond.fieldLink RX4 232 (TX3 1).1 (TX3 1).2.1 (TX3 1).2.2.1 ∈ lw_g := lw_in 316 (by decide +kernel) rfl
theorem fg_X4_232 : pf_ok RX4 232 2 5 1 := ⟨RX3, TX3, rfl, by decide, fl_X4_232, us_X3⟩
theorem fl_X4_240 : Cond.fieldLink RX4 240 (TX8 7).1 (TX8 7).2.1 (TX8 7).2.2.1 ∈ lw_g := lw_in 169 (by decide +kernel) rfl
theorem fg_X4_240 : pf_ok RX4 240 7 8 7 := ⟨RX8, TX8, rfl, by decide, fl_X4_240, us_X8⟩
theorem fl_X4_249 : Cond.fieldLink RX4 249 (TX8 6).1 (TX8 6).2.1 (TX8 6).2.2.1 ∈ lw_g := lw_in 167 (by decide +kernel) rfl
theorem fg_X4_249 : pf_ok RX4 249 7 8 6 := ⟨RX8, TX8, rfl, by decide, fl_X4_249, us_X8⟩
theorem fl_X5_13 : Cond.fieldLink RX5 13 (TX5 1).1 (TX5 1).2.1 (TX5 1).2.2.1 ∈ lw_g := lw_in 295 (by decide +kernel) rfl
theorem fg_X5_13 : pf_ok RX5 13 4 3 1 := ⟨RX5, TX5, rfl, by decide, fl_X5_13, us_X5⟩
theorem fp_X5_13 : pp_ok RX5 13 4 3 1 (.array (.array .int)) true := ⟨RX5, TX5, tyX5, rfl, by decide, fl_X5_13, us_X5, tyX5_ok, nmX5, rfl, rfl, fun _ => by first | rfl | (rename_i h; cases h)⟩
theorem fl_X5_16 : Cond.fieldLink RX5 16 (TX5 2).1 (TX5 2).2.1 (TX5 2).2.2.1 ∈ lw_g := lw_in 296 (by decide +kernel) rfl
theorem fg_X5_16 : pf_ok RX5 16 4 3 2 := ⟨RX5, TX5, rfl, by decide, fl_X5_16, us_X5⟩
theorem fp_X5_16 : pp_ok RX5 16 4 3 2 (.array (.array .int)) true := ⟨RX5, TX5, tyX5, rfl, by decide, fl_X5_16, us_X5, tyX5_ok, nmX5, rfl, rfl, fun _ => by first | rfl | (rename_i h; cases h)⟩
theorem fl_X5_19 : Cond.fieldLink RX5 19 (TX5 0).1 (TX5 0).2.1 (TX5 0).2.2.1 ∈ lw_g := lw_in 294 (by decide +kernel) rfl
theorem fg_X5_19 : pf_ok RX5 19 4 3 0 := ⟨RX5, TX5, rfl, by decide, fl_X5_19, us_X5⟩
theorem fp_X5_19 : pp_ok RX5 19 4 3 0 (.int) false := ⟨RX5, TX5, tyX5, rfl, by decide, fl_X5_19, us_X5, tyX5_ok, nmX5, rfl, rfl, fun h => by cases h⟩
theorem fl_X6_9 : Cond.fieldLink RX6 9 (TX6 2).1 (TX6 2).2.1 (TX6 2).2.2.1 ∈ lw_g := lw_in 429 (by decide +kernel) rfl
theorem fg_X6_9 : pf_ok RX6 9 5 10 2 := ⟨RX6, TX6, rfl, by decide, fl_X6_9, us_X6⟩
theorem fp_X6_9 : pp_ok RX6 9 5 10 2 (.array .int) true := ⟨RX6, TX6, tyX6, rfl, by decide, fl_X6_9, us_X6, tyX6_ok, nmX6, rfl, rfl, fun _ => by first | rfl | (rename_i h; cases h)⟩
theorem fl_X6_15 : Cond.fieldLink RX6 15 (TX6 3).1 (TX6 3).2.1 (TX6 3).2.2.1 ∈ lw_g := lw_in 432 (by decide +kernel) rfl
theorem fg_X6_15 : pf_ok RX6 15 5 10 3 := ⟨RX6, TX6, rfl, by decide, fl_X6_15, us_X6⟩
theorem fp_X6_15 : pp_ok RX6 15 5 10 3 (.array .int) true := ⟨RX6, TX6, tyX6, rfl, by decide, fl_X6_15, us_X6, tyX6_ok, nmX6, rfl, rfl, fun _ => by first | rfl | (rename_i h; cases h)⟩
theorem fl_X6_18 : Cond.fieldLink RX6 18 (TX6 4).1 (TX6 4).2.1 (TX6 4).2.2.1 ∈ lw_g := lw_in 434 (by decide +kernel) rfl
theorem fg_X6_18 : pf_ok RX6 18 5 10 4 := ⟨RX6, TX6, rfl, by decide, fl_X6_18, us_X6⟩
theorem fp_X6_18 : pp_ok RX6 18 5 10 4 (.array .int) true := ⟨RX6, TX6, tyX6, rfl, by decide, fl_X6_18, us_X6, tyX6_ok, nmX6, rfl, rfl, fun _ => by first | rfl | (rename_i h; cases h)⟩
theorem fl_X6_21 : Cond.fieldLink RX6 21 (TX6 5).1 (TX6 5).2.1 (TX6 5).2.2.1 ∈ lw_g := lw_in 436 (by decide +kernel) rfl
theorem fg_X6_21 : pf_ok RX6 21 5 10 5 := ⟨RX6, TX6, rfl, by decide, fl_X6_21, us_X6⟩
theorem fp_X6_21 : pp_ok RX6 21 5 10 5 (.array .float) true := ⟨RX6, TX6, tyX6, rfl, by decide, fl_X6_21, us_X6, tyX6_ok, nmX6, rfl, rfl, fun _ => by first | rfl | (rename_i h; cases h)⟩
theorem fl_X6_25 : Cond.fieldLink RX6 25 (TX6 6).1 (TX6 6).2.1 (TX6 6).2.2.1 ∈ lw_g := lw_in 438 (by decide +kernel) rfl
theorem fg_X6_25 : pf_ok RX6 25 5 10 6 := ⟨RX6, TX6, rfl, by decide, fl_X6_25, us_X6⟩
theorem fp_X6_25 : pp_ok RX6 25 5 10 6 (.array .int) true := ⟨RX6, TX6, tyX6, rfl, by decide, fl_X6_25, us_X6, tyX6_ok, nmX6, rfl, rfl, fun _ => by first | rfl | (rename_i h; cases h)⟩
theorem fl_X6_28 : Cond.fieldLink RX6 28 (TX6 7).1 (TX6 7).2.1 (TX6 7).2.2.1 ∈ lw_g := lw_in 440 (by decide +kernel) rfl
theorem fg_X6_28 : pf_ok RX6 28 5 10 7 := ⟨RX6, TX6, rfl, by decide, fl_X6_28, us_X6⟩
theorem fp_X6_28 : pp_ok RX6 28 5 10 7 (.array .int) true := ⟨RX6, TX6, tyX6, rfl, by decide, fl_X6_28, us_X6, tyX6_ok, nmX6, rfl, rfl, fun _ => by first | rfl | (rename_i h; cases h)⟩
theorem fl_X6_31 : Cond.fieldLink RX6 31 (TX6 8).1 (TX6 8).2.1 (TX6 8).2.2.1 ∈ lw_g := lw_in 443 (by decide +kernel) rfl
theorem fg_X6_31 : pf_ok RX6 31 5 10 8 := ⟨RX6, TX6, rfl, by decide, fl_X6_31, us_X6⟩
theorem fp_X6_31 : pp_ok RX6 31 5 10 8 (.array .int) true := ⟨RX6, TX6, tyX6, rfl, by decide, fl_X6_31, us_X6, tyX6_ok, nmX6, rfl, rfl, fun _ => by first | rfl | (rename_i h; cases h)⟩
theorem fl_X6_34 : Cond.fieldLink RX6 34 (TX6 9).1 (TX6 9).2.1 (TX6 9).2.2.1 ∈ lw_g := lw_in 445 (by decide +kernel) rfl
theorem fg_X6_34 : pf_ok RX6 34 5 10 9 := ⟨RX6, TX6, rfl, by decide, fl_X6_34, us_X6⟩
theorem fp_X6_34 : pp_ok RX6 34 5 10 9 (.array .int) true := ⟨RX6, TX6, tyX6, rfl, by decide, fl_X6_34, us_X6, tyX6_ok, nmX6, rfl, rfl, fun _ => by first | rfl | (rename_i h; cases h)⟩
theorem fl_X6_41 : Cond.fieldLink RX6 41 (TX6 0).1 (TX6 0).2.1 (TX6 0).2.2.1 ∈ lw_g := lw_in 425 (by decide +kernel) rfl
theorem fg_X6_41 : pf_ok RX6 41 5 10 0 := ⟨RX6, TX6, rfl, by decide, fl_X6_41, us_X6⟩
theorem fp_X6_41 : pp_ok RX6 41 5 10 0 (.object "WhistleRoster$Week") false := ⟨RX6, TX6, tyX6, rfl, by decide, fl_X6_41, us_X6, tyX6_ok, nmX6, rfl, rfl, fun h => by cases h⟩
theorem fl_X6_45 : Cond.fieldLink RX6 45 (TX6 1).1 (TX6 1).2.1 (TX6 1).2.2.1 ∈ lw_g := lw_in 427 (by decide +kernel) rfl
theorem fg_X6_45 : pf_ok RX6 45 5 10 1 := ⟨RX6, TX6, rfl, by decide, fl_X6_45, us_X6⟩
theorem fp_X6_45 : pp_ok RX6 45 5 10 1 (.int) false := ⟨RX6, TX6, tyX6, rfl, by decide, fl_X6_45, us_X6, tyX6_ok, nmX6, rfl, rfl, fun h => by cases h⟩
theorem fl_X6_49 : Cond.fieldLink RX6 49 (TX9 2).1 (TX9 2).2.1 (TX9 2).2.2.1 ∈ lw_g := lw_in 338 (by decide +kernel) rfl
theorem fg_X6_49 : pf_ok RX6 49 8 15 2 := ⟨RX9, TX9, rfl, by decide, fl_X6_49, us_X9⟩
theorem fl_X6_59 : Cond.fieldLink RX6 59 (TX9 1).1 (TX9 1).2.1 (TX9 1).2.2.1 ∈ lw_g := lw_in 335 (by decide +kernel) rfl
theorem fg_X6_59 : pf_ok RX6 59 8 15 1 := ⟨RX9, TX9, rfl, by decide, fl_X6_59, us_X9⟩
theorem fl_X6_62 : Cond.fieldLink RX6 62 (TX9 6).1 (TX9 6).2.1 (TX9 6).2.2.1 ∈ lw_g := lw_in 354 (by decide +kernel) rfl
theorem fg_X6_62 : pf_ok RX6 62 8 15 6 := ⟨RX9, TX9, rfl, by decide, fl_X6_62, us_X9⟩
theorem fl_X6_66 : Cond.fieldLink RX6 66 (TX2 3).1 (TX2 3).2.1 (TX2 3).2.2.1 ∈ lw_g := lw_in 237 (by decide +kernel) rfl
theorem fg_X6_66 : pf_ok RX6 66 1 10 3 := ⟨RX2, TX2, rfl, by decide, fl_X6_66, us_X2⟩
theorem fl_X6_100 : Cond.fieldLink RX6 100 (TX9 13).1 (TX9 13).2.1 (TX9 13).2.2.1 ∈ lw_g := lw_in 380 (by decide +kernel) rfl
theorem fg_X6_100 : pf_ok RX6 100 8 15 13 := ⟨RX9, TX9, rfl, by decide, fl_X6_100, us_X9⟩
theorem fl_X6_106 : Cond.fieldLink RX6 106 (TX9 4).1 (TX9 4).2.1 (TX9 4).2.2.1 ∈ lw_g := lw_in 347 (by decide +kernel) rfl
theorem fg_X6_106 : pf_ok RX6 106 8 15 4 := ⟨RX9, TX9, rfl, by decide, fl_X6_106, us_X9⟩
theorem fl_X6_109 : Cond.fieldLink RX6 109 (TX2 0).1 (TX2 0).2.1 (TX2 0).2.2.1 ∈ lw_g := lw_in 229 (by decide +kernel) rfl
theorem fg_X6_109 : pf_ok RX6 109 1 10 0 := ⟨RX2, TX2, rfl, by decide, fl_X6_109, us_X2⟩
theorem fl_X6_112 : Cond.fieldLink RX6 112 (TX2 1).1 (TX2 1).2.1 (TX2 1).2.2.1 ∈ lw_g := lw_in 232 (by decide +kernel) rfl
theorem fg_X6_112 : pf_ok RX6 112 1 10 1 := ⟨RX2, TX2, rfl, by decide, fl_X6_112, us_X2⟩
theorem fl_X6_115 : Cond.fieldLink RX6 115 (TX9 5).1 (TX9 5).2.1 (TX9 5).2.2.1 ∈ lw_g := lw_in 351 (by decide +kernel) rfl
theorem fg_X6_115 : pf_ok RX6 115 8 15 5 := ⟨RX9, TX9, rfl, by decide, fl_X6_115, us_X9⟩
theorem fl_X6_118 : Cond.fieldLink RX6 118 (TX9 9).1 (TX9 9).2.1 (TX9 9).2.2.1 ∈ lw_g := lw_in 369 (by decide +kernel) rfl
theorem fg_X6_118 : pf_ok RX6 118 8 15 9 := ⟨RX9, TX9, rfl, by decide, fl_X6_118, us_X9⟩
theorem fl_X6_121 : Cond.fieldLink RX6 121 (TX2 8).1 (TX2 8).2.1 (TX2 8).2.2.1 ∈ lw_g := lw_in 260 (by decide +kernel) rfl
theorem fg_X6_121 : pf_ok RX6 121 1 10 8 := ⟨RX2, TX2, rfl, by decide, fl_X6_121, us_X2⟩
theorem fl_X6_124 : Cond.fieldLink RX6 124 (TX9 10).1 (TX9 10).2.1 (TX9 10).2.2.1 ∈ lw_g := lw_in 372 (by decide +kernel) rfl
theorem fg_X6_124 : pf_ok RX6 124 8 15 10 := ⟨RX9, TX9, rfl, by decide, fl_X6_124, us_X9⟩
theorem fl_X6_128 : Cond.fieldLink RX6 128 (TX5 2).1 (TX5 2).2.1 (TX5 2).2.2.1 ∈ lw_g := lw_in 297 (by decide +kernel) rfl
theorem fg_X6_128 : pf_ok RX6 128 4 3 2 := ⟨RX5, TX5, rfl, by decide, fl_X6_128, us_X5⟩
theorem fl_X6_134 : Cond.fieldLink RX6 134 (TX9 3).1 (TX9 3).2.1 (TX9 3).2.2.1 ∈ lw_g := lw_in 343 (by decide +kernel) rfl
theorem fg_X6_134 : pf_ok RX6 134 8 15 3 := ⟨RX9, TX9, rfl, by decide, fl_X6_134, us_X9⟩
theorem fl_X6_137 : Cond.fieldLink RX6 137 (TX2 2).1 (TX2 2).2.1 (TX2 2).2.2.1 ∈ lw_g := lw_in 235 (by decide +kernel) rfl
theorem fg_X6_137 : pf_ok RX6 137 1 10 2 := ⟨RX2, TX2, rfl, by decide, fl_X6_137, us_X2⟩
theorem fl_X6_140 : Cond.fieldLink RX6 140 (TX2 9).1 (TX2 9).2.1 (TX2 9).2.2.1 ∈ lw_g := lw_in 263 (by decide +kernel) rfl
theorem fg_X6_140 : pf_ok RX6 140 1 10 9 := ⟨RX2, TX2, rfl, by decide, fl_X6_140, us_X2⟩
theorem fl_X6_146 : Cond.fieldLink RX6 146 (TX9 14).1 (TX9 14).2.1 (TX9 14).2.2.1 ∈ lw_g := lw_in 382 (by decide +kernel) rfl
theorem fg_X6_146 : pf_ok RX6 146 8 15 14 := ⟨RX9, TX9, rfl, by decide, fl_X6_146, us_X9⟩
theorem fl_X6_157 : Cond.fieldLink RX6 157 (TX9 7).1 (TX9 7).2.1 (TX9 7).2.2.1 ∈ lw_g := lw_in 361 (by decide +kernel) rfl
theorem fg_X6_157 : pf_ok RX6 157 8 15 7 := ⟨RX9, TX9, rfl, by decide, fl_X6_157, us_X9⟩
theorem fl_X6_160 : Cond.fieldLink RX6 160 (TX9 12).1 (TX9 12).2.1 (TX9 12).2.2.1 ∈ lw_g := lw_in 378 (by decide +kernel) rfl
theorem fg_X6_160 : pf_ok RX6 160 8 15 12 := ⟨RX9, TX9, rfl, by decide, fl_X6_160, us_X9⟩
theorem fl_X6_170 : Cond.fieldLink RX6 170 (TX9 11).1 (TX9 11).2.1 (TX9 11).2.2.1 ∈ lw_g := lw_in 376 (by decide +kernel) rfl
theorem fg_X6_170 : pf_ok RX6 170 8 15 11 := ⟨RX9, TX9, rfl, by decide, fl_X6_170, us_X9⟩
theorem fl_X6_179 : Cond.fieldLink RX6 179 (TX2 5).1 (TX2 5).2.1 (TX2 5).2.2.1 ∈ lw_g := lw_in 250 (by decide +kernel) rfl
theorem fg_X6_179 : pf_ok RX6 179 1 10 5 := ⟨RX2, TX2, rfl, by decide, fl_X6_179, us_X2⟩
theorem fl_X6_182 : Cond.fieldLink RX6 182 (TX2 4).1 (TX2 4).2.1 (TX2 4).2.2.1 ∈ lw_g := lw_in 246 (by decide +kernel) rfl
theorem fg_X6_182 : pf_ok RX6 182 1 10 4 := ⟨RX2, TX2, rfl, by decide, fl_X6_182, us_X2⟩
theorem fl_X6_189 : Cond.fieldLink RX6 189 (TX2 7).1 (TX2 7).2.1 (TX2 7).2.2.1 ∈ lw_g := lw_in 258 (by decide +kernel) rfl
theorem fg_X6_189 : pf_ok RX6 189 1 10 7 := ⟨RX2, TX2, rfl, by decide, fl_X6_189, us_X2⟩
theorem fl_X6_202 : Cond.fieldLink RX6 202 (TX9 8).1 (TX9 8).2.1 (TX9 8).2.2.1 ∈ lw_g := lw_in 365 (by decide +kernel) rfl
theorem fg_X6_202 : pf_ok RX6 202 8 15 8 := ⟨RX9, TX9, rfl, by decide, fl_X6_202, us_X9⟩
theorem fl_X7_11 : Cond.fieldLink RX7 11 (TX7 0).1 (TX7 0).2.1 (TX7 0).2.2.1 ∈ lw_g := lw_in 504 (by decide +kernel) rfl
theorem fg_X7_11 : pf_ok RX7 11 6 3 0 := ⟨RX7, TX7, rfl, by decide, fl_X7_11, us_X7⟩
theorem fp_X7_11 : pp_ok RX7 11 6 3 0 (.array .int) true := ⟨RX7, TX7, tyX7, rfl, by decide, fl_X7_11, us_X7, tyX7_ok, nmX7, rfl, rfl, fun _ => by first | rfl | (rename_i h; cases h)⟩
theorem fl_X7_15 : Cond.fieldLink RX7 15 (TX7 1).1 (TX7 1).2.1 (TX7 1).2.2.1 ∈ lw_g := lw_in 506 (by decide +kernel) rfl
theorem fg_X7_15 : pf_ok RX7 15 6 3 1 := ⟨RX7, TX7, rfl, by decide, fl_X7_15, us_X7⟩
theorem fp_X7_15 : pp_ok RX7 15 6 3 1 (.int) false := ⟨RX7, TX7, tyX7, rfl, by decide, fl_X7_15, us_X7, tyX7_ok, nmX7, rfl, rfl, fun h => by cases h⟩
theorem fl_X7_19 : Cond.fieldLink RX7 19 (TX7 2).1 (TX7 2).2.1 (TX7 2).2.2.1 ∈ lw_g := lw_in 507 (by decide +kernel) rfl
theorem fg_X7_19 : pf_ok RX7 19 6 3 2 := ⟨RX7, TX7, rfl, by decide, fl_X7_19, us_X7⟩
theorem fp_X7_19 : pp_ok RX7 19 6 3 2 (.boolean) false := ⟨RX7, TX7, tyX7, rfl, by decide, fl_X7_19, us_X7, tyX7_ok, nmX7, rfl, rfl, fun h => by cases h⟩
theorem fl_X8_11 : Cond.fieldLink RX8 11 (TX8 0).1 (TX8 0).2.1 (TX8 0).2.2.1 ∈ lw_g := lw_in 156 (by decide +kernel) rfl
theorem fg_X8_11 : pf_ok RX8 11 7 8 0 := ⟨RX8, TX8, rfl, by decide, fl_X8_11, us_X8⟩
theorem fp_X8_11 : pp_ok RX8 11 7 8 0 (.array .byte) true := ⟨RX8, TX8, tyX8, rfl, by decide, fl_X8_11, us_X8, tyX8_ok, nmX8, rfl, rfl, fun _ => by first | rfl | (rename_i h; cases h)⟩
theorem fl_X8_15 : Cond.fieldLink RX8 15 (TX8 1).1 (TX8 1).2.1 (TX8 1).2.2.1 ∈ lw_g := lw_in 158 (by decide +kernel) rfl
theorem fg_X8_15 : pf_ok RX8 15 7 8 1 := ⟨RX8, TX8, rfl, by decide, fl_X8_15, us_X8⟩
theorem fp_X8_15 : pp_ok RX8 15 7 8 1 (.int) false := ⟨RX8, TX8, tyX8, rfl, by decide, fl_X8_15, us_X8, tyX8_ok, nmX8, rfl, rfl, fun h => by cases h⟩
theorem fl_X8_19 : Cond.fieldLink RX8 19 (TX8 2).1 (TX8 2).2.1 (TX8 2).2.2.1 ∈ lw_g := lw_in 159 (by decide +kernel) rfl
theorem fg_X8_19 : pf_ok RX8 19 7 8 2 := ⟨RX8, TX8, rfl, by decide, fl_X8_19, us_X8⟩
theorem fp_X8_19 : pp_ok RX8 19 7 8 2 (.int) false := ⟨RX8, TX8, tyX8, rfl, by decide, fl_X8_19, us_X8, tyX8_ok, nmX8, rfl, rfl, fun h => by cases h⟩
theorem fl_X8_22 : Cond.fieldLink RX8 22 (TX8 3).1 (TX8 3).2.1 (TX8 3).2.2.1 ∈ lw_g := lw_in 161 (by decide +kernel) rfl
theorem fg_X8_22 : pf_ok RX8 22 7 8 3 := ⟨RX8, TX8, rfl, by decide, fl_X8_22, us_X8⟩
theorem fp_X8_22 : pp_ok RX8 22 7 8 3 (.int) false := ⟨RX8, TX8, tyX8, rfl, by decide, fl_X8_22, us_X8, tyX8_ok, nmX8, rfl, rfl, fun h => by cases h⟩
theorem fl_X8_28 : Cond.fieldLink RX8 28 (TX8 4).1 (TX8 4).2.1 (TX8 4).2.2.1 ∈ lw_g := lw_in 162 (by decide +kernel) rfl
theorem fg_X8_28 : pf_ok RX8 28 7 8 4 := ⟨RX8, TX8, rfl, by decide, fl_X8_28, us_X8⟩
theorem fp_X8_28 : pp_ok RX8 28 7 8 4 (.int) false := ⟨RX8, TX8, tyX8, rfl, by decide, fl_X8_28, us_X8, tyX8_ok, nmX8, rfl, rfl, fun h => by cases h⟩
theorem fl_X8_31 : Cond.fieldLink RX8 31 (TX8 5).1 (TX8 5).2.1 (TX8 5).2.2.1 ∈ lw_g := lw_in 165 (by decide +kernel) rfl
theorem fg_X8_31 : pf_ok RX8 31 7 8 5 := ⟨RX8, TX8, rfl, by decide, fl_X8_31, us_X8⟩
theorem fp_X8_31 : pp_ok RX8 31 7 8 5 (.int) false := ⟨RX8, TX8, tyX8, rfl, by decide, fl_X8_31, us_X8, tyX8_ok, nmX8, rfl, rfl, fun h => by cases h⟩
theorem fl_X8_34 : Cond.fieldLink RX8 34 (TX8 6).1 (TX8 6).2.1 (TX8 6).2.2.1 ∈ lw_g := lw_in 166 (by decide +kernel) rfl
theorem fg_X8_34 : pf_ok RX8 34 7 8 6 := ⟨RX8, TX8, rfl, by decide, fl_X8_34, us_X8⟩
theorem fp_X8_34 : pp_ok RX8 34 7 8 6 (.int) false := ⟨RX8, TX8, tyX8, rfl, by decide, fl_X8_34, us_X8, tyX8_ok, nmX8, rfl, rfl, fun h => by cases h⟩
theorem fl_X8_37 : Cond.fieldLink RX8 37 (TX8 7).1 (TX8 7).2.1 (TX8 7).2.2.1 ∈ lw_g := lw_in 168 (by decide +kernel) rfl
theorem fg_X8_37 : pf_ok RX8 37 7 8 7 := ⟨RX8, TX8, rfl, by decide, fl_X8_37, us_X8⟩
theorem fp_X8_37 : pp_ok RX8 37 7 8 7 (.int) false := ⟨RX8, TX8, tyX8, rfl, by decide, fl_X8_37, us_X8, tyX8_ok, nmX8, rfl, rfl, fun h => by cases h⟩
theorem fl_X9_11 : Cond.fieldLink RX9 11 (TX9 0).1 (TX9 0).2.1 (TX9 0).2.2.1 ∈ lw_g := lw_in 332 (by decide +kernel) rfl
theorem fg_X9_11 : pf_ok RX9 11 8 15 0 := ⟨RX9, TX9, rfl, by decide, fl_X9_11, us_X9⟩
theorem fp_X9_11 : pp_ok RX9 11 8 15 0 (.array (.array .int)) true := ⟨RX9, TX9, tyX9, rfl, by decide, fl_X9_11, us_X9, tyX9_ok, nmX9, rfl, rfl, fun _ => by first | rfl | (rename_i h; cases h)⟩
theorem fl_X9_16 : Cond.fieldLink RX9 16 (TX9 1).1 (TX9 1).2.1 (TX9 1).2.2.1 ∈ lw_g := lw_in 334 (by decide +kernel) rfl
theorem fg_X9_16 : pf_ok RX9 16 8 15 1 := ⟨RX9, TX9, rfl, by decide, fl_X9_16, us_X9⟩
theorem fp_X9_16 : pp_ok RX9 16 8 15 1 (.array .int) true := ⟨RX9, TX9, tyX9, rfl, by decide, fl_X9_16, us_X9, tyX9_ok, nmX9, rfl, rfl, fun _ => by first | rfl | (rename_i h; cases h)⟩
theorem fl_X9_20 : Cond.fieldLink RX9 20 (TX9 2).1 (TX9 2).2.1 (TX9 2).2.2.1 ∈ lw_g := lw_in 337 (by decide +kernel) rfl
theorem fg_X9_20 : pf_ok RX9 20 8 15 2 := ⟨RX9, TX9, rfl, by decide, fl_X9_20, us_X9⟩
theorem fp_X9_20 : pp_ok RX9 20 8 15 2 (.array .int) true := ⟨RX9, TX9, tyX9, rfl, by decide, fl_X9_20, us_X9, tyX9_ok, nmX9, rfl, rfl, fun _ => by first | rfl | (rename_i h; cases h)⟩
theorem fl_X9_23 : Cond.fieldLink RX9 23 (TX9 3).1 (TX9 3).2.1 (TX9 3).2.2.1 ∈ lw_g := lw_in 340 (by decide +kernel) rfl
theorem fg_X9_23 : pf_ok RX9 23 8 15 3 := ⟨RX9, TX9, rfl, by decide, fl_X9_23, us_X9⟩
theorem fp_X9_23 : pp_ok RX9 23 8 15 3 (.array .int) true := ⟨RX9, TX9, tyX9, rfl, by decide, fl_X9_23, us_X9, tyX9_ok, nmX9, rfl, rfl, fun _ => by first | rfl | (rename_i h; cases h)⟩
theorem fl_X9_26 : Cond.fieldLink RX9 26 (TX9 4).1 (TX9 4).2.1 (TX9 4).2.2.1 ∈ lw_g := lw_in 344 (by decide +kernel) rfl
theorem fg_X9_26 : pf_ok RX9 26 8 15 4 := ⟨RX9, TX9, rfl, by decide, fl_X9_26, us_X9⟩
theorem fp_X9_26 : pp_ok RX9 26 8 15 4 (.array .int) true := ⟨RX9, TX9, tyX9, rfl, by decide, fl_X9_26, us_X9, tyX9_ok, nmX9, rfl, rfl, fun _ => by first | rfl | (rename_i h; cases h)⟩
theorem fl_X9_29 : Cond.fieldLink RX9 29 (TX9 5).1 (TX9 5).2.1 (TX9 5).2.2.1 ∈ lw_g := lw_in 348 (by decide +kernel) rfl
theorem fg_X9_29 : pf_ok RX9 29 8 15 5 := ⟨RX9, TX9, rfl, by decide, fl_X9_29, us_X9⟩
theorem fp_X9_29 : pp_ok RX9 29 8 15 5 (.array .int) true := ⟨RX9, TX9, tyX9, rfl, by decide, fl_X9_29, us_X9, tyX9_ok, nmX9, rfl, rfl, fun _ => by first | rfl | (rename_i h; cases h)⟩
theorem fl_X9_34 : Cond.fieldLink RX9 34 (TX9 6).1 (TX9 6).2.1 (TX9 6).2.2.1 ∈ lw_g := lw_in 352 (by decide +kernel) rfl
theorem fg_X9_34 : pf_ok RX9 34 8 15 6 := ⟨RX9, TX9, rfl, by decide, fl_X9_34, us_X9⟩
theorem fp_X9_34 : pp_ok RX9 34 8 15 6 (.array (.object "WhistleRoster$Game")) true := ⟨RX9, TX9, tyX9, rfl, by decide, fl_X9_34, us_X9, tyX9_ok, nmX9, rfl, rfl, fun _ => by first | rfl | (rename_i h; cases h)⟩
theorem fl_X9_42 : Cond.fieldLink RX9 42 (TX9 10).1 (TX9 10).2.1 (TX9 10).2.2.1 ∈ lw_g := lw_in 370 (by decide +kernel) rfl
theorem fg_X9_42 : pf_ok RX9 42 8 15 10 := ⟨RX9, TX9, rfl, by decide, fl_X9_42, us_X9⟩
theorem fp_X9_42 : pp_ok RX9 42 8 15 10 (.object "WhistleRoster$Roads") true := ⟨RX9, TX9, tyX9, rfl, by decide, fl_X9_42, us_X9, tyX9_ok, nmX9, rfl, rfl, fun _ => by first | rfl | (rename_i h; cases h)⟩
theorem fl_X9_49 : Cond.fieldLink RX9 49 (TX9 11).1 (TX9 11).2.1 (TX9 11).2.2.1 ∈ lw_g := lw_in 374 (by decide +kernel) rfl
theorem fg_X9_49 : pf_ok RX9 49 8 15 11 := ⟨RX9, TX9, rfl, by decide, fl_X9_49, us_X9⟩
theorem fp_X9_49 : pp_ok RX9 49 8 15 11 (.object "WhistleRoster$Law") true := ⟨RX9, TX9, tyX9, rfl, by decide, fl_X9_49, us_X9, tyX9_ok, nmX9, rfl, rfl, fun _ => by first | rfl | (rename_i h; cases h)⟩
theorem fl_X9_53 : Cond.fieldLink RX9 53 (TX9 12).1 (TX9 12).2.1 (TX9 12).2.2.1 ∈ lw_g := lw_in 377 (by decide +kernel) rfl
theorem fg_X9_53 : pf_ok RX9 53 8 15 12 := ⟨RX9, TX9, rfl, by decide, fl_X9_53, us_X9⟩
theorem fp_X9_53 : pp_ok RX9 53 8 15 12 (.array .int) true := ⟨RX9, TX9, tyX9, rfl, by decide, fl_X9_53, us_X9, tyX9_ok, nmX9, rfl, rfl, fun _ => by first | rfl | (rename_i h; cases h)⟩
theorem fl_X9_56 : Cond.fieldLink RX9 56 (TX9 13).1 (TX9 13).2.1 (TX9 13).2.2.1 ∈ lw_g := lw_in 379 (by decide +kernel) rfl
theorem fg_X9_56 : pf_ok RX9 56 8 15 13 := ⟨RX9, TX9, rfl, by decide, fl_X9_56, us_X9⟩
theorem fp_X9_56 : pp_ok RX9 56 8 15 13 (.array .int) true := ⟨RX9, TX9, tyX9, rfl, by decide, fl_X9_56, us_X9, tyX9_ok, nmX9, rfl, rfl, fun _ => by first | rfl | (rename_i h; cases h)⟩
theorem fl_X9_59 : Cond.fieldLink RX9 59 (TX9 14).1 (TX9 14).2.1 (TX9 14).2.2.1 ∈ lw_g := lw_in 381 (by decide +kernel) rfl
theorem fg_X9_59 : pf_ok RX9 59 8 15 14 := ⟨RX9, TX9, rfl, by decide, fl_X9_59, us_X9⟩
theorem fp_X9_59 : pp_ok RX9 59 8 15 14 (.array .int) true := ⟨RX9, TX9, tyX9, rfl, by decide, fl_X9_59, us_X9, tyX9_ok, nmX9, rfl, rfl, fun _ => by first | rfl | (rename_i h; cases h)⟩
theorem fl_X9_62 : Cond.fieldLink RX9 62 (TX9 8).1 (TX9 8).2.1 (TX9 8).2.2.1 ∈ lw_g := lw_in 362 (by decide +kernel) rfl
theorem fg_X9_62 : pf_ok RX9 62 8 15 8 := ⟨RX9, TX9, rfl, by decide, fl_X9_62, us_X9⟩
theorem fp_X9_62 : pp_ok RX9 62 8 15 8 (.int) false := ⟨RX9, TX9, tyX9, rfl, by decide, fl_X9_62, us_X9, tyX9_ok, nmX9, rfl, rfl, fun h => by cases h⟩
theorem fl_X9_66 : Cond.fieldLink RX9 66 (TX9 9).1 (TX9 9).2.1 (TX9 9).2.2.1 ∈ lw_g := lw_in 366 (by decide +kernel) rfl
theorem fg_X9_66 : pf_ok RX9 66 8 15 9 := ⟨RX9, TX9, rfl, by decide, fl_X9_66, us_X9⟩
theorem fp_X9_66 : pp_ok RX9 66 8 15 9 (.int) false := ⟨RX9, TX9, tyX9, rfl, by decide, fl_X9_66, us_X9, tyX9_ok, nmX9, rfl, rfl, fun h => by cases h⟩
theorem fl_X9_69 : Cond.fieldLink RX9 69 (TX9 7).1 (TX9 7).2.1 (TX9 7).2.2.1 ∈ lw_g := lw_in 357 (by decide +kernel) rfl
theorem fg_X9_69 : pf_ok RX9 69 8 15 7 := ⟨RX9, TX9, rfl, by decide, fl_X9_69, us_X9⟩
theorem fp_X9_69 : pp_ok RX9 69 8 15 7 (.int) false := ⟨RX9, TX9, tyX9, rfl, by decide, fl_X9_69, us_X9, tyX9_ok, nmX9, rfl, rfl, fun h => by cases h⟩
theorem fl_X9_75 : Cond.fieldLink RX9 75 (TX3 1).1 (TX3 1).2.1 (TX3 1).2.2.1 ∈ lw_g := lw_in 315 (by decide +kernel) rfl
theorem fg_X9_75 : pf_ok RX9 75 2 5 1 := ⟨RX3, TX3, rfl, by decide, fl_X9_75, us_X3⟩
theorem fp_X9_75 : pp_ok RX9 75 2 5 1 (.int) false := ⟨RX3, TX3, tyX3, rfl, by decide, fl_X9_75, us_X3, tyX3_ok, nmX3, rfl, rfl, fun h => by cases h⟩
theorem fl_X9_93 : Cond.fieldLink RX9 93 (TX2 7).1 (TX2 7).2.1 (TX2 7).2.2.1 ∈ lw_g := lw_in 257 (by decide +kernel) rfl
theorem fg_X9_93 : pf_ok RX9 93 1 10 7 := ⟨RX2, TX2, rfl, by decide, fl_X9_93, us_X2⟩
theorem fl_X9_100 : Cond.fieldLink RX9 100 (TX2 3).1 (TX2 3).2.1 (TX2 3).2.2.1 ∈ lw_g := lw_in 240 (by decide +kernel) rfl
theorem fg_X9_100 : pf_ok RX9 100 1 10 3 := ⟨RX2, TX2, rfl, by decide, fl_X9_100, us_X2⟩
theorem fl_X9_103 : Cond.fieldLink RX9 103 (TX2 2).1 (TX2 2).2.1 (TX2 2).2.2.1 ∈ lw_g := lw_in 236 (by decide +kernel) rfl
theorem fg_X9_103 : pf_ok RX9 103 1 10 2 := ⟨RX2, TX2, rfl, by decide, fl_X9_103, us_X2⟩
theorem fl_X9_112 : Cond.fieldLink RX9 112 (TX2 8).1 (TX2 8).2.1 (TX2 8).2.2.1 ∈ lw_g := lw_in 261 (by decide +kernel) rfl
theorem fg_X9_112 : pf_ok RX9 112 1 10 8 := ⟨RX2, TX2, rfl, by decide, fl_X9_112, us_X2⟩
theorem fp_X9_112 : pp_ok RX9 112 1 10 8 (.int) false := ⟨RX2, TX2, tyX2, rfl, by decide, fl_X9_112, us_X2, tyX2_ok, nmX2, rfl, rfl, fun h => by cases h⟩
theorem fl_X9_115 : Cond.fieldLink RX9 115 (TX2 9).1 (TX2 9).2.1 (TX2 9).2.2.1 ∈ lw_g := lw_in 264 (by decide +kernel) rfl
theorem fg_X9_115 : pf_ok RX9 115 1 10 9 := ⟨RX2, TX2, rfl, by decide, fl_X9_115, us_X2⟩
theorem fp_X9_115 : pp_ok RX9 115 1 10 9 (.int) false := ⟨RX2, TX2, tyX2, rfl, by decide, fl_X9_115, us_X2, tyX2_ok, nmX2, rfl, rfl, fun h => by cases h⟩
theorem fl_X9_118 : Cond.fieldLink RX9 118 (TX5 2).1 (TX5 2).2.1 (TX5 2).2.2.1 ∈ lw_g := lw_in 299 (by decide +kernel) rfl
theorem fg_X9_118 : pf_ok RX9 118 4 3 2 := ⟨RX5, TX5, rfl, by decide, fl_X9_118, us_X5⟩
theorem fl_X9_125 : Cond.fieldLink RX9 125 (TX2 4).1 (TX2 4).2.1 (TX2 4).2.2.1 ∈ lw_g := lw_in 245 (by decide +kernel) rfl
theorem fg_X9_125 : pf_ok RX9 125 1 10 4 := ⟨RX2, TX2, rfl, by decide, fl_X9_125, us_X2⟩
theorem fs_J0_38 : Cond.fieldLink RJ0 38 "java/lang/String" "COMPACT_STRINGS" "Z" ∈ lw_g := lw_in 1537 (by decide +kernel) rfl
theorem fs_J0_1053 : Cond.fieldLink RJ0 1053 "jdk/internal/util/Preconditions" "SIOOBE_FORMATTER" "Ljava/util/function/BiFunction;" ∈ lw_g := lw_in 1556 (by decide +kernel) rfl
theorem fs_J2_44 : Cond.fieldLink RJ2 44 "java/lang/StringUTF16" "$assertionsDisabled" "Z" ∈ lw_g := lw_in 1574 (by decide +kernel) rfl
theorem fs_J2_59 : Cond.fieldLink RJ2 59 "java/lang/StringUTF16" "HI_BYTE_SHIFT" "I" ∈ lw_g := lw_in 1576 (by decide +kernel) rfl
theorem fs_J2_63 : Cond.fieldLink RJ2 63 "java/lang/StringUTF16" "LO_BYTE_SHIFT" "I" ∈ lw_g := lw_in 1578 (by decide +kernel) rfl
theorem fs_X10_111 : Cond.fieldLink RX10 111 "WhistleRoster$Word" "ALL" "[LWhistleRoster$Word;" ∈ lw_g := lw_in 597 (by decide +kernel) rfl
theorem fs_X4_68 : Cond.fieldLink RX4 68 "WhistleRoster$1" "$SwitchMap$WhistleRoster$Word" "[I" ∈ lw_g := lw_in 604 (by decide +kernel) rfl
theorem fs_X4_124 : Cond.fieldLink RX4 124 "WhistleRoster$Word" "AT" "LWhistleRoster$Word;" ∈ lw_g := lw_in 650 (by decide +kernel) rfl
theorem fs_X4_135 : Cond.fieldLink RX4 135 "WhistleRoster$Word" "NO" "LWhistleRoster$Word;" ∈ lw_g := lw_in 665 (by decide +kernel) rfl
theorem fs_X4_171 : Cond.fieldLink RX4 171 "WhistleRoster$Word" "TO" "LWhistleRoster$Word;" ∈ lw_g := lw_in 683 (by decide +kernel) rfl
theorem fs_X4_196 : Cond.fieldLink RX4 196 "WhistleRoster$Word" "ON" "LWhistleRoster$Word;" ∈ lw_g := lw_in 693 (by decide +kernel) rfl
theorem fs_X4_205 : Cond.fieldLink RX4 205 "WhistleRoster$Word" "FOR" "LWhistleRoster$Word;" ∈ lw_g := lw_in 695 (by decide +kernel) rfl
theorem fs_X4_211 : Cond.fieldLink RX4 211 "WhistleRoster$Word" "GRADE" "LWhistleRoster$Word;" ∈ lw_g := lw_in 697 (by decide +kernel) rfl
theorem fs_X4_219 : Cond.fieldLink RX4 219 "WhistleRoster$Word" "BY" "LWhistleRoster$Word;" ∈ lw_g := lw_in 699 (by decide +kernel) rfl
theorem fs_X9_78 : Cond.fieldLink RX9 78 "WhistleRoster$Week" "LIMITS" "[I" ∈ lw_g := lw_in 620 (by decide +kernel) rfl
theorem fc_J0_coder_7d493 : Cond.code yJ0_coder_7d493 cJ0_coder_7d493 1 (some (.byte)) ∈ lw_g := lw_in 1536 (by decide +kernel) rfl
theorem fi_J0_coder_7d493 : Cond.instanceMethod yJ0_coder_7d493 ∈ lw_g := lw_in 1534 (by decide +kernel) rfl
theorem fv_J0_335 : pc_V RJ0 335 yJ0_coder_7d493 cJ0_coder_7d493 1 (some (.byte)) 0 := ⟨⟨lw_in 1533 (by decide +kernel) rfl, lw_in 130 (by decide +kernel) rfl, fc_J0_coder_7d493, ⟨by decide +kernel, by decide +kernel, by decide +kernel⟩, by decide⟩, fi_J0_coder_7d493, lw_in 1535 (by decide +kernel) rfl⟩
theorem fc_J0_isLatin1_aae02 : Cond.code yJ0_isLatin1_aae02 cJ0_isLatin1_aae02 1 (some (.boolean)) ∈ lw_g := lw_in 1549 (by decide +kernel) rfl
theorem fi_J0_isLatin1_aae02 : Cond.instanceMethod yJ0_isLatin1_aae02 ∈ lw_g := lw_in 1547 (by decide +kernel) rfl
theorem fv_J0_492 : pc_V RJ0 492 yJ0_isLatin1_aae02 cJ0_isLatin1_aae02 1 (some (.boolean)) 0 := ⟨⟨lw_in 1546 (by decide +kernel) rfl, lw_in 130 (by decide +kernel) rfl, fc_J0_isLatin1_aae02, ⟨by decide +kernel, by decide +kernel, by decide +kernel⟩, by decide⟩, fi_J0_isLatin1_aae02, lw_in 1548 (by decide +kernel) rfl⟩
theorem fc_J1_charAt_3b067 : Cond.code yJ1_charAt_3b067 cJ1_charAt_3b067 2 (some (.char)) ∈ lw_g := lw_in 1552 (by decide +kernel) rfl
theorem fv_J0_495 : pc_S RJ0 495 yJ1_charAt_3b067 cJ1_charAt_3b067 2 (some (.char)) 2 := ⟨⟨lw_in 1550 (by decide +kernel) rfl, lw_in 131 (by decide +kernel) rfl, fc_J1_charAt_3b067, ⟨by decide +kernel, by decide +kernel, by decide +kernel⟩, by decide⟩, lw_in 1551 (by decide +kernel) rfl⟩
theorem fc_J2_charAt_3b067 : Cond.code yJ2_charAt_3b067 cJ2_charAt_3b067 2 (some (.char)) ∈ lw_g := lw_in 1563 (by decide +kernel) rfl
theorem fv_J0_498 : pc_S RJ0 498 yJ2_charAt_3b067 cJ2_charAt_3b067 2 (some (.char)) 2 := ⟨⟨lw_in 1561 (by decide +kernel) rfl, lw_in 133 (by decide +kernel) rfl, fc_J2_charAt_3b067, ⟨by decide +kernel, by decide +kernel, by decide +kernel⟩, by decide⟩, lw_in 1562 (by decide +kernel) rfl⟩
theorem fc_J3_checkIndex_8e157 : Cond.code yJ3_checkIndex_8e157 cJ3_checkIndex_8e157 3 (some (.int)) ∈ lw_g := lw_in 1560 (by decide +kernel) rfl
theorem fv_J0_1059 : pc_S RJ0 1059 yJ3_checkIndex_8e157 cJ3_checkIndex_8e157 3 (some (.int)) 3 := ⟨⟨lw_in 1558 (by decide +kernel) rfl, lw_in 132 (by decide +kernel) rfl, fc_J3_checkIndex_8e157, ⟨by decide +kernel, by decide +kernel, by decide +kernel⟩, by decide⟩, lw_in 1559 (by decide +kernel) rfl⟩
theorem fc_J0_checkIndex_df160 : Cond.code yJ0_checkIndex_df160 cJ0_checkIndex_df160 2 none ∈ lw_g := lw_in 1555 (by decide +kernel) rfl
theorem fv_J1_9 : pc_S RJ1 9 yJ0_checkIndex_df160 cJ0_checkIndex_df160 2 none 2 := ⟨⟨lw_in 1553 (by decide +kernel) rfl, lw_in 130 (by decide +kernel) rfl, fc_J0_checkIndex_df160, ⟨by decide +kernel, by decide +kernel, by decide +kernel⟩, by decide⟩, lw_in 1554 (by decide +kernel) rfl⟩
theorem fc_J2_length_9d52b : Cond.code yJ2_length_9d52b cJ2_length_9d52b 1 (some (.int)) ∈ lw_g := lw_in 1569 (by decide +kernel) rfl
theorem fv_J2_48 : pc_S RJ2 48 yJ2_length_9d52b cJ2_length_9d52b 1 (some (.int)) 1 := ⟨⟨lw_in 1567 (by decide +kernel) rfl, lw_in 133 (by decide +kernel) rfl, fc_J2_length_9d52b, ⟨by decide +kernel, by decide +kernel, by decide +kernel⟩, by decide⟩, lw_in 1568 (by decide +kernel) rfl⟩
theorem fc_J2_checkIndex_2214a : Cond.code yJ2_checkIndex_2214a cJ2_checkIndex_2214a 2 none ∈ lw_g := lw_in 1566 (by decide +kernel) rfl
theorem fv_J2_67 : pc_S RJ2 67 yJ2_checkIndex_2214a cJ2_checkIndex_2214a 2 none 2 := ⟨⟨lw_in 1564 (by decide +kernel) rfl, lw_in 133 (by decide +kernel) rfl, fc_J2_checkIndex_2214a, ⟨by decide +kernel, by decide +kernel, by decide +kernel⟩, by decide⟩, lw_in 1565 (by decide +kernel) rfl⟩
theorem fc_J2_getChar_3b067 : Cond.code yJ2_getChar_3b067 cJ2_getChar_3b067 2 (some (.char)) ∈ lw_g := lw_in 1573 (by decide +kernel) rfl
theorem fv_J2_71 : pc_S RJ2 71 yJ2_getChar_3b067 cJ2_getChar_3b067 2 (some (.char)) 2 := ⟨⟨lw_in 1571 (by decide +kernel) rfl, lw_in 133 (by decide +kernel) rfl, fc_J2_getChar_3b067, ⟨by decide +kernel, by decide +kernel, by decide +kernel⟩, by decide⟩, lw_in 1572 (by decide +kernel) rfl⟩
theorem fv_J2_414 : pc_S RJ2 414 yJ0_checkIndex_df160 cJ0_checkIndex_df160 2 none 2 := ⟨⟨lw_in 1570 (by decide +kernel) rfl, lw_in 130 (by decide +kernel) rfl, fc_J0_checkIndex_df160, ⟨by decide +kernel, by decide +kernel, by decide +kernel⟩, by decide⟩, lw_in 1554 (by decide +kernel) rfl⟩
theorem fc_X11_shelf : Cond.code yX11_shelf cX11_shelf 4 (some (.int)) ∈ lw_g := lw_in 1202 (by decide +kernel) rfl
theorem fi_X11_shelf : Cond.instanceMethod yX11_shelf ∈ lw_g := lw_in 1200 (by decide +kernel) rfl
theorem fv_L_7 : pc_V RL 7 yX11_shelf cX11_shelf 4 (some (.int)) 3 := ⟨⟨lw_in 1199 (by decide +kernel) rfl, lw_in 116 (by decide +kernel) rfl, fc_X11_shelf, ⟨by decide +kernel, by decide +kernel, by decide +kernel⟩, by decide⟩, fi_X11_shelf, lw_in 1201 (by decide +kernel) rfl⟩
theorem fc_X11_lay : Cond.code yX11_lay cX11_lay 5 (some (.boolean)) ∈ lw_g := lw_in 1299 (by decide +kernel) rfl
theorem fi_X11_lay : Cond.instanceMethod yX11_lay ∈ lw_g := lw_in 1297 (by decide +kernel) rfl
theorem fv_L_17 : pc_V RL 17 yX11_lay cX11_lay 5 (some (.boolean)) 4 := ⟨⟨lw_in 1296 (by decide +kernel) rfl, lw_in 116 (by decide +kernel) rfl, fc_X11_lay, ⟨by decide +kernel, by decide +kernel, by decide +kernel⟩, by decide⟩, fi_X11_lay, lw_in 1298 (by decide +kernel) rfl⟩
theorem fc_X11_look : Cond.code yX11_look cX11_look 3 (some (.long)) ∈ lw_g := lw_in 1311 (by decide +kernel) rfl
theorem fi_X11_look : Cond.instanceMethod yX11_look ∈ lw_g := lw_in 1309 (by decide +kernel) rfl
theorem fv_L_21 : pc_V RL 21 yX11_look cX11_look 3 (some (.long)) 2 := ⟨⟨lw_in 1308 (by decide +kernel) rfl, lw_in 116 (by decide +kernel) rfl, fc_X11_look, ⟨by decide +kernel, by decide +kernel, by decide +kernel⟩, by decide⟩, fi_X11_look, lw_in 1310 (by decide +kernel) rfl⟩
theorem fc_X11_init : Cond.code yX11_init cX11_init 2 none ∈ lw_g := lw_in 146 (by decide +kernel) rfl
theorem fi_X11_init : Cond.instanceMethod yX11_init ∈ lw_g := lw_in 145 (by decide +kernel) rfl
theorem fv_L_25 : pc_I RL 25 yX11_init cX11_init 2 0 := ⟨⟨lw_in 144 (by decide +kernel) rfl, lw_in 116 (by decide +kernel) rfl, fc_X11_init, ⟨by decide +kernel, by decide +kernel, by decide +kernel⟩, by decide⟩, rfl, fi_X11_init⟩
theorem fc_X12_init : Cond.code yX12_init cX12_init 2 none ∈ lw_g := lw_in 1317 (by decide +kernel) rfl
theorem fi_X12_init : Cond.instanceMethod yX12_init ∈ lw_g := lw_in 1316 (by decide +kernel) rfl
theorem fv_L_28 : pc_I RL 28 yX12_init cX12_init 2 0 := ⟨⟨lw_in 1315 (by decide +kernel) rfl, lw_in 126 (by decide +kernel) rfl, fc_X12_init, ⟨by decide +kernel, by decide +kernel, by decide +kernel⟩, by decide⟩, rfl, fi_X12_init⟩
theorem fc_X11_feed : Cond.code yX11_feed cX11_feed 6 (some (.int)) ∈ lw_g := lw_in 553 (by decide +kernel) rfl
theorem fi_X11_feed : Cond.instanceMethod yX11_feed ∈ lw_g := lw_in 551 (by decide +kernel) rfl
theorem fv_L_29 : pc_V RL 29 yX11_feed cX11_feed 6 (some (.int)) 5 := ⟨⟨lw_in 550 (by decide +kernel) rfl, lw_in 116 (by decide +kernel) rfl, fc_X11_feed, ⟨by decide +kernel, by decide +kernel, by decide +kernel⟩, by decide⟩, fi_X11_feed, lw_in 552 (by decide +kernel) rfl⟩
theorem fc_X12_feed : Cond.code yX12_feed cX12_feed 6 (some (.int)) ∈ lw_g := lw_in 1490 (by decide +kernel) rfl
theorem fi_X12_feed : Cond.instanceMethod yX12_feed ∈ lw_g := lw_in 1488 (by decide +kernel) rfl
theorem fv_L_33 : pc_V RL 33 yX12_feed cX12_feed 6 (some (.int)) 5 := ⟨⟨lw_in 1487 (by decide +kernel) rfl, lw_in 126 (by decide +kernel) rfl, fc_X12_feed, ⟨by decide +kernel, by decide +kernel, by decide +kernel⟩, by decide⟩, fi_X12_feed, lw_in 1489 (by decide +kernel) rfl⟩
theorem fc_X11_end : Cond.code yX11_end cX11_end 2 (some (.boolean)) ∈ lw_g := lw_in 561 (by decide +kernel) rfl
theorem fi_X11_end : Cond.instanceMethod yX11_end ∈ lw_g := lw_in 559 (by decide +kernel) rfl
theorem fv_L_34 : pc_V RL 34 yX11_end cX11_end 2 (some (.boolean)) 1 := ⟨⟨lw_in 558 (by decide +kernel) rfl, lw_in 116 (by decide +kernel) rfl, fc_X11_end, ⟨by decide +kernel, by decide +kernel, by decide +kernel⟩, by decide⟩, fi_X11_end, lw_in 560 (by decide +kernel) rfl⟩
theorem fc_X12_end : Cond.code yX12_end cX12_end 2 (some (.boolean)) ∈ lw_g := lw_in 1498 (by decide +kernel) rfl
theorem fi_X12_end : Cond.instanceMethod yX12_end ∈ lw_g := lw_in 1496 (by decide +kernel) rfl
theorem fv_L_38 : pc_V RL 38 yX12_end cX12_end 2 (some (.boolean)) 1 := ⟨⟨lw_in 1495 (by decide +kernel) rfl, lw_in 126 (by decide +kernel) rfl, fc_X12_end, ⟨by decide +kernel, by decide +kernel, by decide +kernel⟩, by decide⟩, fi_X12_end, lw_in 1497 (by decide +kernel) rfl⟩
theorem fc_X11_week : Cond.code yX11_week cX11_week 3 (some (.int)) ∈ lw_g := lw_in 565 (by decide +kernel) rfl
theorem fi_X11_week : Cond.instanceMethod yX11_week ∈ lw_g := lw_in 563 (by decide +kernel) rfl
theorem fv_L_39 : pc_V RL 39 yX11_week cX11_week 3 (some (.int)) 0 := ⟨⟨lw_in 562 (by decide +kernel) rfl, lw_in 116 (by decide +kernel) rfl, fc_X11_week, ⟨by decide +kernel, by decide +kernel, by decide +kernel⟩, by decide⟩, fi_X11_week, lw_in 564 (by decide +kernel) rfl⟩
theorem fc_X12_week : Cond.code yX12_week cX12_week 2 (some (.int)) ∈ lw_g := lw_in 1505 (by decide +kernel) rfl
theorem fi_X12_week : Cond.instanceMethod yX12_week ∈ lw_g := lw_in 1503 (by decide +kernel) rfl
theorem fv_L_43 : pc_V RL 43 yX12_week cX12_week 2 (some (.int)) 0 := ⟨⟨lw_in 1502 (by decide +kernel) rfl, lw_in 126 (by decide +kernel) rfl, fc_X12_week, ⟨by decide +kernel, by decide +kernel, by decide +kernel⟩, by decide⟩, fi_X12_week, lw_in 1504 (by decide +kernel) rfl⟩
theorem fc_X11_fault : Cond.code yX11_fault cX11_fault 2 (some (.int)) ∈ lw_g := lw_in 765 (by decide +kernel) rfl
theorem fi_X11_fault : Cond.instanceMethod yX11_fault ∈ lw_g := lw_in 763 (by decide +kernel) rfl
theorem fv_L_44 : pc_V RL 44 yX11_fault cX11_fault 2 (some (.int)) 1 := ⟨⟨lw_in 762 (by decide +kernel) rfl, lw_in 116 (by decide +kernel) rfl, fc_X11_fault, ⟨by decide +kernel, by decide +kernel, by decide +kernel⟩, by decide⟩, fi_X11_fault, lw_in 764 (by decide +kernel) rfl⟩
theorem fc_X12_fault : Cond.code yX12_fault cX12_fault 2 (some (.int)) ∈ lw_g := lw_in 1717 (by decide +kernel) rfl
theorem fi_X12_fault : Cond.instanceMethod yX12_fault ∈ lw_g := lw_in 1715 (by decide +kernel) rfl
theorem fv_L_48 : pc_V RL 48 yX12_fault cX12_fault 2 (some (.int)) 1 := ⟨⟨lw_in 1714 (by decide +kernel) rfl, lw_in 126 (by decide +kernel) rfl, fc_X12_fault, ⟨by decide +kernel, by decide +kernel, by decide +kernel⟩, by decide⟩, fi_X12_fault, lw_in 1716 (by decide +kernel) rfl⟩
theorem fc_X11_has : Cond.code yX11_has cX11_has 2 (some (.int)) ∈ lw_g := lw_in 769 (by decide +kernel) rfl
theorem fi_X11_has : Cond.instanceMethod yX11_has ∈ lw_g := lw_in 767 (by decide +kernel) rfl
theorem fv_L_49 : pc_V RL 49 yX11_has cX11_has 2 (some (.int)) 1 := ⟨⟨lw_in 766 (by decide +kernel) rfl, lw_in 116 (by decide +kernel) rfl, fc_X11_has, ⟨by decide +kernel, by decide +kernel, by decide +kernel⟩, by decide⟩, fi_X11_has, lw_in 768 (by decide +kernel) rfl⟩
theorem fc_X12_has : Cond.code yX12_has cX12_has 6 (some (.int)) ∈ lw_g := lw_in 1725 (by decide +kernel) rfl
theorem fi_X12_has : Cond.instanceMethod yX12_has ∈ lw_g := lw_in 1723 (by decide +kernel) rfl
theorem fv_L_52 : pc_V RL 52 yX12_has cX12_has 6 (some (.int)) 1 := ⟨⟨lw_in 1722 (by decide +kernel) rfl, lw_in 126 (by decide +kernel) rfl, fc_X12_has, ⟨by decide +kernel, by decide +kernel, by decide +kernel⟩, by decide⟩, fi_X12_has, lw_in 1724 (by decide +kernel) rfl⟩
theorem fc_X11_letter : Cond.code yX11_letter cX11_letter 4 (some (.int)) ∈ lw_g := lw_in 791 (by decide +kernel) rfl
theorem fi_X11_letter : Cond.instanceMethod yX11_letter ∈ lw_g := lw_in 789 (by decide +kernel) rfl
theorem fv_L_53 : pc_V RL 53 yX11_letter cX11_letter 4 (some (.int)) 3 := ⟨⟨lw_in 788 (by decide +kernel) rfl, lw_in 116 (by decide +kernel) rfl, fc_X11_letter, ⟨by decide +kernel, by decide +kernel, by decide +kernel⟩, by decide⟩, fi_X11_letter, lw_in 790 (by decide +kernel) rfl⟩
theorem fc_X12_letter : Cond.code yX12_letter cX12_letter 4 (some (.int)) ∈ lw_g := lw_in 1739 (by decide +kernel) rfl
theorem fi_X12_letter : Cond.instanceMethod yX12_letter ∈ lw_g := lw_in 1737 (by decide +kernel) rfl
theorem fv_L_56 : pc_V RL 56 yX12_letter cX12_letter 4 (some (.int)) 3 := ⟨⟨lw_in 1736 (by decide +kernel) rfl, lw_in 126 (by decide +kernel) rfl, fc_X12_letter, ⟨by decide +kernel, by decide +kernel, by decide +kernel⟩, by decide⟩, fi_X12_letter, lw_in 1738 (by decide +kernel) rfl⟩
theorem fc_X11_one : Cond.code yX11_one cX11_one 3 (some (.int)) ∈ lw_g := lw_in 802 (by decide +kernel) rfl
theorem fi_X11_one : Cond.instanceMethod yX11_one ∈ lw_g := lw_in 800 (by decide +kernel) rfl
theorem fv_L_57 : pc_V RL 57 yX11_one cX11_one 3 (some (.int)) 2 := ⟨⟨lw_in 799 (by decide +kernel) rfl, lw_in 116 (by decide +kernel) rfl, fc_X11_one, ⟨by decide +kernel, by decide +kernel, by decide +kernel⟩, by decide⟩, fi_X11_one, lw_in 801 (by decide +kernel) rfl⟩
theorem fc_X12_one_ : Cond.code yX12_one_ cX12_one_ 3 (some (.int)) ∈ lw_g := lw_in 1747 (by decide +kernel) rfl
theorem fi_X12_one_ : Cond.instanceMethod yX12_one_ ∈ lw_g := lw_in 1745 (by decide +kernel) rfl
theorem fv_L_61 : pc_V RL 61 yX12_one_ cX12_one_ 3 (some (.int)) 2 := ⟨⟨lw_in 1744 (by decide +kernel) rfl, lw_in 126 (by decide +kernel) rfl, fc_X12_one_, ⟨by decide +kernel, by decide +kernel, by decide +kernel⟩, by decide⟩, fi_X12_one_, lw_in 1746 (by decide +kernel) rfl⟩
theorem fc_X11_formBits : Cond.code yX11_formBits cX11_formBits 2 (some (.int)) ∈ lw_g := lw_in 807 (by decide +kernel) rfl
theorem fi_X11_formBits : Cond.instanceMethod yX11_formBits ∈ lw_g := lw_in 805 (by decide +kernel) rfl
theorem fv_L_62 : pc_V RL 62 yX11_formBits cX11_formBits 2 (some (.int)) 1 := ⟨⟨lw_in 804 (by decide +kernel) rfl, lw_in 116 (by decide +kernel) rfl, fc_X11_formBits, ⟨by decide +kernel, by decide +kernel, by decide +kernel⟩, by decide⟩, fi_X11_formBits, lw_in 806 (by decide +kernel) rfl⟩
theorem fc_X12_formBits : Cond.code yX12_formBits cX12_formBits 2 (some (.int)) ∈ lw_g := lw_in 1759 (by decide +kernel) rfl
theorem fi_X12_formBits : Cond.instanceMethod yX12_formBits ∈ lw_g := lw_in 1757 (by decide +kernel) rfl
theorem fv_L_65 : pc_V RL 65 yX12_formBits cX12_formBits 2 (some (.int)) 1 := ⟨⟨lw_in 1756 (by decide +kernel) rfl, lw_in 126 (by decide +kernel) rfl, fc_X12_formBits, ⟨by decide +kernel, by decide +kernel, by decide +kernel⟩, by decide⟩, fi_X12_formBits, lw_in 1758 (by decide +kernel) rfl⟩
theorem fc_X11_game : Cond.code yX11_game cX11_game 4 (some (.int)) ∈ lw_g := lw_in 816 (by decide +kernel) rfl
theorem fi_X11_game : Cond.instanceMethod yX11_game ∈ lw_g := lw_in 814 (by decide +kernel) rfl
theorem fv_L_66 : pc_V RL 66 yX11_game cX11_game 4 (some (.int)) 2 := ⟨⟨lw_in 813 (by decide +kernel) rfl, lw_in 116 (by decide +kernel) rfl, fc_X11_game, ⟨by decide +kernel, by decide +kernel, by decide +kernel⟩, by decide⟩, fi_X11_game, lw_in 815 (by decide +kernel) rfl⟩
theorem fc_X12_game : Cond.code yX12_game cX12_game 3 (some (.int)) ∈ lw_g := lw_in 1768 (by decide +kernel) rfl
theorem fi_X12_game : Cond.instanceMethod yX12_game ∈ lw_g := lw_in 1766 (by decide +kernel) rfl
theorem fv_L_69 : pc_V RL 69 yX12_game cX12_game 3 (some (.int)) 2 := ⟨⟨lw_in 1765 (by decide +kernel) rfl, lw_in 126 (by decide +kernel) rfl, fc_X12_game, ⟨by decide +kernel, by decide +kernel, by decide +kernel⟩, by decide⟩, fi_X12_game, lw_in 1767 (by decide +kernel) rfl⟩
theorem fc_X11_seat : Cond.code yX11_seat cX11_seat 5 (some (.int)) ∈ lw_g := lw_in 832 (by decide +kernel) rfl
theorem fi_X11_seat : Cond.instanceMethod yX11_seat ∈ lw_g := lw_in 830 (by decide +kernel) rfl
theorem fv_L_70 : pc_V RL 70 yX11_seat cX11_seat 5 (some (.int)) 3 := ⟨⟨lw_in 829 (by decide +kernel) rfl, lw_in 116 (by decide +kernel) rfl, fc_X11_seat, ⟨by decide +kernel, by decide +kernel, by decide +kernel⟩, by decide⟩, fi_X11_seat, lw_in 831 (by decide +kernel) rfl⟩
theorem fc_X12_seat : Cond.code yX12_seat cX12_seat 4 (some (.int)) ∈ lw_g := lw_in 1785 (by decide +kernel) rfl
theorem fi_X12_seat : Cond.instanceMethod yX12_seat ∈ lw_g := lw_in 1783 (by decide +kernel) rfl
theorem fv_L_73 : pc_V RL 73 yX12_seat cX12_seat 4 (some (.int)) 3 := ⟨⟨lw_in 1782 (by decide +kernel) rfl, lw_in 126 (by decide +kernel) rfl, fc_X12_seat, ⟨by decide +kernel, by decide +kernel, by decide +kernel⟩, by decide⟩, fi_X12_seat, lw_in 1784 (by decide +kernel) rfl⟩
theorem fc_X11_way : Cond.code yX11_way cX11_way 3 (some (.int)) ∈ lw_g := lw_in 844 (by decide +kernel) rfl
theorem fi_X11_way : Cond.instanceMethod yX11_way ∈ lw_g := lw_in 842 (by decide +kernel) rfl
theorem fv_L_74 : pc_V RL 74 yX11_way cX11_way 3 (some (.int)) 2 := ⟨⟨lw_in 841 (by decide +kernel) rfl, lw_in 116 (by decide +kernel) rfl, fc_X11_way, ⟨by decide +kernel, by decide +kernel, by decide +kernel⟩, by decide⟩, fi_X11_way, lw_in 843 (by decide +kernel) rfl⟩
theorem fc_X12_way : Cond.code yX12_way cX12_way 3 (some (.int)) ∈ lw_g := lw_in 1793 (by decide +kernel) rfl
theorem fi_X12_way : Cond.instanceMethod yX12_way ∈ lw_g := lw_in 1791 (by decide +kernel) rfl
theorem fv_L_77 : pc_V RL 77 yX12_way cX12_way 3 (some (.int)) 2 := ⟨⟨lw_in 1790 (by decide +kernel) rfl, lw_in 126 (by decide +kernel) rfl, fc_X12_way, ⟨by decide +kernel, by decide +kernel, by decide +kernel⟩, by decide⟩, fi_X12_way, lw_in 1792 (by decide +kernel) rfl⟩
theorem fc_X11_toward : Cond.code yX11_toward cX11_toward 3 (some (.int)) ∈ lw_g := lw_in 853 (by decide +kernel) rfl
theorem fi_X11_toward : Cond.instanceMethod yX11_toward ∈ lw_g := lw_in 851 (by decide +kernel) rfl
theorem fv_L_78 : pc_V RL 78 yX11_toward cX11_toward 3 (some (.int)) 2 := ⟨⟨lw_in 850 (by decide +kernel) rfl, lw_in 116 (by decide +kernel) rfl, fc_X11_toward, ⟨by decide +kernel, by decide +kernel, by decide +kernel⟩, by decide⟩, fi_X11_toward, lw_in 852 (by decide +kernel) rfl⟩
theorem fc_X12_toward : Cond.code yX12_toward cX12_toward 4 (some (.int)) ∈ lw_g := lw_in 1805 (by decide +kernel) rfl
theorem fi_X12_toward : Cond.instanceMethod yX12_toward ∈ lw_g := lw_in 1803 (by decide +kernel) rfl
theorem fv_L_81 : pc_V RL 81 yX12_toward cX12_toward 4 (some (.int)) 2 := ⟨⟨lw_in 1802 (by decide +kernel) rfl, lw_in 126 (by decide +kernel) rfl, fc_X12_toward, ⟨by decide +kernel, by decide +kernel, by decide +kernel⟩, by decide⟩, fi_X12_toward, lw_in 1804 (by decide +kernel) rfl⟩
theorem fc_X11_hub : Cond.code yX11_hub cX11_hub 1 (some (.int)) ∈ lw_g := lw_in 861 (by decide +kernel) rfl
theorem fi_X11_hub : Cond.instanceMethod yX11_hub ∈ lw_g := lw_in 859 (by decide +kernel) rfl
theorem fv_L_82 : pc_V RL 82 yX11_hub cX11_hub 1 (some (.int)) 0 := ⟨⟨lw_in 858 (by decide +kernel) rfl, lw_in 116 (by decide +kernel) rfl, fc_X11_hub, ⟨by decide +kernel, by decide +kernel, by decide +kernel⟩, by decide⟩, fi_X11_hub, lw_in 860 (by decide +kernel) rfl⟩
theorem fc_X12_hub : Cond.code yX12_hub cX12_hub 6 (some (.int)) ∈ lw_g := lw_in 1809 (by decide +kernel) rfl
theorem fi_X12_hub : Cond.instanceMethod yX12_hub ∈ lw_g := lw_in 1807 (by decide +kernel) rfl
theorem fv_L_85 : pc_V RL 85 yX12_hub cX12_hub 6 (some (.int)) 0 := ⟨⟨lw_in 1806 (by decide +kernel) rfl, lw_in 126 (by decide +kernel) rfl, fc_X12_hub, ⟨by decide +kernel, by decide +kernel, by decide +kernel⟩, by decide⟩, fi_X12_hub, lw_in 1808 (by decide +kernel) rfl⟩
theorem fc_X11_why : Cond.code yX11_why cX11_why 4 (some (.int)) ∈ lw_g := lw_in 873 (by decide +kernel) rfl
theorem fi_X11_why : Cond.instanceMethod yX11_why ∈ lw_g := lw_in 871 (by decide +kernel) rfl
theorem fv_L_86 : pc_V RL 86 yX11_why cX11_why 4 (some (.int)) 3 := ⟨⟨lw_in 870 (by decide +kernel) rfl, lw_in 116 (by decide +kernel) rfl, fc_X11_why, ⟨by decide +kernel, by decide +kernel, by decide +kernel⟩, by decide⟩, fi_X11_why, lw_in 872 (by decide +kernel) rfl⟩
theorem fc_X12_why : Cond.code yX12_why cX12_why 4 (some (.int)) ∈ lw_g := lw_in 1813 (by decide +kernel) rfl
theorem fi_X12_why : Cond.instanceMethod yX12_why ∈ lw_g := lw_in 1811 (by decide +kernel) rfl
theorem fv_L_89 : pc_V RL 89 yX12_why cX12_why 4 (some (.int)) 3 := ⟨⟨lw_in 1810 (by decide +kernel) rfl, lw_in 126 (by decide +kernel) rfl, fc_X12_why, ⟨by decide +kernel, by decide +kernel, by decide +kernel⟩, by decide⟩, fi_X12_why, lw_in 1812 (by decide +kernel) rfl⟩
theorem fc_X11_put : Cond.code yX11_put cX11_put 5 (some (.int)) ∈ lw_g := lw_in 897 (by decide +kernel) rfl
theorem fi_X11_put : Cond.instanceMethod yX11_put ∈ lw_g := lw_in 895 (by decide +kernel) rfl
theorem fv_L_90 : pc_V RL 90 yX11_put cX11_put 5 (some (.int)) 3 := ⟨⟨lw_in 894 (by decide +kernel) rfl, lw_in 116 (by decide +kernel) rfl, fc_X11_put, ⟨by decide +kernel, by decide +kernel, by decide +kernel⟩, by decide⟩, fi_X11_put, lw_in 896 (by decide +kernel) rfl⟩
theorem fc_X12_put : Cond.code yX12_put cX12_put 5 (some (.int)) ∈ lw_g := lw_in 1855 (by decide +kernel) rfl
theorem fi_X12_put : Cond.instanceMethod yX12_put ∈ lw_g := lw_in 1853 (by decide +kernel) rfl
theorem fv_L_93 : pc_V RL 93 yX12_put cX12_put 5 (some (.int)) 3 := ⟨⟨lw_in 1852 (by decide +kernel) rfl, lw_in 126 (by decide +kernel) rfl, fc_X12_put, ⟨by decide +kernel, by decide +kernel, by decide +kernel⟩, by decide⟩, fi_X12_put, lw_in 1854 (by decide +kernel) rfl⟩
theorem fc_X11_drop : Cond.code yX11_drop cX11_drop 4 (some (.int)) ∈ lw_g := lw_in 916 (by decide +kernel) rfl
theorem fi_X11_drop : Cond.instanceMethod yX11_drop ∈ lw_g := lw_in 914 (by decide +kernel) rfl
theorem fv_L_94 : pc_V RL 94 yX11_drop cX11_drop 4 (some (.int)) 2 := ⟨⟨lw_in 913 (by decide +kernel) rfl, lw_in 116 (by decide +kernel) rfl, fc_X11_drop, ⟨by decide +kernel, by decide +kernel, by decide +kernel⟩, by decide⟩, fi_X11_drop, lw_in 915 (by decide +kernel) rfl⟩
theorem fc_X12_drop : Cond.code yX12_drop cX12_drop 4 (some (.int)) ∈ lw_g := lw_in 1863 (by decide +kernel) rfl
theorem fi_X12_drop : Cond.instanceMethod yX12_drop ∈ lw_g := lw_in 1861 (by decide +kernel) rfl
theorem fv_L_97 : pc_V RL 97 yX12_drop cX12_drop 4 (some (.int)) 2 := ⟨⟨lw_in 1860 (by decide +kernel) rfl, lw_in 126 (by decide +kernel) rfl, fc_X12_drop, ⟨by decide +kernel, by decide +kernel, by decide +kernel⟩, by decide⟩, fi_X12_drop, lw_in 1862 (by decide +kernel) rfl⟩
theorem fc_X11_swap : Cond.code yX11_swap cX11_swap 6 (some (.int)) ∈ lw_g := lw_in 924 (by decide +kernel) rfl
theorem fi_X11_swap : Cond.instanceMethod yX11_swap ∈ lw_g := lw_in 922 (by decide +kernel) rfl
theorem fv_L_98 : pc_V RL 98 yX11_swap cX11_swap 6 (some (.int)) 4 := ⟨⟨lw_in 921 (by decide +kernel) rfl, lw_in 116 (by decide +kernel) rfl, fc_X11_swap, ⟨by decide +kernel, by decide +kernel, by decide +kernel⟩, by decide⟩, fi_X11_swap, lw_in 923 (by decide +kernel) rfl⟩
theorem fc_X12_swap : Cond.code yX12_swap cX12_swap 6 (some (.int)) ∈ lw_g := lw_in 1867 (by decide +kernel) rfl
theorem fi_X12_swap : Cond.instanceMethod yX12_swap ∈ lw_g := lw_in 1865 (by decide +kernel) rfl
theorem fv_L_102 : pc_V RL 102 yX12_swap cX12_swap 6 (some (.int)) 4 := ⟨⟨lw_in 1864 (by decide +kernel) rfl, lw_in 126 (by decide +kernel) rfl, fc_X12_swap, ⟨by decide +kernel, by decide +kernel, by decide +kernel⟩, by decide⟩, fi_X12_swap, lw_in 1866 (by decide +kernel) rfl⟩
theorem fc_X11_could : Cond.code yX11_could cX11_could 5 (some (.int)) ∈ lw_g := lw_in 938 (by decide +kernel) rfl
theorem fi_X11_could : Cond.instanceMethod yX11_could ∈ lw_g := lw_in 936 (by decide +kernel) rfl
theorem fv_L_103 : pc_V RL 103 yX11_could cX11_could 5 (some (.int)) 4 := ⟨⟨lw_in 935 (by decide +kernel) rfl, lw_in 116 (by decide +kernel) rfl, fc_X11_could, ⟨by decide +kernel, by decide +kernel, by decide +kernel⟩, by decide⟩, fi_X11_could, lw_in 937 (by decide +kernel) rfl⟩
theorem fc_X12_could : Cond.code yX12_could cX12_could 5 (some (.int)) ∈ lw_g := lw_in 1879 (by decide +kernel) rfl
theorem fi_X12_could : Cond.instanceMethod yX12_could ∈ lw_g := lw_in 1877 (by decide +kernel) rfl
theorem fv_L_106 : pc_V RL 106 yX12_could cX12_could 5 (some (.int)) 4 := ⟨⟨lw_in 1876 (by decide +kernel) rfl, lw_in 126 (by decide +kernel) rfl, fc_X12_could, ⟨by decide +kernel, by decide +kernel, by decide +kernel⟩, by decide⟩, fi_X12_could, lw_in 1878 (by decide +kernel) rfl⟩
theorem fc_X11_able : Cond.code yX11_able cX11_able 5 (some (.int)) ∈ lw_g := lw_in 942 (by decide +kernel) rfl
theorem fi_X11_able : Cond.instanceMethod yX11_able ∈ lw_g := lw_in 940 (by decide +kernel) rfl
theorem fv_L_107 : pc_V RL 107 yX11_able cX11_able 5 (some (.int)) 2 := ⟨⟨lw_in 939 (by decide +kernel) rfl, lw_in 116 (by decide +kernel) rfl, fc_X11_able, ⟨by decide +kernel, by decide +kernel, by decide +kernel⟩, by decide⟩, fi_X11_able, lw_in 941 (by decide +kernel) rfl⟩
theorem fc_X12_able : Cond.code yX12_able cX12_able 5 (some (.int)) ∈ lw_g := lw_in 1883 (by decide +kernel) rfl
theorem fi_X12_able : Cond.instanceMethod yX12_able ∈ lw_g := lw_in 1881 (by decide +kernel) rfl
theorem fv_L_110 : pc_V RL 110 yX12_able cX12_able 5 (some (.int)) 2 := ⟨⟨lw_in 1880 (by decide +kernel) rfl, lw_in 126 (by decide +kernel) rfl, fc_X12_able, ⟨by decide +kernel, by decide +kernel, by decide +kernel⟩, by decide⟩, fi_X12_able, lw_in 1882 (by decide +kernel) rfl⟩
theorem fc_X11_best : Cond.code yX11_best cX11_best 3 (some (.int)) ∈ lw_g := lw_in 946 (by decide +kernel) rfl
theorem fi_X11_best : Cond.instanceMethod yX11_best ∈ lw_g := lw_in 944 (by decide +kernel) rfl
theorem fv_L_111 : pc_V RL 111 yX11_best cX11_best 3 (some (.int)) 2 := ⟨⟨lw_in 943 (by decide +kernel) rfl, lw_in 116 (by decide +kernel) rfl, fc_X11_best, ⟨by decide +kernel, by decide +kernel, by decide +kernel⟩, by decide⟩, fi_X11_best, lw_in 945 (by decide +kernel) rfl⟩
theorem fc_X12_best : Cond.code yX12_best cX12_best 11 (some (.int)) ∈ lw_g := lw_in 1939 (by decide +kernel) rfl
theorem fi_X12_best : Cond.instanceMethod yX12_best ∈ lw_g := lw_in 1937 (by decide +kernel) rfl
theorem fv_L_114 : pc_V RL 114 yX12_best cX12_best 11 (some (.int)) 2 := ⟨⟨lw_in 1936 (by decide +kernel) rfl, lw_in 126 (by decide +kernel) rfl, fc_X12_best, ⟨by decide +kernel, by decide +kernel, by decide +kernel⟩, by decide⟩, fi_X12_best, lw_in 1938 (by decide +kernel) rfl⟩
theorem fc_X11_extra : Cond.code yX11_extra cX11_extra 4 (some (.int)) ∈ lw_g := lw_in 993 (by decide +kernel) rfl
theorem fi_X11_extra : Cond.instanceMethod yX11_extra ∈ lw_g := lw_in 991 (by decide +kernel) rfl
theorem fv_L_115 : pc_V RL 115 yX11_extra cX11_extra 4 (some (.int)) 3 := ⟨⟨lw_in 990 (by decide +kernel) rfl, lw_in 116 (by decide +kernel) rfl, fc_X11_extra, ⟨by decide +kernel, by decide +kernel, by decide +kernel⟩, by decide⟩, fi_X11_extra, lw_in 992 (by decide +kernel) rfl⟩
theorem fc_X12_extra : Cond.code yX12_extra cX12_extra 4 (some (.int)) ∈ lw_g := lw_in 1887 (by decide +kernel) rfl
theorem fi_X12_extra : Cond.instanceMethod yX12_extra ∈ lw_g := lw_in 1885 (by decide +kernel) rfl
theorem fv_L_118 : pc_V RL 118 yX12_extra cX12_extra 4 (some (.int)) 3 := ⟨⟨lw_in 1884 (by decide +kernel) rfl, lw_in 126 (by decide +kernel) rfl, fc_X12_extra, ⟨by decide +kernel, by decide +kernel, by decide +kernel⟩, by decide⟩, fi_X12_extra, lw_in 1886 (by decide +kernel) rfl⟩
theorem fc_X11_fee : Cond.code yX11_fee cX11_fee 4 (some (.long)) ∈ lw_g := lw_in 998 (by decide +kernel) rfl
theorem fi_X11_fee : Cond.instanceMethod yX11_fee ∈ lw_g := lw_in 996 (by decide +kernel) rfl
theorem fv_L_119 : pc_V RL 119 yX11_fee cX11_fee 4 (some (.long)) 3 := ⟨⟨lw_in 995 (by decide +kernel) rfl, lw_in 116 (by decide +kernel) rfl, fc_X11_fee, ⟨by decide +kernel, by decide +kernel, by decide +kernel⟩, by decide⟩, fi_X11_fee, lw_in 997 (by decide +kernel) rfl⟩
theorem fc_X12_fee : Cond.code yX12_fee cX12_fee 4 (some (.long)) ∈ lw_g := lw_in 1917 (by decide +kernel) rfl
theorem fi_X12_fee : Cond.instanceMethod yX12_fee ∈ lw_g := lw_in 1915 (by decide +kernel) rfl
theorem fv_L_123 : pc_V RL 123 yX12_fee cX12_fee 4 (some (.long)) 3 := ⟨⟨lw_in 1914 (by decide +kernel) rfl, lw_in 126 (by decide +kernel) rfl, fc_X12_fee, ⟨by decide +kernel, by decide +kernel, by decide +kernel⟩, by decide⟩, fi_X12_fee, lw_in 1916 (by decide +kernel) rfl⟩
theorem fc_X11_fees : Cond.code yX11_fees cX11_fees 2 (some (.long)) ∈ lw_g := lw_in 1004 (by decide +kernel) rfl
theorem fi_X11_fees : Cond.instanceMethod yX11_fees ∈ lw_g := lw_in 1002 (by decide +kernel) rfl
theorem fv_L_124 : pc_V RL 124 yX11_fees cX11_fees 2 (some (.long)) 1 := ⟨⟨lw_in 1001 (by decide +kernel) rfl, lw_in 116 (by decide +kernel) rfl, fc_X11_fees, ⟨by decide +kernel, by decide +kernel, by decide +kernel⟩, by decide⟩, fi_X11_fees, lw_in 1003 (by decide +kernel) rfl⟩
theorem fc_X12_fees : Cond.code yX12_fees cX12_fees 9 (some (.long)) ∈ lw_g := lw_in 1935 (by decide +kernel) rfl
theorem fi_X12_fees : Cond.instanceMethod yX12_fees ∈ lw_g := lw_in 1933 (by decide +kernel) rfl
theorem fv_L_128 : pc_V RL 128 yX12_fees cX12_fees 9 (some (.long)) 1 := ⟨⟨lw_in 1932 (by decide +kernel) rfl, lw_in 126 (by decide +kernel) rfl, fc_X12_fees, ⟨by decide +kernel, by decide +kernel, by decide +kernel⟩, by decide⟩, fi_X12_fees, lw_in 1934 (by decide +kernel) rfl⟩
theorem fc_X11_crew : Cond.code yX11_crew cX11_crew 3 (some (.int)) ∈ lw_g := lw_in 1014 (by decide +kernel) rfl
theorem fi_X11_crew : Cond.instanceMethod yX11_crew ∈ lw_g := lw_in 1012 (by decide +kernel) rfl
theorem fv_L_129 : pc_V RL 129 yX11_crew cX11_crew 3 (some (.int)) 2 := ⟨⟨lw_in 1011 (by decide +kernel) rfl, lw_in 116 (by decide +kernel) rfl, fc_X11_crew, ⟨by decide +kernel, by decide +kernel, by decide +kernel⟩, by decide⟩, fi_X11_crew, lw_in 1013 (by decide +kernel) rfl⟩
theorem fc_X12_crew : Cond.code yX12_crew cX12_crew 3 (some (.int)) ∈ lw_g := lw_in 1944 (by decide +kernel) rfl
theorem fi_X12_crew : Cond.instanceMethod yX12_crew ∈ lw_g := lw_in 1942 (by decide +kernel) rfl
theorem fv_L_132 : pc_V RL 132 yX12_crew cX12_crew 3 (some (.int)) 2 := ⟨⟨lw_in 1941 (by decide +kernel) rfl, lw_in 126 (by decide +kernel) rfl, fc_X12_crew, ⟨by decide +kernel, by decide +kernel, by decide +kernel⟩, by decide⟩, fi_X12_crew, lw_in 1943 (by decide +kernel) rfl⟩
theorem fc_X11_fill : Cond.code yX11_fill cX11_fill 2 (some (.int)) ∈ lw_g := lw_in 1035 (by decide +kernel) rfl
theorem fi_X11_fill : Cond.instanceMethod yX11_fill ∈ lw_g := lw_in 1033 (by decide +kernel) rfl
theorem fv_L_133 : pc_V RL 133 yX11_fill cX11_fill 2 (some (.int)) 0 := ⟨⟨lw_in 1032 (by decide +kernel) rfl, lw_in 116 (by decide +kernel) rfl, fc_X11_fill, ⟨by decide +kernel, by decide +kernel, by decide +kernel⟩, by decide⟩, fi_X11_fill, lw_in 1034 (by decide +kernel) rfl⟩
theorem fc_X12_fill : Cond.code yX12_fill cX12_fill 3 (some (.int)) ∈ lw_g := lw_in 1952 (by decide +kernel) rfl
theorem fi_X12_fill : Cond.instanceMethod yX12_fill ∈ lw_g := lw_in 1950 (by decide +kernel) rfl
theorem fv_L_136 : pc_V RL 136 yX12_fill cX12_fill 3 (some (.int)) 0 := ⟨⟨lw_in 1949 (by decide +kernel) rfl, lw_in 126 (by decide +kernel) rfl, fc_X12_fill, ⟨by decide +kernel, by decide +kernel, by decide +kernel⟩, by decide⟩, fi_X12_fill, lw_in 1951 (by decide +kernel) rfl⟩
theorem fc_X11_steps : Cond.code yX11_steps cX11_steps 4 (some (.int)) ∈ lw_g := lw_in 1057 (by decide +kernel) rfl
theorem fi_X11_steps : Cond.instanceMethod yX11_steps ∈ lw_g := lw_in 1055 (by decide +kernel) rfl
theorem fv_L_137 : pc_V RL 137 yX11_steps cX11_steps 4 (some (.int)) 3 := ⟨⟨lw_in 1054 (by decide +kernel) rfl, lw_in 116 (by decide +kernel) rfl, fc_X11_steps, ⟨by decide +kernel, by decide +kernel, by decide +kernel⟩, by decide⟩, fi_X11_steps, lw_in 1056 (by decide +kernel) rfl⟩
theorem fc_X12_steps : Cond.code yX12_steps cX12_steps 6 (some (.int)) ∈ lw_g := lw_in 1964 (by decide +kernel) rfl
theorem fi_X12_steps : Cond.instanceMethod yX12_steps ∈ lw_g := lw_in 1962 (by decide +kernel) rfl
theorem fv_L_140 : pc_V RL 140 yX12_steps cX12_steps 6 (some (.int)) 3 := ⟨⟨lw_in 1961 (by decide +kernel) rfl, lw_in 126 (by decide +kernel) rfl, fc_X12_steps, ⟨by decide +kernel, by decide +kernel, by decide +kernel⟩, by decide⟩, fi_X12_steps, lw_in 1963 (by decide +kernel) rfl⟩
theorem fc_X11_unsound : Cond.code yX11_unsound cX11_unsound 2 (some (.int)) ∈ lw_g := lw_in 1082 (by decide +kernel) rfl
theorem fi_X11_unsound : Cond.instanceMethod yX11_unsound ∈ lw_g := lw_in 1080 (by decide +kernel) rfl
theorem fv_L_141 : pc_V RL 141 yX11_unsound cX11_unsound 2 (some (.int)) 1 := ⟨⟨lw_in 1079 (by decide +kernel) rfl, lw_in 116 (by decide +kernel) rfl, fc_X11_unsound, ⟨by decide +kernel, by decide +kernel, by decide +kernel⟩, by decide⟩, fi_X11_unsound, lw_in 1081 (by decide +kernel) rfl⟩
theorem fc_X12_unsound : Cond.code yX12_unsound cX12_unsound 4 (some (.int)) ∈ lw_g := lw_in 1977 (by decide +kernel) rfl
theorem fi_X12_unsound : Cond.instanceMethod yX12_unsound ∈ lw_g := lw_in 1975 (by decide +kernel) rfl
theorem fv_L_144 : pc_V RL 144 yX12_unsound cX12_unsound 4 (some (.int)) 1 := ⟨⟨lw_in 1974 (by decide +kernel) rfl, lw_in 126 (by decide +kernel) rfl, fc_X12_unsound, ⟨by decide +kernel, by decide +kernel, by decide +kernel⟩, by decide⟩, fi_X12_unsound, lw_in 1976 (by decide +kernel) rfl⟩
theorem fc_X11_exchange : Cond.code yX11_exchange cX11_exchange 2 (some (.int)) ∈ lw_g := lw_in 1090 (by decide +kernel) rfl
theorem fi_X11_exchange : Cond.instanceMethod yX11_exchange ∈ lw_g := lw_in 1088 (by decide +kernel) rfl
theorem fv_L_145 : pc_V RL 145 yX11_exchange cX11_exchange 2 (some (.int)) 1 := ⟨⟨lw_in 1087 (by decide +kernel) rfl, lw_in 116 (by decide +kernel) rfl, fc_X11_exchange, ⟨by decide +kernel, by decide +kernel, by decide +kernel⟩, by decide⟩, fi_X11_exchange, lw_in 1089 (by decide +kernel) rfl⟩
theorem fc_X12_exchange : Cond.code yX12_exchange cX12_exchange 10 (some (.int)) ∈ lw_g := lw_in 1985 (by decide +kernel) rfl
theorem fi_X12_exchange : Cond.instanceMethod yX12_exchange ∈ lw_g := lw_in 1983 (by decide +kernel) rfl
theorem fv_L_148 : pc_V RL 148 yX12_exchange cX12_exchange 10 (some (.int)) 1 := ⟨⟨lw_in 1982 (by decide +kernel) rfl, lw_in 126 (by decide +kernel) rfl, fc_X12_exchange, ⟨by decide +kernel, by decide +kernel, by decide +kernel⟩, by decide⟩, fi_X12_exchange, lw_in 1984 (by decide +kernel) rfl⟩
theorem fc_X11_round : Cond.code yX11_round cX11_round 3 (some (.int)) ∈ lw_g := lw_in 1108 (by decide +kernel) rfl
theorem fi_X11_round : Cond.instanceMethod yX11_round ∈ lw_g := lw_in 1106 (by decide +kernel) rfl
theorem fv_L_149 : pc_V RL 149 yX11_round cX11_round 3 (some (.int)) 2 := ⟨⟨lw_in 1105 (by decide +kernel) rfl, lw_in 116 (by decide +kernel) rfl, fc_X11_round, ⟨by decide +kernel, by decide +kernel, by decide +kernel⟩, by decide⟩, fi_X11_round, lw_in 1107 (by decide +kernel) rfl⟩
theorem fc_X12_round : Cond.code yX12_round cX12_round 3 (some (.int)) ∈ lw_g := lw_in 1907 (by decide +kernel) rfl
theorem fi_X12_round : Cond.instanceMethod yX12_round ∈ lw_g := lw_in 1905 (by decide +kernel) rfl
theorem fv_L_152 : pc_V RL 152 yX12_round cX12_round 3 (some (.int)) 2 := ⟨⟨lw_in 1904 (by decide +kernel) rfl, lw_in 126 (by decide +kernel) rfl, fc_X12_round, ⟨by decide +kernel, by decide +kernel, by decide +kernel⟩, by decide⟩, fi_X12_round, lw_in 1906 (by decide +kernel) rfl⟩
theorem fc_X11_trip : Cond.code yX11_trip cX11_trip 4 (some (.int)) ∈ lw_g := lw_in 1113 (by decide +kernel) rfl
theorem fi_X11_trip : Cond.instanceMethod yX11_trip ∈ lw_g := lw_in 1111 (by decide +kernel) rfl
theorem fv_L_153 : pc_V RL 153 yX11_trip cX11_trip 4 (some (.int)) 3 := ⟨⟨lw_in 1110 (by decide +kernel) rfl, lw_in 116 (by decide +kernel) rfl, fc_X11_trip, ⟨by decide +kernel, by decide +kernel, by decide +kernel⟩, by decide⟩, fi_X11_trip, lw_in 1112 (by decide +kernel) rfl⟩
theorem fc_X12_trip : Cond.code yX12_trip cX12_trip 8 (some (.int)) ∈ lw_g := lw_in 1912 (by decide +kernel) rfl
theorem fi_X12_trip : Cond.instanceMethod yX12_trip ∈ lw_g := lw_in 1910 (by decide +kernel) rfl
theorem fv_L_156 : pc_V RL 156 yX12_trip cX12_trip 8 (some (.int)) 3 := ⟨⟨lw_in 1909 (by decide +kernel) rfl, lw_in 126 (by decide +kernel) rfl, fc_X12_trip, ⟨by decide +kernel, by decide +kernel, by decide +kernel⟩, by decide⟩, fi_X12_trip, lw_in 1911 (by decide +kernel) rfl⟩
theorem fc_X11_spread : Cond.code yX11_spread cX11_spread 2 (some (.int)) ∈ lw_g := lw_in 1126 (by decide +kernel) rfl
theorem fi_X11_spread : Cond.instanceMethod yX11_spread ∈ lw_g := lw_in 1124 (by decide +kernel) rfl
theorem fv_L_157 : pc_V RL 157 yX11_spread cX11_spread 2 (some (.int)) 1 := ⟨⟨lw_in 1123 (by decide +kernel) rfl, lw_in 116 (by decide +kernel) rfl, fc_X11_spread, ⟨by decide +kernel, by decide +kernel, by decide +kernel⟩, by decide⟩, fi_X11_spread, lw_in 1125 (by decide +kernel) rfl⟩
theorem fc_X12_spread : Cond.code yX12_spread cX12_spread 5 (some (.int)) ∈ lw_g := lw_in 1993 (by decide +kernel) rfl
theorem fi_X12_spread : Cond.instanceMethod yX12_spread ∈ lw_g := lw_in 1991 (by decide +kernel) rfl
theorem fv_L_160 : pc_V RL 160 yX12_spread cX12_spread 5 (some (.int)) 1 := ⟨⟨lw_in 1990 (by decide +kernel) rfl, lw_in 126 (by decide +kernel) rfl, fc_X12_spread, ⟨by decide +kernel, by decide +kernel, by decide +kernel⟩, by decide⟩, fi_X12_spread, lw_in 1992 (by decide +kernel) rfl⟩
theorem fc_X11_day : Cond.code yX11_day cX11_day 1 (some (.int)) ∈ lw_g := lw_in 1134 (by decide +kernel) rfl
theorem fi_X11_day : Cond.instanceMethod yX11_day ∈ lw_g := lw_in 1132 (by decide +kernel) rfl
theorem fv_L_161 : pc_V RL 161 yX11_day cX11_day 1 (some (.int)) 0 := ⟨⟨lw_in 1131 (by decide +kernel) rfl, lw_in 116 (by decide +kernel) rfl, fc_X11_day, ⟨by decide +kernel, by decide +kernel, by decide +kernel⟩, by decide⟩, fi_X11_day, lw_in 1133 (by decide +kernel) rfl⟩
theorem fc_X12_day : Cond.code yX12_day cX12_day 1 (some (.int)) ∈ lw_g := lw_in 1997 (by decide +kernel) rfl
theorem fi_X12_day : Cond.instanceMethod yX12_day ∈ lw_g := lw_in 1995 (by decide +kernel) rfl
theorem fv_L_164 : pc_V RL 164 yX12_day cX12_day 1 (some (.int)) 0 := ⟨⟨lw_in 1994 (by decide +kernel) rfl, lw_in 126 (by decide +kernel) rfl, fc_X12_day, ⟨by decide +kernel, by decide +kernel, by decide +kernel⟩, by decide⟩, fi_X12_day, lw_in 1996 (by decide +kernel) rfl⟩
theorem fc_X11_play : Cond.code yX11_play cX11_play 2 (some (.int)) ∈ lw_g := lw_in 1138 (by decide +kernel) rfl
theorem fi_X11_play : Cond.instanceMethod yX11_play ∈ lw_g := lw_in 1136 (by decide +kernel) rfl
theorem fv_L_165 : pc_V RL 165 yX11_play cX11_play 2 (some (.int)) 1 := ⟨⟨lw_in 1135 (by decide +kernel) rfl, lw_in 116 (by decide +kernel) rfl, fc_X11_play, ⟨by decide +kernel, by decide +kernel, by decide +kernel⟩, by decide⟩, fi_X11_play, lw_in 1137 (by decide +kernel) rfl⟩
theorem fc_X12_play : Cond.code yX12_play cX12_play 5 (some (.int)) ∈ lw_g := lw_in 2001 (by decide +kernel) rfl
theorem fi_X12_play : Cond.instanceMethod yX12_play ∈ lw_g := lw_in 1999 (by decide +kernel) rfl
theorem fv_L_168 : pc_V RL 168 yX12_play cX12_play 5 (some (.int)) 1 := ⟨⟨lw_in 1998 (by decide +kernel) rfl, lw_in 126 (by decide +kernel) rfl, fc_X12_play, ⟨by decide +kernel, by decide +kernel, by decide +kernel⟩, by decide⟩, fi_X12_play, lw_in 2000 (by decide +kernel) rfl⟩
theorem fc_X11_mark : Cond.code yX11_mark cX11_mark 5 (some (.int)) ∈ lw_g := lw_in 1153 (by decide +kernel) rfl
theorem fi_X11_mark : Cond.instanceMethod yX11_mark ∈ lw_g := lw_in 1151 (by decide +kernel) rfl
theorem fv_L_169 : pc_V RL 169 yX11_mark cX11_mark 5 (some (.int)) 3 := ⟨⟨lw_in 1150 (by decide +kernel) rfl, lw_in 116 (by decide +kernel) rfl, fc_X11_mark, ⟨by decide +kernel, by decide +kernel, by decide +kernel⟩, by decide⟩, fi_X11_mark, lw_in 1152 (by decide +kernel) rfl⟩
theorem fc_X12_mark : Cond.code yX12_mark cX12_mark 4 (some (.int)) ∈ lw_g := lw_in 2012 (by decide +kernel) rfl
theorem fi_X12_mark : Cond.instanceMethod yX12_mark ∈ lw_g := lw_in 2010 (by decide +kernel) rfl
theorem fv_L_172 : pc_V RL 172 yX12_mark cX12_mark 4 (some (.int)) 3 := ⟨⟨lw_in 2009 (by decide +kernel) rfl, lw_in 126 (by decide +kernel) rfl, fc_X12_mark, ⟨by decide +kernel, by decide +kernel, by decide +kernel⟩, by decide⟩, fi_X12_mark, lw_in 2011 (by decide +kernel) rfl⟩
theorem fc_X11_review : Cond.code yX11_review cX11_review 3 (some (.int)) ∈ lw_g := lw_in 1162 (by decide +kernel) rfl
theorem fi_X11_review : Cond.instanceMethod yX11_review ∈ lw_g := lw_in 1160 (by decide +kernel) rfl
theorem fv_L_173 : pc_V RL 173 yX11_review cX11_review 3 (some (.int)) 2 := ⟨⟨lw_in 1159 (by decide +kernel) rfl, lw_in 116 (by decide +kernel) rfl, fc_X11_review, ⟨by decide +kernel, by decide +kernel, by decide +kernel⟩, by decide⟩, fi_X11_review, lw_in 1161 (by decide +kernel) rfl⟩
theorem fc_X12_review : Cond.code yX12_review cX12_review 8 (some (.int)) ∈ lw_g := lw_in 2017 (by decide +kernel) rfl
theorem fi_X12_review : Cond.instanceMethod yX12_review ∈ lw_g := lw_in 2015 (by decide +kernel) rfl
theorem fv_L_176 : pc_V RL 176 yX12_review cX12_review 8 (some (.int)) 2 := ⟨⟨lw_in 2014 (by decide +kernel) rfl, lw_in 126 (by decide +kernel) rfl, fc_X12_review, ⟨by decide +kernel, by decide +kernel, by decide +kernel⟩, by decide⟩, fi_X12_review, lw_in 2016 (by decide +kernel) rfl⟩
theorem fc_X11_rank : Cond.code yX11_rank cX11_rank 2 (some (.int)) ∈ lw_g := lw_in 1188 (by decide +kernel) rfl
theorem fi_X11_rank : Cond.instanceMethod yX11_rank ∈ lw_g := lw_in 1186 (by decide +kernel) rfl
theorem fv_L_177 : pc_V RL 177 yX11_rank cX11_rank 2 (some (.int)) 1 := ⟨⟨lw_in 1185 (by decide +kernel) rfl, lw_in 116 (by decide +kernel) rfl, fc_X11_rank, ⟨by decide +kernel, by decide +kernel, by decide +kernel⟩, by decide⟩, fi_X11_rank, lw_in 1187 (by decide +kernel) rfl⟩
theorem fc_X12_rank : Cond.code yX12_rank cX12_rank 5 (some (.int)) ∈ lw_g := lw_in 2036 (by decide +kernel) rfl
theorem fi_X12_rank : Cond.instanceMethod yX12_rank ∈ lw_g := lw_in 2034 (by decide +kernel) rfl
theorem fv_L_180 : pc_V RL 180 yX12_rank cX12_rank 5 (some (.int)) 1 := ⟨⟨lw_in 2033 (by decide +kernel) rfl, lw_in 126 (by decide +kernel) rfl, fc_X12_rank, ⟨by decide +kernel, by decide +kernel, by decide +kernel⟩, by decide⟩, fi_X12_rank, lw_in 2035 (by decide +kernel) rfl⟩
theorem fc_X11_undo : Cond.code yX11_undo cX11_undo 1 (some (.int)) ∈ lw_g := lw_in 1193 (by decide +kernel) rfl
theorem fi_X11_undo : Cond.instanceMethod yX11_undo ∈ lw_g := lw_in 1191 (by decide +kernel) rfl
theorem fv_L_181 : pc_V RL 181 yX11_undo cX11_undo 1 (some (.int)) 0 := ⟨⟨lw_in 1190 (by decide +kernel) rfl, lw_in 116 (by decide +kernel) rfl, fc_X11_undo, ⟨by decide +kernel, by decide +kernel, by decide +kernel⟩, by decide⟩, fi_X11_undo, lw_in 1192 (by decide +kernel) rfl⟩
theorem fc_X12_undo : Cond.code yX12_undo cX12_undo 3 (some (.int)) ∈ lw_g := lw_in 1721 (by decide +kernel) rfl
theorem fi_X12_undo : Cond.instanceMethod yX12_undo ∈ lw_g := lw_in 1719 (by decide +kernel) rfl
theorem fv_L_184 : pc_V RL 184 yX12_undo cX12_undo 3 (some (.int)) 0 := ⟨⟨lw_in 1718 (by decide +kernel) rfl, lw_in 126 (by decide +kernel) rfl, fc_X12_undo, ⟨by decide +kernel, by decide +kernel, by decide +kernel⟩, by decide⟩, fi_X12_undo, lw_in 1720 (by decide +kernel) rfl⟩
theorem fc_X12_shelf : Cond.code yX12_shelf cX12_shelf 5 (some (.int)) ∈ lw_g := lw_in 2040 (by decide +kernel) rfl
theorem fi_X12_shelf : Cond.instanceMethod yX12_shelf ∈ lw_g := lw_in 2038 (by decide +kernel) rfl
theorem fv_L_190 : pc_V RL 190 yX12_shelf cX12_shelf 5 (some (.int)) 3 := ⟨⟨lw_in 2037 (by decide +kernel) rfl, lw_in 126 (by decide +kernel) rfl, fc_X12_shelf, ⟨by decide +kernel, by decide +kernel, by decide +kernel⟩, by decide⟩, fi_X12_shelf, lw_in 2039 (by decide +kernel) rfl⟩
theorem fc_X12_thrown : Cond.code yX12_thrown cX12_thrown 1 (some (.int)) ∈ lw_g := lw_in 1486 (by decide +kernel) rfl
theorem fi_X12_thrown : Cond.instanceMethod yX12_thrown ∈ lw_g := lw_in 1484 (by decide +kernel) rfl
theorem fv_L_191 : pc_V RL 191 yX12_thrown cX12_thrown 1 (some (.int)) 0 := ⟨⟨lw_in 1483 (by decide +kernel) rfl, lw_in 126 (by decide +kernel) rfl, fc_X12_thrown, ⟨by decide +kernel, by decide +kernel, by decide +kernel⟩, by decide⟩, fi_X12_thrown, lw_in 1485 (by decide +kernel) rfl⟩
theorem fc_X12_lay : Cond.code yX12_lay cX12_lay 5 (some (.boolean)) ∈ lw_g := lw_in 2045 (by decide +kernel) rfl
theorem fi_X12_lay : Cond.instanceMethod yX12_lay ∈ lw_g := lw_in 2043 (by decide +kernel) rfl
theorem fv_L_197 : pc_V RL 197 yX12_lay cX12_lay 5 (some (.boolean)) 4 := ⟨⟨lw_in 2042 (by decide +kernel) rfl, lw_in 126 (by decide +kernel) rfl, fc_X12_lay, ⟨by decide +kernel, by decide +kernel, by decide +kernel⟩, by decide⟩, fi_X12_lay, lw_in 2044 (by decide +kernel) rfl⟩
theorem fc_X12_look : Cond.code yX12_look cX12_look 3 (some (.long)) ∈ lw_g := lw_in 2053 (by decide +kernel) rfl
theorem fi_X12_look : Cond.instanceMethod yX12_look ∈ lw_g := lw_in 2051 (by decide +kernel) rfl
theorem fv_L_201 : pc_V RL 201 yX12_look cX12_look 3 (some (.long)) 2 := ⟨⟨lw_in 2050 (by decide +kernel) rfl, lw_in 126 (by decide +kernel) rfl, fc_X12_look, ⟨by decide +kernel, by decide +kernel, by decide +kernel⟩, by decide⟩, fi_X12_look, lw_in 2052 (by decide +kernel) rfl⟩
theorem fc_X6_officials : Cond.code yX6_officials cX6_officials 1 (some (.int)) ∈ lw_g := lw_in 781 (by decide +kernel) rfl
theorem fi_X6_officials : Cond.instanceMethod yX6_officials ∈ lw_g := lw_in 779 (by decide +kernel) rfl
theorem fv_X1_28 : pc_V RX1 28 yX6_officials cX6_officials 1 (some (.int)) 0 := ⟨⟨lw_in 951 (by decide +kernel) rfl, lw_in 123 (by decide +kernel) rfl, fc_X6_officials, ⟨by decide +kernel, by decide +kernel, by decide +kernel⟩, by decide⟩, fi_X6_officials, lw_in 780 (by decide +kernel) rfl⟩
theorem fc_X6_reason : Cond.code yX6_reason cX6_reason 4 (some (.int)) ∈ lw_g := lw_in 877 (by decide +kernel) rfl
theorem fi_X6_reason : Cond.instanceMethod yX6_reason ∈ lw_g := lw_in 875 (by decide +kernel) rfl
theorem fv_X1_34 : pc_V RX1 34 yX6_reason cX6_reason 4 (some (.int)) 3 := ⟨⟨lw_in 952 (by decide +kernel) rfl, lw_in 123 (by decide +kernel) rfl, fc_X6_reason, ⟨by decide +kernel, by decide +kernel, by decide +kernel⟩, by decide⟩, fi_X6_reason, lw_in 876 (by decide +kernel) rfl⟩
theorem fc_X6_detour : Cond.code yX6_detour cX6_detour 7 (some (.int)) ∈ lw_g := lw_in 956 (by decide +kernel) rfl
theorem fi_X6_detour : Cond.instanceMethod yX6_detour ∈ lw_g := lw_in 954 (by decide +kernel) rfl
theorem fv_X1_38 : pc_V RX1 38 yX6_detour cX6_detour 7 (some (.int)) 3 := ⟨⟨lw_in 953 (by decide +kernel) rfl, lw_in 123 (by decide +kernel) rfl, fc_X6_detour, ⟨by decide +kernel, by decide +kernel, by decide +kernel⟩, by decide⟩, fi_X6_detour, lw_in 955 (by decide +kernel) rfl⟩
theorem fc_X6_pay : Cond.code yX6_pay cX6_pay 6 (some (.long)) ∈ lw_g := lw_in 965 (by decide +kernel) rfl
theorem fi_X6_pay : Cond.instanceMethod yX6_pay ∈ lw_g := lw_in 963 (by decide +kernel) rfl
theorem fv_X1_41 : pc_V RX1 41 yX6_pay cX6_pay 6 (some (.long)) 3 := ⟨⟨lw_in 962 (by decide +kernel) rfl, lw_in 123 (by decide +kernel) rfl, fc_X6_pay, ⟨by decide +kernel, by decide +kernel, by decide +kernel⟩, by decide⟩, fi_X6_pay, lw_in 964 (by decide +kernel) rfl⟩
theorem fc_X6_isPlayed : Cond.code yX6_isPlayed cX6_isPlayed 2 (some (.boolean)) ∈ lw_g := lw_in 824 (by decide +kernel) rfl
theorem fi_X6_isPlayed : Cond.instanceMethod yX6_isPlayed ∈ lw_g := lw_in 822 (by decide +kernel) rfl
theorem fv_X1_49 : pc_V RX1 49 yX6_isPlayed cX6_isPlayed 2 (some (.boolean)) 1 := ⟨⟨lw_in 1019 (by decide +kernel) rfl, lw_in 123 (by decide +kernel) rfl, fc_X6_isPlayed, ⟨by decide +kernel, by decide +kernel, by decide +kernel⟩, by decide⟩, fi_X6_isPlayed, lw_in 823 (by decide +kernel) rfl⟩
theorem fc_X1_tryCrew : Cond.code yX1_tryCrew cX1_tryCrew 6 none ∈ lw_g := lw_in 1023 (by decide +kernel) rfl
theorem fi_X1_tryCrew : Cond.instanceMethod yX1_tryCrew ∈ lw_g := lw_in 1022 (by decide +kernel) rfl
theorem fv_X1_57 : pc_V RX1 57 yX1_tryCrew cX1_tryCrew 6 none 3 := ⟨⟨lw_in 1020 (by decide +kernel) rfl, lw_in 124 (by decide +kernel) rfl, fc_X1_tryCrew, ⟨by decide +kernel, by decide +kernel, by decide +kernel⟩, by decide⟩, fi_X1_tryCrew, lw_in 28 (by decide +kernel) rfl⟩
theorem fc_X9_placeOf : Cond.code yX9_placeOf cX9_placeOf 2 (some (.int)) ∈ lw_g := lw_in 840 (by decide +kernel) rfl
theorem fv_X1_83 : pc_S RX1 83 yX9_placeOf cX9_placeOf 2 (some (.int)) 2 := ⟨⟨lw_in 1024 (by decide +kernel) rfl, lw_in 119 (by decide +kernel) rfl, fc_X9_placeOf, ⟨by decide +kernel, by decide +kernel, by decide +kernel⟩, by decide⟩, lw_in 839 (by decide +kernel) rfl⟩
theorem fc_X1_tryEachIn : Cond.code yX1_tryEachIn cX1_tryEachIn 6 none ∈ lw_g := lw_in 1028 (by decide +kernel) rfl
theorem fi_X1_tryEachIn : Cond.instanceMethod yX1_tryEachIn ∈ lw_g := lw_in 1027 (by decide +kernel) rfl
theorem fv_X1_87 : pc_V RX1 87 yX1_tryEachIn cX1_tryEachIn 6 none 3 := ⟨⟨lw_in 1025 (by decide +kernel) rfl, lw_in 124 (by decide +kernel) rfl, fc_X1_tryEachIn, ⟨by decide +kernel, by decide +kernel, by decide +kernel⟩, by decide⟩, fi_X1_tryEachIn, lw_in 29 (by decide +kernel) rfl⟩
theorem fc_X6_sit : Cond.code yX6_sit cX6_sit 4 none ∈ lw_g := lw_in 912 (by decide +kernel) rfl
theorem fi_X6_sit : Cond.instanceMethod yX6_sit ∈ lw_g := lw_in 910 (by decide +kernel) rfl
theorem fv_X1_96 : pc_V RX1 96 yX6_sit cX6_sit 4 none 3 := ⟨⟨lw_in 1029 (by decide +kernel) rfl, lw_in 123 (by decide +kernel) rfl, fc_X6_sit, ⟨by decide +kernel, by decide +kernel, by decide +kernel⟩, by decide⟩, fi_X6_sit, lw_in 911 (by decide +kernel) rfl⟩
theorem fc_X6_rise : Cond.code yX6_rise cX6_rise 5 none ∈ lw_g := lw_in 920 (by decide +kernel) rfl
theorem fi_X6_rise : Cond.instanceMethod yX6_rise ∈ lw_g := lw_in 918 (by decide +kernel) rfl
theorem fv_X1_99 : pc_V RX1 99 yX6_rise cX6_rise 5 none 2 := ⟨⟨lw_in 1030 (by decide +kernel) rfl, lw_in 123 (by decide +kernel) rfl, fc_X6_rise, ⟨by decide +kernel, by decide +kernel, by decide +kernel⟩, by decide⟩, fi_X6_rise, lw_in 919 (by decide +kernel) rfl⟩
theorem fc_X6_isLate : Cond.code yX6_isLate cX6_isLate 2 (some (.boolean)) ∈ lw_g := lw_in 828 (by decide +kernel) rfl
theorem fi_X6_isLate : Cond.instanceMethod yX6_isLate ∈ lw_g := lw_in 826 (by decide +kernel) rfl
theorem fv_X1_106 : pc_V RX1 106 yX6_isLate cX6_isLate 2 (some (.boolean)) 1 := ⟨⟨lw_in 1044 (by decide +kernel) rfl, lw_in 123 (by decide +kernel) rfl, fc_X6_isLate, ⟨by decide +kernel, by decide +kernel, by decide +kernel⟩, by decide⟩, fi_X6_isLate, lw_in 827 (by decide +kernel) rfl⟩
theorem fc_X1_listOpen : Cond.code yX1_listOpen cX1_listOpen 6 (some (.int)) ∈ lw_g := lw_in 1043 (by decide +kernel) rfl
theorem fi_X1_listOpen : Cond.instanceMethod yX1_listOpen ∈ lw_g := lw_in 1042 (by decide +kernel) rfl
theorem fv_X1_109 : pc_V RX1 109 yX1_listOpen cX1_listOpen 6 (some (.int)) 0 := ⟨⟨lw_in 1040 (by decide +kernel) rfl, lw_in 124 (by decide +kernel) rfl, fc_X1_listOpen, ⟨by decide +kernel, by decide +kernel, by decide +kernel⟩, by decide⟩, fi_X1_listOpen, lw_in 30 (by decide +kernel) rfl⟩
theorem fc_X1_firstFor : Cond.code yX1_firstFor cX1_firstFor 4 (some (.int)) ∈ lw_g := lw_in 1049 (by decide +kernel) rfl
theorem fi_X1_firstFor : Cond.instanceMethod yX1_firstFor ∈ lw_g := lw_in 1048 (by decide +kernel) rfl
theorem fv_X1_113 : pc_V RX1 113 yX1_firstFor cX1_firstFor 4 (some (.int)) 2 := ⟨⟨lw_in 1046 (by decide +kernel) rfl, lw_in 124 (by decide +kernel) rfl, fc_X1_firstFor, ⟨by decide +kernel, by decide +kernel, by decide +kernel⟩, by decide⟩, fi_X1_firstFor, lw_in 31 (by decide +kernel) rfl⟩
theorem fc_X1_emptyFirst : Cond.code yX1_emptyFirst cX1_emptyFirst 3 none ∈ lw_g := lw_in 1053 (by decide +kernel) rfl
theorem fi_X1_emptyFirst : Cond.instanceMethod yX1_emptyFirst ∈ lw_g := lw_in 1052 (by decide +kernel) rfl
theorem fv_X1_116 : pc_V RX1 116 yX1_emptyFirst cX1_emptyFirst 3 none 1 := ⟨⟨lw_in 1050 (by decide +kernel) rfl, lw_in 124 (by decide +kernel) rfl, fc_X1_emptyFirst, ⟨by decide +kernel, by decide +kernel, by decide +kernel⟩, by decide⟩, fi_X1_emptyFirst, lw_in 32 (by decide +kernel) rfl⟩
theorem fc_X1_note : Cond.code yX1_note cX1_note 6 none ∈ lw_g := lw_in 1065 (by decide +kernel) rfl
theorem fi_X1_note : Cond.instanceMethod yX1_note ∈ lw_g := lw_in 1064 (by decide +kernel) rfl
theorem fv_X1_120 : pc_V RX1 120 yX1_note cX1_note 6 none 5 := ⟨⟨lw_in 1062 (by decide +kernel) rfl, lw_in 124 (by decide +kernel) rfl, fc_X1_note, ⟨by decide +kernel, by decide +kernel, by decide +kernel⟩, by decide⟩, fi_X1_note, lw_in 33 (by decide +kernel) rfl⟩
theorem fc_X1_otherFor : Cond.code yX1_otherFor cX1_otherFor 6 (some (.int)) ∈ lw_g := lw_in 1069 (by decide +kernel) rfl
theorem fi_X1_otherFor : Cond.instanceMethod yX1_otherFor ∈ lw_g := lw_in 1068 (by decide +kernel) rfl
theorem fv_X1_124 : pc_V RX1 124 yX1_otherFor cX1_otherFor 6 (some (.int)) 4 := ⟨⟨lw_in 1066 (by decide +kernel) rfl, lw_in 124 (by decide +kernel) rfl, fc_X1_otherFor, ⟨by decide +kernel, by decide +kernel, by decide +kernel⟩, by decide⟩, fi_X1_otherFor, lw_in 34 (by decide +kernel) rfl⟩
theorem fc_X1_followUp : Cond.code yX1_followUp cX1_followUp 9 none ∈ lw_g := lw_in 1074 (by decide +kernel) rfl
theorem fi_X1_followUp : Cond.instanceMethod yX1_followUp ∈ lw_g := lw_in 1073 (by decide +kernel) rfl
theorem fv_X1_128 : pc_V RX1 128 yX1_followUp cX1_followUp 9 none 4 := ⟨⟨lw_in 1071 (by decide +kernel) rfl, lw_in 124 (by decide +kernel) rfl, fc_X1_followUp, ⟨by decide +kernel, by decide +kernel, by decide +kernel⟩, by decide⟩, fi_X1_followUp, lw_in 35 (by decide +kernel) rfl⟩
theorem fc_X6_hindrance : Cond.code yX6_hindrance cX6_hindrance 7 (some (.int)) ∈ lw_g := lw_in 885 (by decide +kernel) rfl
theorem fi_X6_hindrance : Cond.instanceMethod yX6_hindrance ∈ lw_g := lw_in 883 (by decide +kernel) rfl
theorem fv_X1_135 : pc_V RX1 135 yX6_hindrance cX6_hindrance 7 (some (.int)) 4 := ⟨⟨lw_in 1070 (by decide +kernel) rfl, lw_in 123 (by decide +kernel) rfl, fc_X6_hindrance, ⟨by decide +kernel, by decide +kernel, by decide +kernel⟩, by decide⟩, fi_X6_hindrance, lw_in 884 (by decide +kernel) rfl⟩
theorem fc_X1_seatIn : Cond.code yX1_seatIn cX1_seatIn 5 (some (.int)) ∈ lw_g := lw_in 1078 (by decide +kernel) rfl
theorem fi_X1_seatIn : Cond.instanceMethod yX1_seatIn ∈ lw_g := lw_in 1077 (by decide +kernel) rfl
theorem fv_X1_138 : pc_V RX1 138 yX1_seatIn cX1_seatIn 5 (some (.int)) 2 := ⟨⟨lw_in 1075 (by decide +kernel) rfl, lw_in 124 (by decide +kernel) rfl, fc_X1_seatIn, ⟨by decide +kernel, by decide +kernel, by decide +kernel⟩, by decide⟩, fi_X1_seatIn, lw_in 36 (by decide +kernel) rfl⟩
theorem fc_X1_weigh : Cond.code yX1_weigh cX1_weigh 8 none ∈ lw_g := lw_in 1098 (by decide +kernel) rfl
theorem fi_X1_weigh : Cond.instanceMethod yX1_weigh ∈ lw_g := lw_in 1097 (by decide +kernel) rfl
theorem fv_X1_141 : pc_V RX1 141 yX1_weigh cX1_weigh 8 none 4 := ⟨⟨lw_in 1095 (by decide +kernel) rfl, lw_in 124 (by decide +kernel) rfl, fc_X1_weigh, ⟨by decide +kernel, by decide +kernel, by decide +kernel⟩, by decide⟩, fi_X1_weigh, lw_in 37 (by decide +kernel) rfl⟩
theorem fc_X6_exchangeable : Cond.code yX6_exchangeable cX6_exchangeable 8 (some (.int)) ∈ lw_g := lw_in 928 (by decide +kernel) rfl
theorem fi_X6_exchangeable : Cond.instanceMethod yX6_exchangeable ∈ lw_g := lw_in 926 (by decide +kernel) rfl
theorem fv_X1_144 : pc_V RX1 144 yX6_exchangeable cX6_exchangeable 8 (some (.int)) 4 := ⟨⟨lw_in 1099 (by decide +kernel) rfl, lw_in 123 (by decide +kernel) rfl, fc_X6_exchangeable, ⟨by decide +kernel, by decide +kernel, by decide +kernel⟩, by decide⟩, fi_X6_exchangeable, lw_in 927 (by decide +kernel) rfl⟩
theorem fc_X1_gain : Cond.code yX1_gain cX1_gain 9 (some (.int)) ∈ lw_g := lw_in 1103 (by decide +kernel) rfl
theorem fi_X1_gain : Cond.instanceMethod yX1_gain ∈ lw_g := lw_in 1102 (by decide +kernel) rfl
theorem fv_X1_147 : pc_V RX1 147 yX1_gain cX1_gain 9 (some (.int)) 3 := ⟨⟨lw_in 1100 (by decide +kernel) rfl, lw_in 124 (by decide +kernel) rfl, fc_X1_gain, ⟨by decide +kernel, by decide +kernel, by decide +kernel⟩, by decide⟩, fi_X1_gain, lw_in 38 (by decide +kernel) rfl⟩
theorem fc_X6_roundOn : Cond.code yX6_roundOn cX6_roundOn 10 (some (.int)) ∈ lw_g := lw_in 960 (by decide +kernel) rfl
theorem fi_X6_roundOn : Cond.instanceMethod yX6_roundOn ∈ lw_g := lw_in 958 (by decide +kernel) rfl
theorem fv_X1_153 : pc_V RX1 153 yX6_roundOn cX6_roundOn 10 (some (.int)) 3 := ⟨⟨lw_in 1104 (by decide +kernel) rfl, lw_in 123 (by decide +kernel) rfl, fc_X6_roundOn, ⟨by decide +kernel, by decide +kernel, by decide +kernel⟩, by decide⟩, fi_X6_roundOn, lw_in 959 (by decide +kernel) rfl⟩
theorem fc_X8_init : Cond.code yX8_init cX8_init 1 none ∈ lw_g := lw_in 154 (by decide +kernel) rfl
theorem fi_X8_init : Cond.instanceMethod yX8_init ∈ lw_g := lw_in 153 (by decide +kernel) rfl
theorem fv_X11_9 : pc_I RX11 9 yX8_init cX8_init 1 0 := ⟨⟨lw_in 152 (by decide +kernel) rfl, lw_in 117 (by decide +kernel) rfl, fc_X8_init, ⟨by decide +kernel, by decide +kernel, by decide +kernel⟩, by decide⟩, rfl, fi_X8_init⟩
theorem fc_X4_init : Cond.code yX4_init cX4_init 2 none ∈ lw_g := lw_in 192 (by decide +kernel) rfl
theorem fi_X4_init : Cond.instanceMethod yX4_init ∈ lw_g := lw_in 191 (by decide +kernel) rfl
theorem fv_X11_18 : pc_I RX11 18 yX4_init cX4_init 2 1 := ⟨⟨lw_in 190 (by decide +kernel) rfl, lw_in 118 (by decide +kernel) rfl, fc_X4_init, ⟨by decide +kernel, by decide +kernel, by decide +kernel⟩, by decide⟩, rfl, fi_X4_init⟩
theorem fc_X9_init : Cond.code yX9_init cX9_init 2 none ∈ lw_g := lw_in 216 (by decide +kernel) rfl
theorem fi_X9_init : Cond.instanceMethod yX9_init ∈ lw_g := lw_in 215 (by decide +kernel) rfl
theorem fv_X11_27 : pc_I RX11 27 yX9_init cX9_init 2 0 := ⟨⟨lw_in 214 (by decide +kernel) rfl, lw_in 119 (by decide +kernel) rfl, fc_X9_init, ⟨by decide +kernel, by decide +kernel, by decide +kernel⟩, by decide⟩, rfl, fi_X9_init⟩
theorem fc_X6_init : Cond.code yX6_init cX6_init 2 none ∈ lw_g := lw_in 418 (by decide +kernel) rfl
theorem fi_X6_init : Cond.instanceMethod yX6_init ∈ lw_g := lw_in 417 (by decide +kernel) rfl
theorem fv_X11_37 : pc_I RX11 37 yX6_init cX6_init 2 1 := ⟨⟨lw_in 416 (by decide +kernel) rfl, lw_in 123 (by decide +kernel) rfl, fc_X6_init, ⟨by decide +kernel, by decide +kernel, by decide +kernel⟩, by decide⟩, rfl, fi_X6_init⟩
theorem fc_X1_init : Cond.code yX1_init cX1_init 2 none ∈ lw_g := lw_in 472 (by decide +kernel) rfl
theorem fi_X1_init : Cond.instanceMethod yX1_init ∈ lw_g := lw_in 471 (by decide +kernel) rfl
theorem fv_X11_49 : pc_I RX11 49 yX1_init cX1_init 2 1 := ⟨⟨lw_in 470 (by decide +kernel) rfl, lw_in 124 (by decide +kernel) rfl, fc_X1_init, ⟨by decide +kernel, by decide +kernel, by decide +kernel⟩, by decide⟩, rfl, fi_X1_init⟩
theorem fc_X7_init : Cond.code yX7_init cX7_init 1 none ∈ lw_g := lw_in 502 (by decide +kernel) rfl
theorem fi_X7_init : Cond.instanceMethod yX7_init ∈ lw_g := lw_in 501 (by decide +kernel) rfl
theorem fv_X11_62 : pc_I RX11 62 yX7_init cX7_init 1 0 := ⟨⟨lw_in 500 (by decide +kernel) rfl, lw_in 125 (by decide +kernel) rfl, fc_X7_init, ⟨by decide +kernel, by decide +kernel, by decide +kernel⟩, by decide⟩, rfl, fi_X7_init⟩
theorem fc_X8_append : Cond.code yX8_append cX8_append 3 none ∈ lw_g := lw_in 557 (by decide +kernel) rfl
theorem fi_X8_append : Cond.instanceMethod yX8_append ∈ lw_g := lw_in 555 (by decide +kernel) rfl
theorem fv_X11_71 : pc_V RX11 71 yX8_append cX8_append 3 none 1 := ⟨⟨lw_in 554 (by decide +kernel) rfl, lw_in 117 (by decide +kernel) rfl, fc_X8_append, ⟨by decide +kernel, by decide +kernel, by decide +kernel⟩, by decide⟩, fi_X8_append, lw_in 556 (by decide +kernel) rfl⟩
theorem fc_X4_readWeek : Cond.code yX4_readWeek cX4_readWeek 3 (some (.boolean)) ∈ lw_g := lw_in 569 (by decide +kernel) rfl
theorem fi_X4_readWeek : Cond.instanceMethod yX4_readWeek ∈ lw_g := lw_in 567 (by decide +kernel) rfl
theorem fv_X11_75 : pc_V RX11 75 yX4_readWeek cX4_readWeek 3 (some (.boolean)) 1 := ⟨⟨lw_in 566 (by decide +kernel) rfl, lw_in 118 (by decide +kernel) rfl, fc_X4_readWeek, ⟨by decide +kernel, by decide +kernel, by decide +kernel⟩, by decide⟩, fi_X4_readWeek, lw_in 568 (by decide +kernel) rfl⟩
theorem fc_X6_open : Cond.code yX6_open cX6_open 3 none ∈ lw_g := lw_in 423 (by decide +kernel) rfl
theorem fi_X6_open : Cond.instanceMethod yX6_open ∈ lw_g := lw_in 421 (by decide +kernel) rfl
theorem fv_X11_79 : pc_V RX11 79 yX6_open cX6_open 3 none 1 := ⟨⟨lw_in 761 (by decide +kernel) rfl, lw_in 123 (by decide +kernel) rfl, fc_X6_open, ⟨by decide +kernel, by decide +kernel, by decide +kernel⟩, by decide⟩, fi_X6_open, lw_in 422 (by decide +kernel) rfl⟩
theorem fc_X9_seatCount : Cond.code yX9_seatCount cX9_seatCount 3 (some (.int)) ∈ lw_g := lw_in 773 (by decide +kernel) rfl
theorem fi_X9_seatCount : Cond.instanceMethod yX9_seatCount ∈ lw_g := lw_in 771 (by decide +kernel) rfl
theorem fv_X11_107 : pc_V RX11 107 yX9_seatCount cX9_seatCount 3 (some (.int)) 0 := ⟨⟨lw_in 770 (by decide +kernel) rfl, lw_in 119 (by decide +kernel) rfl, fc_X9_seatCount, ⟨by decide +kernel, by decide +kernel, by decide +kernel⟩, by decide⟩, fi_X9_seatCount, lw_in 772 (by decide +kernel) rfl⟩
theorem fc_X6_takenCount : Cond.code yX6_takenCount cX6_takenCount 3 (some (.int)) ∈ lw_g := lw_in 777 (by decide +kernel) rfl
theorem fi_X6_takenCount : Cond.instanceMethod yX6_takenCount ∈ lw_g := lw_in 775 (by decide +kernel) rfl
theorem fv_X11_111 : pc_V RX11 111 yX6_takenCount cX6_takenCount 3 (some (.int)) 0 := ⟨⟨lw_in 774 (by decide +kernel) rfl, lw_in 123 (by decide +kernel) rfl, fc_X6_takenCount, ⟨by decide +kernel, by decide +kernel, by decide +kernel⟩, by decide⟩, fi_X6_takenCount, lw_in 776 (by decide +kernel) rfl⟩
theorem fc_X9_isNamed : Cond.code yX9_isNamed cX9_isNamed 3 (some (.boolean)) ∈ lw_g := lw_in 795 (by decide +kernel) rfl
theorem fi_X9_isNamed : Cond.instanceMethod yX9_isNamed ∈ lw_g := lw_in 793 (by decide +kernel) rfl
theorem fv_X11_114 : pc_V RX11 114 yX9_isNamed cX9_isNamed 3 (some (.boolean)) 2 := ⟨⟨lw_in 792 (by decide +kernel) rfl, lw_in 119 (by decide +kernel) rfl, fc_X9_isNamed, ⟨by decide +kernel, by decide +kernel, by decide +kernel⟩, by decide⟩, fi_X9_isNamed, lw_in 794 (by decide +kernel) rfl⟩
theorem fc_X8_letterOf : Cond.code yX8_letterOf cX8_letterOf 6 (some (.int)) ∈ lw_g := lw_in 798 (by decide +kernel) rfl
theorem fv_X11_122 : pc_S RX11 122 yX8_letterOf cX8_letterOf 6 (some (.int)) 2 := ⟨⟨lw_in 796 (by decide +kernel) rfl, lw_in 117 (by decide +kernel) rfl, fc_X8_letterOf, ⟨by decide +kernel, by decide +kernel, by decide +kernel⟩, by decide⟩, lw_in 797 (by decide +kernel) rfl⟩
theorem fc_J6_bitCount_0f7a4 : Cond.code yJ6_bitCount_0f7a4 cJ6_bitCount_0f7a4 1 (some (.int)) ∈ lw_g := lw_in 784 (by decide +kernel) rfl
theorem fv_X11_148 : pc_S RX11 148 yJ6_bitCount_0f7a4 cJ6_bitCount_0f7a4 1 (some (.int)) 1 := ⟨⟨lw_in 803 (by decide +kernel) rfl, lw_in 134 (by decide +kernel) rfl, fc_J6_bitCount_0f7a4, ⟨by decide +kernel, by decide +kernel, by decide +kernel⟩, by decide⟩, lw_in 783 (by decide +kernel) rfl⟩
theorem fc_X6_bitsOfForm : Cond.code yX6_bitsOfForm cX6_bitsOfForm 4 (some (.int)) ∈ lw_g := lw_in 811 (by decide +kernel) rfl
theorem fi_X6_bitsOfForm : Cond.instanceMethod yX6_bitsOfForm ∈ lw_g := lw_in 809 (by decide +kernel) rfl
theorem fv_X11_154 : pc_V RX11 154 yX6_bitsOfForm cX6_bitsOfForm 4 (some (.int)) 1 := ⟨⟨lw_in 808 (by decide +kernel) rfl, lw_in 123 (by decide +kernel) rfl, fc_X6_bitsOfForm, ⟨by decide +kernel, by decide +kernel, by decide +kernel⟩, by decide⟩, fi_X6_bitsOfForm, lw_in 810 (by decide +kernel) rfl⟩
theorem fc_X9_isGame : Cond.code yX9_isGame cX9_isGame 2 (some (.boolean)) ∈ lw_g := lw_in 820 (by decide +kernel) rfl
theorem fi_X9_isGame : Cond.instanceMethod yX9_isGame ∈ lw_g := lw_in 818 (by decide +kernel) rfl
theorem fv_X11_157 : pc_V RX11 157 yX9_isGame cX9_isGame 2 (some (.boolean)) 1 := ⟨⟨lw_in 817 (by decide +kernel) rfl, lw_in 119 (by decide +kernel) rfl, fc_X9_isGame, ⟨by decide +kernel, by decide +kernel, by decide +kernel⟩, by decide⟩, fi_X9_isGame, lw_in 819 (by decide +kernel) rfl⟩
theorem fv_X11_190 : pc_V RX11 190 yX6_isPlayed cX6_isPlayed 2 (some (.boolean)) 1 := ⟨⟨lw_in 821 (by decide +kernel) rfl, lw_in 123 (by decide +kernel) rfl, fc_X6_isPlayed, ⟨by decide +kernel, by decide +kernel, by decide +kernel⟩, by decide⟩, fi_X6_isPlayed, lw_in 823 (by decide +kernel) rfl⟩
theorem fv_X11_193 : pc_V RX11 193 yX6_isLate cX6_isLate 2 (some (.boolean)) 1 := ⟨⟨lw_in 825 (by decide +kernel) rfl, lw_in 123 (by decide +kernel) rfl, fc_X6_isLate, ⟨by decide +kernel, by decide +kernel, by decide +kernel⟩, by decide⟩, fi_X6_isLate, lw_in 827 (by decide +kernel) rfl⟩
theorem fc_X9_isSeat : Cond.code yX9_isSeat cX9_isSeat 3 (some (.boolean)) ∈ lw_g := lw_in 836 (by decide +kernel) rfl
theorem fi_X9_isSeat : Cond.instanceMethod yX9_isSeat ∈ lw_g := lw_in 834 (by decide +kernel) rfl
theorem fv_X11_196 : pc_V RX11 196 yX9_isSeat cX9_isSeat 3 (some (.boolean)) 2 := ⟨⟨lw_in 833 (by decide +kernel) rfl, lw_in 119 (by decide +kernel) rfl, fc_X9_isSeat, ⟨by decide +kernel, by decide +kernel, by decide +kernel⟩, by decide⟩, fi_X9_isSeat, lw_in 835 (by decide +kernel) rfl⟩
theorem fv_X11_199 : pc_S RX11 199 yX9_placeOf cX9_placeOf 2 (some (.int)) 2 := ⟨⟨lw_in 838 (by decide +kernel) rfl, lw_in 119 (by decide +kernel) rfl, fc_X9_placeOf, ⟨by decide +kernel, by decide +kernel, by decide +kernel⟩, by decide⟩, lw_in 839 (by decide +kernel) rfl⟩
theorem fc_X9_areFields : Cond.code yX9_areFields cX9_areFields 3 (some (.boolean)) ∈ lw_g := lw_in 848 (by decide +kernel) rfl
theorem fi_X9_areFields : Cond.instanceMethod yX9_areFields ∈ lw_g := lw_in 846 (by decide +kernel) rfl
theorem fv_X11_208 : pc_V RX11 208 yX9_areFields cX9_areFields 3 (some (.boolean)) 2 := ⟨⟨lw_in 845 (by decide +kernel) rfl, lw_in 119 (by decide +kernel) rfl, fc_X9_areFields, ⟨by decide +kernel, by decide +kernel, by decide +kernel⟩, by decide⟩, fi_X9_areFields, lw_in 847 (by decide +kernel) rfl⟩
theorem fc_X5_firstOn : Cond.code yX5_firstOn cX5_firstOn 6 (some (.int)) ∈ lw_g := lw_in 857 (by decide +kernel) rfl
theorem fi_X5_firstOn : Cond.instanceMethod yX5_firstOn ∈ lw_g := lw_in 855 (by decide +kernel) rfl
theorem fv_X11_220 : pc_V RX11 220 yX5_firstOn cX5_firstOn 6 (some (.int)) 2 := ⟨⟨lw_in 854 (by decide +kernel) rfl, lw_in 121 (by decide +kernel) rfl, fc_X5_firstOn, ⟨by decide +kernel, by decide +kernel, by decide +kernel⟩, by decide⟩, fi_X5_firstOn, lw_in 856 (by decide +kernel) rfl⟩
theorem fc_X5_middle : Cond.code yX5_middle cX5_middle 6 (some (.int)) ∈ lw_g := lw_in 865 (by decide +kernel) rfl
theorem fi_X5_middle : Cond.instanceMethod yX5_middle ∈ lw_g := lw_in 863 (by decide +kernel) rfl
theorem fv_X11_223 : pc_V RX11 223 yX5_middle cX5_middle 6 (some (.int)) 0 := ⟨⟨lw_in 862 (by decide +kernel) rfl, lw_in 121 (by decide +kernel) rfl, fc_X5_middle, ⟨by decide +kernel, by decide +kernel, by decide +kernel⟩, by decide⟩, fi_X5_middle, lw_in 864 (by decide +kernel) rfl⟩
theorem fv_X11_226 : pc_V RX11 226 yX6_reason cX6_reason 4 (some (.int)) 3 := ⟨⟨lw_in 874 (by decide +kernel) rfl, lw_in 123 (by decide +kernel) rfl, fc_X6_reason, ⟨by decide +kernel, by decide +kernel, by decide +kernel⟩, by decide⟩, fi_X6_reason, lw_in 876 (by decide +kernel) rfl⟩
theorem fc_X11_keep : Cond.code yX11_keep cX11_keep 2 none ∈ lw_g := lw_in 901 (by decide +kernel) rfl
theorem fi_X11_keep : Cond.instanceMethod yX11_keep ∈ lw_g := lw_in 900 (by decide +kernel) rfl
theorem fv_X11_230 : pc_V RX11 230 yX11_keep cX11_keep 2 none 1 := ⟨⟨lw_in 898 (by decide +kernel) rfl, lw_in 116 (by decide +kernel) rfl, fc_X11_keep, ⟨by decide +kernel, by decide +kernel, by decide +kernel⟩, by decide⟩, fi_X11_keep, lw_in 25 (by decide +kernel) rfl⟩
theorem fv_X11_233 : pc_V RX11 233 yX6_sit cX6_sit 4 none 3 := ⟨⟨lw_in 909 (by decide +kernel) rfl, lw_in 123 (by decide +kernel) rfl, fc_X6_sit, ⟨by decide +kernel, by decide +kernel, by decide +kernel⟩, by decide⟩, fi_X6_sit, lw_in 911 (by decide +kernel) rfl⟩
theorem fv_X11_237 : pc_V RX11 237 yX6_rise cX6_rise 5 none 2 := ⟨⟨lw_in 917 (by decide +kernel) rfl, lw_in 123 (by decide +kernel) rfl, fc_X6_rise, ⟨by decide +kernel, by decide +kernel, by decide +kernel⟩, by decide⟩, fi_X6_rise, lw_in 919 (by decide +kernel) rfl⟩
theorem fv_X11_241 : pc_V RX11 241 yX6_exchangeable cX6_exchangeable 8 (some (.int)) 4 := ⟨⟨lw_in 925 (by decide +kernel) rfl, lw_in 123 (by decide +kernel) rfl, fc_X6_exchangeable, ⟨by decide +kernel, by decide +kernel, by decide +kernel⟩, by decide⟩, fi_X6_exchangeable, lw_in 927 (by decide +kernel) rfl⟩
theorem fc_X6_trade : Cond.code yX6_trade cX6_trade 7 none ∈ lw_g := lw_in 932 (by decide +kernel) rfl
theorem fi_X6_trade : Cond.instanceMethod yX6_trade ∈ lw_g := lw_in 930 (by decide +kernel) rfl
theorem fv_X11_245 : pc_V RX11 245 yX6_trade cX6_trade 7 none 4 := ⟨⟨lw_in 929 (by decide +kernel) rfl, lw_in 123 (by decide +kernel) rfl, fc_X6_trade, ⟨by decide +kernel, by decide +kernel, by decide +kernel⟩, by decide⟩, fi_X6_trade, lw_in 931 (by decide +kernel) rfl⟩
theorem fc_X1_nearest : Cond.code yX1_nearest cX1_nearest 11 (some (.int)) ∈ lw_g := lw_in 950 (by decide +kernel) rfl
theorem fi_X1_nearest : Cond.instanceMethod yX1_nearest ∈ lw_g := lw_in 948 (by decide +kernel) rfl
theorem fv_X11_249 : pc_V RX11 249 yX1_nearest cX1_nearest 11 (some (.int)) 2 := ⟨⟨lw_in 947 (by decide +kernel) rfl, lw_in 124 (by decide +kernel) rfl, fc_X1_nearest, ⟨by decide +kernel, by decide +kernel, by decide +kernel⟩, by decide⟩, fi_X1_nearest, lw_in 949 (by decide +kernel) rfl⟩
theorem fv_X11_252 : pc_V RX11 252 yX6_detour cX6_detour 7 (some (.int)) 3 := ⟨⟨lw_in 994 (by decide +kernel) rfl, lw_in 123 (by decide +kernel) rfl, fc_X6_detour, ⟨by decide +kernel, by decide +kernel, by decide +kernel⟩, by decide⟩, fi_X6_detour, lw_in 955 (by decide +kernel) rfl⟩
theorem fv_X11_257 : pc_V RX11 257 yX6_pay cX6_pay 6 (some (.long)) 3 := ⟨⟨lw_in 1000 (by decide +kernel) rfl, lw_in 123 (by decide +kernel) rfl, fc_X6_pay, ⟨by decide +kernel, by decide +kernel, by decide +kernel⟩, by decide⟩, fi_X6_pay, lw_in 964 (by decide +kernel) rfl⟩
theorem fc_X6_payOfAll : Cond.code yX6_payOfAll cX6_payOfAll 9 (some (.long)) ∈ lw_g := lw_in 1008 (by decide +kernel) rfl
theorem fi_X6_payOfAll : Cond.instanceMethod yX6_payOfAll ∈ lw_g := lw_in 1006 (by decide +kernel) rfl
theorem fv_X11_261 : pc_V RX11 261 yX6_payOfAll cX6_payOfAll 9 (some (.long)) 1 := ⟨⟨lw_in 1005 (by decide +kernel) rfl, lw_in 123 (by decide +kernel) rfl, fc_X6_payOfAll, ⟨by decide +kernel, by decide +kernel, by decide +kernel⟩, by decide⟩, fi_X6_payOfAll, lw_in 1007 (by decide +kernel) rfl⟩
theorem fc_X1_findCrew : Cond.code yX1_findCrew cX1_findCrew 3 (some (.int)) ∈ lw_g := lw_in 1018 (by decide +kernel) rfl
theorem fi_X1_findCrew : Cond.instanceMethod yX1_findCrew ∈ lw_g := lw_in 1016 (by decide +kernel) rfl
theorem fv_X11_265 : pc_V RX11 265 yX1_findCrew cX1_findCrew 3 (some (.int)) 2 := ⟨⟨lw_in 1015 (by decide +kernel) rfl, lw_in 124 (by decide +kernel) rfl, fc_X1_findCrew, ⟨by decide +kernel, by decide +kernel, by decide +kernel⟩, by decide⟩, fi_X1_findCrew, lw_in 1017 (by decide +kernel) rfl⟩
theorem fc_X6_copyOf : Cond.code yX6_copyOf cX6_copyOf 2 none ∈ lw_g := lw_in 905 (by decide +kernel) rfl
theorem fi_X6_copyOf : Cond.instanceMethod yX6_copyOf ∈ lw_g := lw_in 903 (by decide +kernel) rfl
theorem fv_X11_268 : pc_V RX11 268 yX6_copyOf cX6_copyOf 2 none 1 := ⟨⟨lw_in 902 (by decide +kernel) rfl, lw_in 123 (by decide +kernel) rfl, fc_X6_copyOf, ⟨by decide +kernel, by decide +kernel, by decide +kernel⟩, by decide⟩, fi_X6_copyOf, lw_in 904 (by decide +kernel) rfl⟩
theorem fc_X1_fillAll : Cond.code yX1_fillAll cX1_fillAll 7 (some (.int)) ∈ lw_g := lw_in 1039 (by decide +kernel) rfl
theorem fi_X1_fillAll : Cond.instanceMethod yX1_fillAll ∈ lw_g := lw_in 1037 (by decide +kernel) rfl
theorem fv_X11_271 : pc_V RX11 271 yX1_fillAll cX1_fillAll 7 (some (.int)) 0 := ⟨⟨lw_in 1036 (by decide +kernel) rfl, lw_in 124 (by decide +kernel) rfl, fc_X1_fillAll, ⟨by decide +kernel, by decide +kernel, by decide +kernel⟩, by decide⟩, fi_X1_fillAll, lw_in 1038 (by decide +kernel) rfl⟩
theorem fc_X1_findStep : Cond.code yX1_findStep cX1_findStep 7 (some (.int)) ∈ lw_g := lw_in 1061 (by decide +kernel) rfl
theorem fi_X1_findStep : Cond.instanceMethod yX1_findStep ∈ lw_g := lw_in 1059 (by decide +kernel) rfl
theorem fv_X11_274 : pc_V RX11 274 yX1_findStep cX1_findStep 7 (some (.int)) 3 := ⟨⟨lw_in 1058 (by decide +kernel) rfl, lw_in 124 (by decide +kernel) rfl, fc_X1_findStep, ⟨by decide +kernel, by decide +kernel, by decide +kernel⟩, by decide⟩, fi_X1_findStep, lw_in 1060 (by decide +kernel) rfl⟩
theorem fc_X6_unsoundPlace : Cond.code yX6_unsoundPlace cX6_unsoundPlace 7 (some (.int)) ∈ lw_g := lw_in 1086 (by decide +kernel) rfl
theorem fi_X6_unsoundPlace : Cond.instanceMethod yX6_unsoundPlace ∈ lw_g := lw_in 1084 (by decide +kernel) rfl
theorem fv_X11_277 : pc_V RX11 277 yX6_unsoundPlace cX6_unsoundPlace 7 (some (.int)) 1 := ⟨⟨lw_in 1083 (by decide +kernel) rfl, lw_in 123 (by decide +kernel) rfl, fc_X6_unsoundPlace, ⟨by decide +kernel, by decide +kernel, by decide +kernel⟩, by decide⟩, fi_X6_unsoundPlace, lw_in 1085 (by decide +kernel) rfl⟩
theorem fc_X1_findExchange : Cond.code yX1_findExchange cX1_findExchange 5 (some (.int)) ∈ lw_g := lw_in 1094 (by decide +kernel) rfl
theorem fi_X1_findExchange : Cond.instanceMethod yX1_findExchange ∈ lw_g := lw_in 1092 (by decide +kernel) rfl
theorem fv_X11_280 : pc_V RX11 280 yX1_findExchange cX1_findExchange 5 (some (.int)) 1 := ⟨⟨lw_in 1091 (by decide +kernel) rfl, lw_in 124 (by decide +kernel) rfl, fc_X1_findExchange, ⟨by decide +kernel, by decide +kernel, by decide +kernel⟩, by decide⟩, fi_X1_findExchange, lw_in 1093 (by decide +kernel) rfl⟩
theorem fv_X11_283 : pc_V RX11 283 yX6_roundOn cX6_roundOn 10 (some (.int)) 3 := ⟨⟨lw_in 1109 (by decide +kernel) rfl, lw_in 123 (by decide +kernel) rfl, fc_X6_roundOn, ⟨by decide +kernel, by decide +kernel, by decide +kernel⟩, by decide⟩, fi_X6_roundOn, lw_in 959 (by decide +kernel) rfl⟩
theorem fc_X6_journey : Cond.code yX6_journey cX6_journey 8 (some (.int)) ∈ lw_g := lw_in 1117 (by decide +kernel) rfl
theorem fi_X6_journey : Cond.instanceMethod yX6_journey ∈ lw_g := lw_in 1115 (by decide +kernel) rfl
theorem fv_X11_286 : pc_V RX11 286 yX6_journey cX6_journey 8 (some (.int)) 3 := ⟨⟨lw_in 1114 (by decide +kernel) rfl, lw_in 123 (by decide +kernel) rfl, fc_X6_journey, ⟨by decide +kernel, by decide +kernel, by decide +kernel⟩, by decide⟩, fi_X6_journey, lw_in 1116 (by decide +kernel) rfl⟩
theorem fc_X6_spreadOfSeats : Cond.code yX6_spreadOfSeats cX6_spreadOfSeats 6 (some (.int)) ∈ lw_g := lw_in 1130 (by decide +kernel) rfl
theorem fi_X6_spreadOfSeats : Cond.instanceMethod yX6_spreadOfSeats ∈ lw_g := lw_in 1128 (by decide +kernel) rfl
theorem fv_X11_289 : pc_V RX11 289 yX6_spreadOfSeats cX6_spreadOfSeats 6 (some (.int)) 1 := ⟨⟨lw_in 1127 (by decide +kernel) rfl, lw_in 123 (by decide +kernel) rfl, fc_X6_spreadOfSeats, ⟨by decide +kernel, by decide +kernel, by decide +kernel⟩, by decide⟩, fi_X6_spreadOfSeats, lw_in 1129 (by decide +kernel) rfl⟩
theorem fc_X6_playDay : Cond.code yX6_playDay cX6_playDay 8 (some (.int)) ∈ lw_g := lw_in 1142 (by decide +kernel) rfl
theorem fi_X6_playDay : Cond.instanceMethod yX6_playDay ∈ lw_g := lw_in 1140 (by decide +kernel) rfl
theorem fv_X11_292 : pc_V RX11 292 yX6_playDay cX6_playDay 8 (some (.int)) 1 := ⟨⟨lw_in 1139 (by decide +kernel) rfl, lw_in 123 (by decide +kernel) rfl, fc_X6_playDay, ⟨by decide +kernel, by decide +kernel, by decide +kernel⟩, by decide⟩, fi_X6_playDay, lw_in 1141 (by decide +kernel) rfl⟩
theorem fc_X6_isMarkable : Cond.code yX6_isMarkable cX6_isMarkable 4 (some (.boolean)) ∈ lw_g := lw_in 1157 (by decide +kernel) rfl
theorem fi_X6_isMarkable : Cond.instanceMethod yX6_isMarkable ∈ lw_g := lw_in 1155 (by decide +kernel) rfl
theorem fv_X11_295 : pc_V RX11 295 yX6_isMarkable cX6_isMarkable 4 (some (.boolean)) 2 := ⟨⟨lw_in 1154 (by decide +kernel) rfl, lw_in 123 (by decide +kernel) rfl, fc_X6_isMarkable, ⟨by decide +kernel, by decide +kernel, by decide +kernel⟩, by decide⟩, fi_X6_isMarkable, lw_in 1156 (by decide +kernel) rfl⟩
theorem fc_X6_giveMark : Cond.code yX6_giveMark cX6_giveMark 6 none ∈ lw_g := lw_in 1147 (by decide +kernel) rfl
theorem fi_X6_giveMark : Cond.instanceMethod yX6_giveMark ∈ lw_g := lw_in 1145 (by decide +kernel) rfl
theorem fv_X11_298 : pc_V RX11 298 yX6_giveMark cX6_giveMark 6 none 2 := ⟨⟨lw_in 1158 (by decide +kernel) rfl, lw_in 123 (by decide +kernel) rfl, fc_X6_giveMark, ⟨by decide +kernel, by decide +kernel, by decide +kernel⟩, by decide⟩, fi_X6_giveMark, lw_in 1146 (by decide +kernel) rfl⟩
theorem fc_X6_promote : Cond.code yX6_promote cX6_promote 5 (some (.int)) ∈ lw_g := lw_in 1166 (by decide +kernel) rfl
theorem fi_X6_promote : Cond.instanceMethod yX6_promote ∈ lw_g := lw_in 1164 (by decide +kernel) rfl
theorem fv_X11_301 : pc_V RX11 301 yX6_promote cX6_promote 5 (some (.int)) 2 := ⟨⟨lw_in 1163 (by decide +kernel) rfl, lw_in 123 (by decide +kernel) rfl, fc_X6_promote, ⟨by decide +kernel, by decide +kernel, by decide +kernel⟩, by decide⟩, fi_X6_promote, lw_in 1165 (by decide +kernel) rfl⟩
theorem fc_X6_sortByForm : Cond.code yX6_sortByForm cX6_sortByForm 4 none ∈ lw_g := lw_in 1170 (by decide +kernel) rfl
theorem fi_X6_sortByForm : Cond.instanceMethod yX6_sortByForm ∈ lw_g := lw_in 1168 (by decide +kernel) rfl
theorem fv_X11_304 : pc_V RX11 304 yX6_sortByForm cX6_sortByForm 4 none 0 := ⟨⟨lw_in 1189 (by decide +kernel) rfl, lw_in 123 (by decide +kernel) rfl, fc_X6_sortByForm, ⟨by decide +kernel, by decide +kernel, by decide +kernel⟩, by decide⟩, fi_X6_sortByForm, lw_in 1169 (by decide +kernel) rfl⟩
theorem fc_X11_isShelf : Cond.code yX11_isShelf cX11_isShelf 2 (some (.boolean)) ∈ lw_g := lw_in 1206 (by decide +kernel) rfl
theorem fi_X11_isShelf : Cond.instanceMethod yX11_isShelf ∈ lw_g := lw_in 1205 (by decide +kernel) rfl
theorem fv_X11_313 : pc_V RX11 313 yX11_isShelf cX11_isShelf 2 (some (.boolean)) 1 := ⟨⟨lw_in 1203 (by decide +kernel) rfl, lw_in 116 (by decide +kernel) rfl, fc_X11_isShelf, ⟨by decide +kernel, by decide +kernel, by decide +kernel⟩, by decide⟩, fi_X11_isShelf, lw_in 43 (by decide +kernel) rfl⟩
theorem fc_X7_make : Cond.code yX7_make cX7_make 4 none ∈ lw_g := lw_in 1292 (by decide +kernel) rfl
theorem fi_X7_make : Cond.instanceMethod yX7_make ∈ lw_g := lw_in 1290 (by decide +kernel) rfl
theorem fv_X11_328 : pc_V RX11 328 yX7_make cX7_make 4 none 2 := ⟨⟨lw_in 1289 (by decide +kernel) rfl, lw_in 125 (by decide +kernel) rfl, fc_X7_make, ⟨by decide +kernel, by decide +kernel, by decide +kernel⟩, by decide⟩, fi_X7_make, lw_in 1291 (by decide +kernel) rfl⟩
theorem fc_X7_isPlace : Cond.code yX7_isPlace cX7_isPlace 2 (some (.boolean)) ∈ lw_g := lw_in 1303 (by decide +kernel) rfl
theorem fi_X7_isPlace : Cond.instanceMethod yX7_isPlace ∈ lw_g := lw_in 1301 (by decide +kernel) rfl
theorem fv_X11_331 : pc_V RX11 331 yX7_isPlace cX7_isPlace 2 (some (.boolean)) 1 := ⟨⟨lw_in 1300 (by decide +kernel) rfl, lw_in 125 (by decide +kernel) rfl, fc_X7_isPlace, ⟨by decide +kernel, by decide +kernel, by decide +kernel⟩, by decide⟩, fi_X7_isPlace, lw_in 1302 (by decide +kernel) rfl⟩
theorem fc_X12_four : Cond.code yX12_four cX12_four 3 none ∈ lw_g := lw_in 1494 (by decide +kernel) rfl
theorem fi_X12_four : Cond.instanceMethod yX12_four ∈ lw_g := lw_in 1493 (by decide +kernel) rfl
theorem fv_X12_127 : pc_V RX12 127 yX12_four cX12_four 3 none 1 := ⟨⟨lw_in 1491 (by decide +kernel) rfl, lw_in 126 (by decide +kernel) rfl, fc_X12_four, ⟨by decide +kernel, by decide +kernel, by decide +kernel⟩, by decide⟩, fi_X12_four, lw_in 45 (by decide +kernel) rfl⟩
theorem fc_X12_isIn : Cond.code yX12_isIn cX12_isIn 6 (some (.boolean)) ∈ lw_g := lw_in 1501 (by decide +kernel) rfl
theorem fv_X12_131 : pc_S RX12 131 yX12_isIn cX12_isIn 6 (some (.boolean)) 3 := ⟨⟨lw_in 1499 (by decide +kernel) rfl, lw_in 126 (by decide +kernel) rfl, fc_X12_isIn, ⟨by decide +kernel, by decide +kernel, by decide +kernel⟩, by decide⟩, lw_in 1500 (by decide +kernel) rfl⟩
theorem fc_X12_see : Cond.code yX12_see cX12_see 2 (some (.int)) ∈ lw_g := lw_in 1513 (by decide +kernel) rfl
theorem fi_X12_see : Cond.instanceMethod yX12_see ∈ lw_g := lw_in 1512 (by decide +kernel) rfl
theorem fv_X12_138 : pc_V RX12 138 yX12_see cX12_see 2 (some (.int)) 1 := ⟨⟨lw_in 1510 (by decide +kernel) rfl, lw_in 126 (by decide +kernel) rfl, fc_X12_see, ⟨by decide +kernel, by decide +kernel, by decide +kernel⟩, by decide⟩, fi_X12_see, lw_in 47 (by decide +kernel) rfl⟩
theorem fc_J0_length_8abf5 : Cond.code yJ0_length_8abf5 cJ0_length_8abf5 1 (some (.int)) ∈ lw_g := lw_in 1532 (by decide +kernel) rfl
theorem fi_J0_length_8abf5 : Cond.instanceMethod yJ0_length_8abf5 ∈ lw_g := lw_in 1530 (by decide +kernel) rfl
theorem fv_X12_176 : pc_V RX12 176 yJ0_length_8abf5 cJ0_length_8abf5 1 (some (.int)) 0 := ⟨⟨lw_in 1529 (by decide +kernel) rfl, lw_in 130 (by decide +kernel) rfl, fc_J0_length_8abf5, ⟨by decide +kernel, by decide +kernel, by decide +kernel⟩, by decide⟩, fi_J0_length_8abf5, lw_in 1531 (by decide +kernel) rfl⟩
theorem fc_J0_charAt_5068e : Cond.code yJ0_charAt_5068e cJ0_charAt_5068e 2 (some (.char)) ∈ lw_g := lw_in 1545 (by decide +kernel) rfl
theorem fi_J0_charAt_5068e : Cond.instanceMethod yJ0_charAt_5068e ∈ lw_g := lw_in 1543 (by decide +kernel) rfl
theorem fv_X12_182 : pc_V RX12 182 yJ0_charAt_5068e cJ0_charAt_5068e 2 (some (.char)) 1 := ⟨⟨lw_in 1542 (by decide +kernel) rfl, lw_in 130 (by decide +kernel) rfl, fc_J0_charAt_5068e, ⟨by decide +kernel, by decide +kernel, by decide +kernel⟩, by decide⟩, fi_J0_charAt_5068e, lw_in 1544 (by decide +kernel) rfl⟩
theorem fc_X12_packed : Cond.code yX12_packed cX12_packed 4 (some (.long)) ∈ lw_g := lw_in 1541 (by decide +kernel) rfl
theorem fv_X12_186 : pc_S RX12 186 yX12_packed cX12_packed 4 (some (.long)) 1 := ⟨⟨lw_in 1539 (by decide +kernel) rfl, lw_in 126 (by decide +kernel) rfl, fc_X12_packed, ⟨by decide +kernel, by decide +kernel, by decide +kernel⟩, by decide⟩, lw_in 1540 (by decide +kernel) rfl⟩
theorem fc_X12_isWord : Cond.code yX12_isWord cX12_isWord 2 (some (.boolean)) ∈ lw_g := lw_in 1528 (by decide +kernel) rfl
theorem fi_X12_isWord : Cond.instanceMethod yX12_isWord ∈ lw_g := lw_in 1527 (by decide +kernel) rfl
theorem fv_X12_192 : pc_V RX12 192 yX12_isWord cX12_isWord 2 (some (.boolean)) 1 := ⟨⟨lw_in 1525 (by decide +kernel) rfl, lw_in 126 (by decide +kernel) rfl, fc_X12_isWord, ⟨by decide +kernel, by decide +kernel, by decide +kernel⟩, by decide⟩, fi_X12_isWord, lw_in 49 (by decide +kernel) rfl⟩
theorem fc_X12_isOwn : Cond.code yX12_isOwn cX12_isOwn 1 (some (.boolean)) ∈ lw_g := lw_in 1603 (by decide +kernel) rfl
theorem fi_X12_isOwn : Cond.instanceMethod yX12_isOwn ∈ lw_g := lw_in 1602 (by decide +kernel) rfl
theorem fv_X12_234 : pc_V RX12 234 yX12_isOwn cX12_isOwn 1 (some (.boolean)) 0 := ⟨⟨lw_in 1600 (by decide +kernel) rfl, lw_in 126 (by decide +kernel) rfl, fc_X12_isOwn, ⟨by decide +kernel, by decide +kernel, by decide +kernel⟩, by decide⟩, fi_X12_isOwn, lw_in 55 (by decide +kernel) rfl⟩
theorem fc_X12_fails : Cond.code yX12_fails cX12_fails 2 (some (.boolean)) ∈ lw_g := lw_in 1591 (by decide +kernel) rfl
theorem fi_X12_fails : Cond.instanceMethod yX12_fails ∈ lw_g := lw_in 1590 (by decide +kernel) rfl
theorem fv_X12_238 : pc_V RX12 238 yX12_fails cX12_fails 2 (some (.boolean)) 1 := ⟨⟨lw_in 1588 (by decide +kernel) rfl, lw_in 126 (by decide +kernel) rfl, fc_X12_fails, ⟨by decide +kernel, by decide +kernel, by decide +kernel⟩, by decide⟩, fi_X12_fails, lw_in 52 (by decide +kernel) rfl⟩
theorem fc_X12_next : Cond.code yX12_next cX12_next 2 none ∈ lw_g := lw_in 1509 (by decide +kernel) rfl
theorem fi_X12_next : Cond.instanceMethod yX12_next ∈ lw_g := lw_in 1508 (by decide +kernel) rfl
theorem fv_X12_242 : pc_V RX12 242 yX12_next cX12_next 2 none 0 := ⟨⟨lw_in 1506 (by decide +kernel) rfl, lw_in 126 (by decide +kernel) rfl, fc_X12_next, ⟨by decide +kernel, by decide +kernel, by decide +kernel⟩, by decide⟩, fi_X12_next, lw_in 46 (by decide +kernel) rfl⟩
theorem fc_X12_takes : Cond.code yX12_takes cX12_takes 2 (some (.boolean)) ∈ lw_g := lw_in 1656 (by decide +kernel) rfl
theorem fi_X12_takes : Cond.instanceMethod yX12_takes ∈ lw_g := lw_in 1655 (by decide +kernel) rfl
theorem fv_X12_248 : pc_V RX12 248 yX12_takes cX12_takes 2 (some (.boolean)) 1 := ⟨⟨lw_in 1653 (by decide +kernel) rfl, lw_in 126 (by decide +kernel) rfl, fc_X12_takes, ⟨by decide +kernel, by decide +kernel, by decide +kernel⟩, by decide⟩, fi_X12_takes, lw_in 62 (by decide +kernel) rfl⟩
theorem fc_X12_readNumber : Cond.code yX12_readNumber cX12_readNumber 3 (some (.boolean)) ∈ lw_g := lw_in 1644 (by decide +kernel) rfl
theorem fi_X12_readNumber : Cond.instanceMethod yX12_readNumber ∈ lw_g := lw_in 1643 (by decide +kernel) rfl
theorem fv_X12_251 : pc_V RX12 251 yX12_readNumber cX12_readNumber 3 (some (.boolean)) 2 := ⟨⟨lw_in 1641 (by decide +kernel) rfl, lw_in 126 (by decide +kernel) rfl, fc_X12_readNumber, ⟨by decide +kernel, by decide +kernel, by decide +kernel⟩, by decide⟩, fi_X12_readNumber, lw_in 59 (by decide +kernel) rfl⟩
theorem fc_X12_isName : Cond.code yX12_isName cX12_isName 1 (some (.boolean)) ∈ lw_g := lw_in 1599 (by decide +kernel) rfl
theorem fi_X12_isName : Cond.instanceMethod yX12_isName ∈ lw_g := lw_in 1598 (by decide +kernel) rfl
theorem fv_X12_255 : pc_V RX12 255 yX12_isName cX12_isName 1 (some (.boolean)) 0 := ⟨⟨lw_in 1596 (by decide +kernel) rfl, lw_in 126 (by decide +kernel) rfl, fc_X12_isName, ⟨by decide +kernel, by decide +kernel, by decide +kernel⟩, by decide⟩, fi_X12_isName, lw_in 54 (by decide +kernel) rfl⟩
theorem fc_X12_placeOf : Cond.code yX12_placeOf cX12_placeOf 6 (some (.int)) ∈ lw_g := lw_in 1628 (by decide +kernel) rfl
theorem fv_X12_258 : pc_S RX12 258 yX12_placeOf cX12_placeOf 6 (some (.int)) 4 := ⟨⟨lw_in 1626 (by decide +kernel) rfl, lw_in 126 (by decide +kernel) rfl, fc_X12_placeOf, ⟨by decide +kernel, by decide +kernel, by decide +kernel⟩, by decide⟩, lw_in 1627 (by decide +kernel) rfl⟩
theorem fc_X12_comesTo : Cond.code yX12_comesTo cX12_comesTo 2 (some (.boolean)) ∈ lw_g := lw_in 1640 (by decide +kernel) rfl
theorem fi_X12_comesTo : Cond.instanceMethod yX12_comesTo ∈ lw_g := lw_in 1639 (by decide +kernel) rfl
theorem fv_X12_262 : pc_V RX12 262 yX12_comesTo cX12_comesTo 2 (some (.boolean)) 1 := ⟨⟨lw_in 1637 (by decide +kernel) rfl, lw_in 126 (by decide +kernel) rfl, fc_X12_comesTo, ⟨by decide +kernel, by decide +kernel, by decide +kernel⟩, by decide⟩, fi_X12_comesTo, lw_in 58 (by decide +kernel) rfl⟩
theorem fc_X12_isFull : Cond.code yX12_isFull cX12_isFull 3 (some (.boolean)) ∈ lw_g := lw_in 1587 (by decide +kernel) rfl
theorem fi_X12_isFull : Cond.instanceMethod yX12_isFull ∈ lw_g := lw_in 1586 (by decide +kernel) rfl
theorem fv_X12_265 : pc_V RX12 265 yX12_isFull cX12_isFull 3 (some (.boolean)) 2 := ⟨⟨lw_in 1584 (by decide +kernel) rfl, lw_in 126 (by decide +kernel) rfl, fc_X12_isFull, ⟨by decide +kernel, by decide +kernel, by decide +kernel⟩, by decide⟩, fi_X12_isFull, lw_in 51 (by decide +kernel) rfl⟩
theorem fc_X12_isNew : Cond.code yX12_isNew cX12_isNew 2 (some (.boolean)) ∈ lw_g := lw_in 1595 (by decide +kernel) rfl
theorem fi_X12_isNew : Cond.instanceMethod yX12_isNew ∈ lw_g := lw_in 1594 (by decide +kernel) rfl
theorem fv_X12_268 : pc_V RX12 268 yX12_isNew cX12_isNew 2 (some (.boolean)) 0 := ⟨⟨lw_in 1592 (by decide +kernel) rfl, lw_in 126 (by decide +kernel) rfl, fc_X12_isNew, ⟨by decide +kernel, by decide +kernel, by decide +kernel⟩, by decide⟩, fi_X12_isNew, lw_in 53 (by decide +kernel) rfl⟩
theorem fc_X12_readOne : Cond.code yX12_readOne cX12_readOne 2 (some (.boolean)) ∈ lw_g := lw_in 1636 (by decide +kernel) rfl
theorem fi_X12_readOne : Cond.instanceMethod yX12_readOne ∈ lw_g := lw_in 1635 (by decide +kernel) rfl
theorem fv_X12_271 : pc_V RX12 271 yX12_readOne cX12_readOne 2 (some (.boolean)) 1 := ⟨⟨lw_in 1633 (by decide +kernel) rfl, lw_in 126 (by decide +kernel) rfl, fc_X12_readOne, ⟨by decide +kernel, by decide +kernel, by decide +kernel⟩, by decide⟩, fi_X12_readOne, lw_in 57 (by decide +kernel) rfl⟩
theorem fc_X12_readAfter : Cond.code yX12_readAfter cX12_readAfter 4 (some (.boolean)) ∈ lw_g := lw_in 1664 (by decide +kernel) rfl
theorem fi_X12_readAfter : Cond.instanceMethod yX12_readAfter ∈ lw_g := lw_in 1663 (by decide +kernel) rfl
theorem fv_X12_274 : pc_V RX12 274 yX12_readAfter cX12_readAfter 4 (some (.boolean)) 3 := ⟨⟨lw_in 1661 (by decide +kernel) rfl, lw_in 126 (by decide +kernel) rfl, fc_X12_readAfter, ⟨by decide +kernel, by decide +kernel, by decide +kernel⟩, by decide⟩, fi_X12_readAfter, lw_in 64 (by decide +kernel) rfl⟩
theorem fc_X12_readSum : Cond.code yX12_readSum cX12_readSum 2 (some (.boolean)) ∈ lw_g := lw_in 1680 (by decide +kernel) rfl
theorem fi_X12_readSum : Cond.instanceMethod yX12_readSum ∈ lw_g := lw_in 1679 (by decide +kernel) rfl
theorem fv_X12_284 : pc_V RX12 284 yX12_readSum cX12_readSum 2 (some (.boolean)) 0 := ⟨⟨lw_in 1677 (by decide +kernel) rfl, lw_in 126 (by decide +kernel) rfl, fc_X12_readSum, ⟨by decide +kernel, by decide +kernel, by decide +kernel⟩, by decide⟩, fi_X12_readSum, lw_in 68 (by decide +kernel) rfl⟩
theorem fc_X12_readTerm : Cond.code yX12_readTerm cX12_readTerm 2 (some (.boolean)) ∈ lw_g := lw_in 1684 (by decide +kernel) rfl
theorem fi_X12_readTerm : Cond.instanceMethod yX12_readTerm ∈ lw_g := lw_in 1683 (by decide +kernel) rfl
theorem fv_X12_287 : pc_V RX12 287 yX12_readTerm cX12_readTerm 2 (some (.boolean)) 0 := ⟨⟨lw_in 1681 (by decide +kernel) rfl, lw_in 126 (by decide +kernel) rfl, fc_X12_readTerm, ⟨by decide +kernel, by decide +kernel, by decide +kernel⟩, by decide⟩, fi_X12_readTerm, lw_in 69 (by decide +kernel) rfl⟩
theorem fc_X12_isSign : Cond.code yX12_isSign cX12_isSign 2 (some (.boolean)) ∈ lw_g := lw_in 1704 (by decide +kernel) rfl
theorem fi_X12_isSign : Cond.instanceMethod yX12_isSign ∈ lw_g := lw_in 1703 (by decide +kernel) rfl
theorem fv_X12_290 : pc_V RX12 290 yX12_isSign cX12_isSign 2 (some (.boolean)) 1 := ⟨⟨lw_in 1701 (by decide +kernel) rfl, lw_in 126 (by decide +kernel) rfl, fc_X12_isSign, ⟨by decide +kernel, by decide +kernel, by decide +kernel⟩, by decide⟩, fi_X12_isSign, lw_in 74 (by decide +kernel) rfl⟩
theorem fc_X12_puts : Cond.code yX12_puts cX12_puts 3 none ∈ lw_g := lw_in 1696 (by decide +kernel) rfl
theorem fi_X12_puts : Cond.instanceMethod yX12_puts ∈ lw_g := lw_in 1695 (by decide +kernel) rfl
theorem fv_X12_293 : pc_V RX12 293 yX12_puts cX12_puts 3 none 2 := ⟨⟨lw_in 1693 (by decide +kernel) rfl, lw_in 126 (by decide +kernel) rfl, fc_X12_puts, ⟨by decide +kernel, by decide +kernel, by decide +kernel⟩, by decide⟩, fi_X12_puts, lw_in 72 (by decide +kernel) rfl⟩
theorem fc_X12_readAtom : Cond.code yX12_readAtom cX12_readAtom 2 (some (.boolean)) ∈ lw_g := lw_in 1688 (by decide +kernel) rfl
theorem fi_X12_readAtom : Cond.instanceMethod yX12_readAtom ∈ lw_g := lw_in 1687 (by decide +kernel) rfl
theorem fv_X12_297 : pc_V RX12 297 yX12_readAtom cX12_readAtom 2 (some (.boolean)) 0 := ⟨⟨lw_in 1685 (by decide +kernel) rfl, lw_in 126 (by decide +kernel) rfl, fc_X12_readAtom, ⟨by decide +kernel, by decide +kernel, by decide +kernel⟩, by decide⟩, fi_X12_readAtom, lw_in 70 (by decide +kernel) rfl⟩
theorem fc_X12_wordHere : Cond.code yX12_wordHere cX12_wordHere 1 (some (.int)) ∈ lw_g := lw_in 1692 (by decide +kernel) rfl
theorem fi_X12_wordHere : Cond.instanceMethod yX12_wordHere ∈ lw_g := lw_in 1691 (by decide +kernel) rfl
theorem fv_X12_300 : pc_V RX12 300 yX12_wordHere cX12_wordHere 1 (some (.int)) 0 := ⟨⟨lw_in 1689 (by decide +kernel) rfl, lw_in 126 (by decide +kernel) rfl, fc_X12_wordHere, ⟨by decide +kernel, by decide +kernel, by decide +kernel⟩, by decide⟩, fi_X12_wordHere, lw_in 71 (by decide +kernel) rfl⟩
theorem fc_X12_readBracket : Cond.code yX12_readBracket cX12_readBracket 1 (some (.boolean)) ∈ lw_g := lw_in 1700 (by decide +kernel) rfl
theorem fi_X12_readBracket : Cond.instanceMethod yX12_readBracket ∈ lw_g := lw_in 1699 (by decide +kernel) rfl
theorem fv_X12_303 : pc_V RX12 303 yX12_readBracket cX12_readBracket 1 (some (.boolean)) 0 := ⟨⟨lw_in 1697 (by decide +kernel) rfl, lw_in 126 (by decide +kernel) rfl, fc_X12_readBracket, ⟨by decide +kernel, by decide +kernel, by decide +kernel⟩, by decide⟩, fi_X12_readBracket, lw_in 73 (by decide +kernel) rfl⟩
theorem fc_X12_readField : Cond.code yX12_readField cX12_readField 1 (some (.boolean)) ∈ lw_g := lw_in 1583 (by decide +kernel) rfl
theorem fi_X12_readField : Cond.instanceMethod yX12_readField ∈ lw_g := lw_in 1582 (by decide +kernel) rfl
theorem fv_X12_306 : pc_V RX12 306 yX12_readField cX12_readField 1 (some (.boolean)) 0 := ⟨⟨lw_in 1580 (by decide +kernel) rfl, lw_in 126 (by decide +kernel) rfl, fc_X12_readField, ⟨by decide +kernel, by decide +kernel, by decide +kernel⟩, by decide⟩, fi_X12_readField, lw_in 50 (by decide +kernel) rfl⟩
theorem fc_X12_readRoad : Cond.code yX12_readRoad cX12_readRoad 3 (some (.boolean)) ∈ lw_g := lw_in 1632 (by decide +kernel) rfl
theorem fi_X12_readRoad : Cond.instanceMethod yX12_readRoad ∈ lw_g := lw_in 1631 (by decide +kernel) rfl
theorem fv_X12_309 : pc_V RX12 309 yX12_readRoad cX12_readRoad 3 (some (.boolean)) 0 := ⟨⟨lw_in 1629 (by decide +kernel) rfl, lw_in 126 (by decide +kernel) rfl, fc_X12_readRoad, ⟨by decide +kernel, by decide +kernel, by decide +kernel⟩, by decide⟩, fi_X12_readRoad, lw_in 56 (by decide +kernel) rfl⟩
theorem fc_X12_readClub : Cond.code yX12_readClub cX12_readClub 1 (some (.boolean)) ∈ lw_g := lw_in 1648 (by decide +kernel) rfl
theorem fi_X12_readClub : Cond.instanceMethod yX12_readClub ∈ lw_g := lw_in 1647 (by decide +kernel) rfl
theorem fv_X12_312 : pc_V RX12 312 yX12_readClub cX12_readClub 1 (some (.boolean)) 0 := ⟨⟨lw_in 1645 (by decide +kernel) rfl, lw_in 126 (by decide +kernel) rfl, fc_X12_readClub, ⟨by decide +kernel, by decide +kernel, by decide +kernel⟩, by decide⟩, fi_X12_readClub, lw_in 60 (by decide +kernel) rfl⟩
theorem fc_X12_readOfficial : Cond.code yX12_readOfficial cX12_readOfficial 2 (some (.boolean)) ∈ lw_g := lw_in 1652 (by decide +kernel) rfl
theorem fi_X12_readOfficial : Cond.instanceMethod yX12_readOfficial ∈ lw_g := lw_in 1651 (by decide +kernel) rfl
theorem fv_X12_315 : pc_V RX12 315 yX12_readOfficial cX12_readOfficial 2 (some (.boolean)) 0 := ⟨⟨lw_in 1649 (by decide +kernel) rfl, lw_in 126 (by decide +kernel) rfl, fc_X12_readOfficial, ⟨by decide +kernel, by decide +kernel, by decide +kernel⟩, by decide⟩, fi_X12_readOfficial, lw_in 61 (by decide +kernel) rfl⟩
theorem fc_X12_readOff : Cond.code yX12_readOff cX12_readOff 5 (some (.boolean)) ∈ lw_g := lw_in 1660 (by decide +kernel) rfl
theorem fi_X12_readOff : Cond.instanceMethod yX12_readOff ∈ lw_g := lw_in 1659 (by decide +kernel) rfl
theorem fv_X12_318 : pc_V RX12 318 yX12_readOff cX12_readOff 5 (some (.boolean)) 0 := ⟨⟨lw_in 1657 (by decide +kernel) rfl, lw_in 126 (by decide +kernel) rfl, fc_X12_readOff, ⟨by decide +kernel, by decide +kernel, by decide +kernel⟩, by decide⟩, fi_X12_readOff, lw_in 63 (by decide +kernel) rfl⟩
theorem fc_X12_readGame : Cond.code yX12_readGame cX12_readGame 2 (some (.boolean)) ∈ lw_g := lw_in 1668 (by decide +kernel) rfl
theorem fi_X12_readGame : Cond.instanceMethod yX12_readGame ∈ lw_g := lw_in 1667 (by decide +kernel) rfl
theorem fv_X12_321 : pc_V RX12 321 yX12_readGame cX12_readGame 2 (some (.boolean)) 0 := ⟨⟨lw_in 1665 (by decide +kernel) rfl, lw_in 126 (by decide +kernel) rfl, fc_X12_readGame, ⟨by decide +kernel, by decide +kernel, by decide +kernel⟩, by decide⟩, fi_X12_readGame, lw_in 65 (by decide +kernel) rfl⟩
theorem fc_X12_readKept : Cond.code yX12_readKept cX12_readKept 4 (some (.boolean)) ∈ lw_g := lw_in 1672 (by decide +kernel) rfl
theorem fi_X12_readKept : Cond.instanceMethod yX12_readKept ∈ lw_g := lw_in 1671 (by decide +kernel) rfl
theorem fv_X12_324 : pc_V RX12 324 yX12_readKept cX12_readKept 4 (some (.boolean)) 3 := ⟨⟨lw_in 1669 (by decide +kernel) rfl, lw_in 126 (by decide +kernel) rfl, fc_X12_readKept, ⟨by decide +kernel, by decide +kernel, by decide +kernel⟩, by decide⟩, fi_X12_readKept, lw_in 66 (by decide +kernel) rfl⟩
theorem fc_X12_readFee : Cond.code yX12_readFee cX12_readFee 1 (some (.boolean)) ∈ lw_g := lw_in 1676 (by decide +kernel) rfl
theorem fi_X12_readFee : Cond.instanceMethod yX12_readFee ∈ lw_g := lw_in 1675 (by decide +kernel) rfl
theorem fv_X12_328 : pc_V RX12 328 yX12_readFee cX12_readFee 1 (some (.boolean)) 0 := ⟨⟨lw_in 1673 (by decide +kernel) rfl, lw_in 126 (by decide +kernel) rfl, fc_X12_readFee, ⟨by decide +kernel, by decide +kernel, by decide +kernel⟩, by decide⟩, fi_X12_readFee, lw_in 67 (by decide +kernel) rfl⟩
theorem fc_X12_readLine : Cond.code yX12_readLine cX12_readLine 2 (some (.boolean)) ∈ lw_g := lw_in 1523 (by decide +kernel) rfl
theorem fi_X12_readLine : Cond.instanceMethod yX12_readLine ∈ lw_g := lw_in 1522 (by decide +kernel) rfl
theorem fv_X12_331 : pc_V RX12 331 yX12_readLine cX12_readLine 2 (some (.boolean)) 0 := ⟨⟨lw_in 1520 (by decide +kernel) rfl, lw_in 126 (by decide +kernel) rfl, fc_X12_readLine, ⟨by decide +kernel, by decide +kernel, by decide +kernel⟩, by decide⟩, fi_X12_readLine, lw_in 48 (by decide +kernel) rfl⟩
theorem fc_X12_takesOver : Cond.code yX12_takesOver cX12_takesOver 2 none ∈ lw_g := lw_in 1708 (by decide +kernel) rfl
theorem fi_X12_takesOver : Cond.instanceMethod yX12_takesOver ∈ lw_g := lw_in 1707 (by decide +kernel) rfl
theorem fv_X12_337 : pc_V RX12 337 yX12_takesOver cX12_takesOver 2 none 0 := ⟨⟨lw_in 1705 (by decide +kernel) rfl, lw_in 126 (by decide +kernel) rfl, fc_X12_takesOver, ⟨by decide +kernel, by decide +kernel, by decide +kernel⟩, by decide⟩, fi_X12_takesOver, lw_in 75 (by decide +kernel) rfl⟩
theorem fc_X12_laysWays : Cond.code yX12_laysWays cX12_laysWays 6 none ∈ lw_g := lw_in 1713 (by decide +kernel) rfl
theorem fi_X12_laysWays : Cond.instanceMethod yX12_laysWays ∈ lw_g := lw_in 1712 (by decide +kernel) rfl
theorem fv_X12_347 : pc_V RX12 347 yX12_laysWays cX12_laysWays 6 none 0 := ⟨⟨lw_in 1710 (by decide +kernel) rfl, lw_in 126 (by decide +kernel) rfl, fc_X12_laysWays, ⟨by decide +kernel, by decide +kernel, by decide +kernel⟩, by decide⟩, fi_X12_laysWays, lw_in 76 (by decide +kernel) rfl⟩
theorem fc_X12_isGame : Cond.code yX12_isGame cX12_isGame 2 (some (.boolean)) ∈ lw_g := lw_in 1772 (by decide +kernel) rfl
theorem fi_X12_isGame : Cond.instanceMethod yX12_isGame ∈ lw_g := lw_in 1771 (by decide +kernel) rfl
theorem fv_X12_350 : pc_V RX12 350 yX12_isGame cX12_isGame 2 (some (.boolean)) 1 := ⟨⟨lw_in 1769 (by decide +kernel) rfl, lw_in 126 (by decide +kernel) rfl, fc_X12_isGame, ⟨by decide +kernel, by decide +kernel, by decide +kernel⟩, by decide⟩, fi_X12_isGame, lw_in 80 (by decide +kernel) rfl⟩
theorem fc_X12_of : Cond.code yX12_of cX12_of 3 (some (.int)) ∈ lw_g := lw_in 1729 (by decide +kernel) rfl
theorem fi_X12_of : Cond.instanceMethod yX12_of ∈ lw_g := lw_in 1728 (by decide +kernel) rfl
theorem fv_X12_353 : pc_V RX12 353 yX12_of cX12_of 3 (some (.int)) 2 := ⟨⟨lw_in 1726 (by decide +kernel) rfl, lw_in 126 (by decide +kernel) rfl, fc_X12_of, ⟨by decide +kernel, by decide +kernel, by decide +kernel⟩, by decide⟩, fi_X12_of, lw_in 77 (by decide +kernel) rfl⟩
theorem fc_X12_one : Cond.code yX12_one cX12_one 1 (some (.int)) ∈ lw_g := lw_in 1735 (by decide +kernel) rfl
theorem fv_X12_357 : pc_S RX12 357 yX12_one cX12_one 1 (some (.int)) 1 := ⟨⟨lw_in 1733 (by decide +kernel) rfl, lw_in 126 (by decide +kernel) rfl, fc_X12_one, ⟨by decide +kernel, by decide +kernel, by decide +kernel⟩, by decide⟩, lw_in 1734 (by decide +kernel) rfl⟩
theorem fc_X12_at : Cond.code yX12_at cX12_at 2 (some (.int)) ∈ lw_g := lw_in 1732 (by decide +kernel) rfl
theorem fv_X12_360 : pc_S RX12 360 yX12_at cX12_at 2 (some (.int)) 2 := ⟨⟨lw_in 1730 (by decide +kernel) rfl, lw_in 126 (by decide +kernel) rfl, fc_X12_at, ⟨by decide +kernel, by decide +kernel, by decide +kernel⟩, by decide⟩, lw_in 1731 (by decide +kernel) rfl⟩
theorem fc_X12_letterOf : Cond.code yX12_letterOf cX12_letterOf 7 (some (.int)) ∈ lw_g := lw_in 1743 (by decide +kernel) rfl
theorem fv_X12_364 : pc_S RX12 364 yX12_letterOf cX12_letterOf 7 (some (.int)) 2 := ⟨⟨lw_in 1741 (by decide +kernel) rfl, lw_in 126 (by decide +kernel) rfl, fc_X12_letterOf, ⟨by decide +kernel, by decide +kernel, by decide +kernel⟩, by decide⟩, lw_in 1742 (by decide +kernel) rfl⟩
theorem fc_X12_isOne : Cond.code yX12_isOne cX12_isOne 2 (some (.boolean)) ∈ lw_g := lw_in 1751 (by decide +kernel) rfl
theorem fi_X12_isOne : Cond.instanceMethod yX12_isOne ∈ lw_g := lw_in 1750 (by decide +kernel) rfl
theorem fv_X12_368 : pc_V RX12 368 yX12_isOne cX12_isOne 2 (some (.boolean)) 1 := ⟨⟨lw_in 1748 (by decide +kernel) rfl, lw_in 126 (by decide +kernel) rfl, fc_X12_isOne, ⟨by decide +kernel, by decide +kernel, by decide +kernel⟩, by decide⟩, fi_X12_isOne, lw_in 78 (by decide +kernel) rfl⟩
theorem fc_X12_seatsOf : Cond.code yX12_seatsOf cX12_seatsOf 4 (some (.int)) ∈ lw_g := lw_in 1755 (by decide +kernel) rfl
theorem fi_X12_seatsOf : Cond.instanceMethod yX12_seatsOf ∈ lw_g := lw_in 1754 (by decide +kernel) rfl
theorem fv_X12_371 : pc_V RX12 371 yX12_seatsOf cX12_seatsOf 4 (some (.int)) 1 := ⟨⟨lw_in 1752 (by decide +kernel) rfl, lw_in 126 (by decide +kernel) rfl, fc_X12_seatsOf, ⟨by decide +kernel, by decide +kernel, by decide +kernel⟩, by decide⟩, fi_X12_seatsOf, lw_in 79 (by decide +kernel) rfl⟩
theorem fc_X12_bitsOf : Cond.code yX12_bitsOf cX12_bitsOf 4 (some (.int)) ∈ lw_g := lw_in 1762 (by decide +kernel) rfl
theorem fv_X12_374 : pc_S RX12 374 yX12_bitsOf cX12_bitsOf 4 (some (.int)) 1 := ⟨⟨lw_in 1760 (by decide +kernel) rfl, lw_in 126 (by decide +kernel) rfl, fc_X12_bitsOf, ⟨by decide +kernel, by decide +kernel, by decide +kernel⟩, by decide⟩, lw_in 1761 (by decide +kernel) rfl⟩
theorem fc_X12_isPlayed : Cond.code yX12_isPlayed cX12_isPlayed 2 (some (.boolean)) ∈ lw_g := lw_in 1777 (by decide +kernel) rfl
theorem fi_X12_isPlayed : Cond.instanceMethod yX12_isPlayed ∈ lw_g := lw_in 1776 (by decide +kernel) rfl
theorem fv_X12_382 : pc_V RX12 382 yX12_isPlayed cX12_isPlayed 2 (some (.boolean)) 1 := ⟨⟨lw_in 1774 (by decide +kernel) rfl, lw_in 126 (by decide +kernel) rfl, fc_X12_isPlayed, ⟨by decide +kernel, by decide +kernel, by decide +kernel⟩, by decide⟩, fi_X12_isPlayed, lw_in 81 (by decide +kernel) rfl⟩
theorem fc_X12_isLate : Cond.code yX12_isLate cX12_isLate 2 (some (.boolean)) ∈ lw_g := lw_in 1781 (by decide +kernel) rfl
theorem fi_X12_isLate : Cond.instanceMethod yX12_isLate ∈ lw_g := lw_in 1780 (by decide +kernel) rfl
theorem fv_X12_385 : pc_V RX12 385 yX12_isLate cX12_isLate 2 (some (.boolean)) 1 := ⟨⟨lw_in 1778 (by decide +kernel) rfl, lw_in 126 (by decide +kernel) rfl, fc_X12_isLate, ⟨by decide +kernel, by decide +kernel, by decide +kernel⟩, by decide⟩, fi_X12_isLate, lw_in 82 (by decide +kernel) rfl⟩
theorem fc_X12_isSeat : Cond.code yX12_isSeat cX12_isSeat 3 (some (.boolean)) ∈ lw_g := lw_in 1789 (by decide +kernel) rfl
theorem fi_X12_isSeat : Cond.instanceMethod yX12_isSeat ∈ lw_g := lw_in 1788 (by decide +kernel) rfl
theorem fv_X12_388 : pc_V RX12 388 yX12_isSeat cX12_isSeat 3 (some (.boolean)) 2 := ⟨⟨lw_in 1786 (by decide +kernel) rfl, lw_in 126 (by decide +kernel) rfl, fc_X12_isSeat, ⟨by decide +kernel, by decide +kernel, by decide +kernel⟩, by decide⟩, fi_X12_isSeat, lw_in 83 (by decide +kernel) rfl⟩
theorem fc_X12_isField : Cond.code yX12_isField cX12_isField 2 (some (.boolean)) ∈ lw_g := lw_in 1797 (by decide +kernel) rfl
theorem fi_X12_isField : Cond.instanceMethod yX12_isField ∈ lw_g := lw_in 1796 (by decide +kernel) rfl
theorem fv_X12_391 : pc_V RX12 391 yX12_isField cX12_isField 2 (some (.boolean)) 1 := ⟨⟨lw_in 1794 (by decide +kernel) rfl, lw_in 126 (by decide +kernel) rfl, fc_X12_isField, ⟨by decide +kernel, by decide +kernel, by decide +kernel⟩, by decide⟩, fi_X12_isField, lw_in 84 (by decide +kernel) rfl⟩
theorem fc_X12_wayOf : Cond.code yX12_wayOf cX12_wayOf 3 (some (.int)) ∈ lw_g := lw_in 1801 (by decide +kernel) rfl
theorem fi_X12_wayOf : Cond.instanceMethod yX12_wayOf ∈ lw_g := lw_in 1800 (by decide +kernel) rfl
theorem fv_X12_394 : pc_V RX12 394 yX12_wayOf cX12_wayOf 3 (some (.int)) 2 := ⟨⟨lw_in 1798 (by decide +kernel) rfl, lw_in 126 (by decide +kernel) rfl, fc_X12_wayOf, ⟨by decide +kernel, by decide +kernel, by decide +kernel⟩, by decide⟩, fi_X12_wayOf, lw_in 85 (by decide +kernel) rfl⟩
theorem fc_J9_max_7cf53 : Cond.code yJ9_max_7cf53 cJ9_max_7cf53 2 (some (.int)) ∈ lw_g := lw_in 1832 (by decide +kernel) rfl
theorem fv_X12_397 : pc_S RX12 397 yJ9_max_7cf53 cJ9_max_7cf53 2 (some (.int)) 2 := ⟨⟨lw_in 1830 (by decide +kernel) rfl, lw_in 135 (by decide +kernel) rfl, fc_J9_max_7cf53, ⟨by decide +kernel, by decide +kernel, by decide +kernel⟩, by decide⟩, lw_in 1831 (by decide +kernel) rfl⟩
theorem fc_X12_endOf : Cond.code yX12_endOf cX12_endOf 2 (some (.int)) ∈ lw_g := lw_in 1844 (by decide +kernel) rfl
theorem fi_X12_endOf : Cond.instanceMethod yX12_endOf ∈ lw_g := lw_in 1843 (by decide +kernel) rfl
theorem fv_X12_402 : pc_V RX12 402 yX12_endOf cX12_endOf 2 (some (.int)) 1 := ⟨⟨lw_in 1841 (by decide +kernel) rfl, lw_in 126 (by decide +kernel) rfl, fc_X12_endOf, ⟨by decide +kernel, by decide +kernel, by decide +kernel⟩, by decide⟩, fi_X12_endOf, lw_in 92 (by decide +kernel) rfl⟩
theorem fc_X12_isInGame : Cond.code yX12_isInGame cX12_isInGame 4 (some (.boolean)) ∈ lw_g := lw_in 1825 (by decide +kernel) rfl
theorem fi_X12_isInGame : Cond.instanceMethod yX12_isInGame ∈ lw_g := lw_in 1824 (by decide +kernel) rfl
theorem fv_X12_405 : pc_V RX12 405 yX12_isInGame cX12_isInGame 4 (some (.boolean)) 2 := ⟨⟨lw_in 1822 (by decide +kernel) rfl, lw_in 126 (by decide +kernel) rfl, fc_X12_isInGame, ⟨by decide +kernel, by decide +kernel, by decide +kernel⟩, by decide⟩, fi_X12_isInGame, lw_in 88 (by decide +kernel) rfl⟩
theorem fc_X12_needOf : Cond.code yX12_needOf cX12_needOf 3 (some (.int)) ∈ lw_g := lw_in 1829 (by decide +kernel) rfl
theorem fi_X12_needOf : Cond.instanceMethod yX12_needOf ∈ lw_g := lw_in 1828 (by decide +kernel) rfl
theorem fv_X12_408 : pc_V RX12 408 yX12_needOf cX12_needOf 3 (some (.int)) 2 := ⟨⟨lw_in 1826 (by decide +kernel) rfl, lw_in 126 (by decide +kernel) rfl, fc_X12_needOf, ⟨by decide +kernel, by decide +kernel, by decide +kernel⟩, by decide⟩, fi_X12_needOf, lw_in 89 (by decide +kernel) rfl⟩
theorem fc_X12_isOther : Cond.code yX12_isOther cX12_isOther 4 (some (.boolean)) ∈ lw_g := lw_in 1836 (by decide +kernel) rfl
theorem fi_X12_isOther : Cond.instanceMethod yX12_isOther ∈ lw_g := lw_in 1835 (by decide +kernel) rfl
theorem fv_X12_411 : pc_V RX12 411 yX12_isOther cX12_isOther 4 (some (.boolean)) 3 := ⟨⟨lw_in 1833 (by decide +kernel) rfl, lw_in 126 (by decide +kernel) rfl, fc_X12_isOther, ⟨by decide +kernel, by decide +kernel, by decide +kernel⟩, by decide⟩, fi_X12_isOther, lw_in 90 (by decide +kernel) rfl⟩
theorem fc_X12_areAtOnce : Cond.code yX12_areAtOnce cX12_areAtOnce 3 (some (.boolean)) ∈ lw_g := lw_in 1840 (by decide +kernel) rfl
theorem fi_X12_areAtOnce : Cond.instanceMethod yX12_areAtOnce ∈ lw_g := lw_in 1839 (by decide +kernel) rfl
theorem fv_X12_414 : pc_V RX12 414 yX12_areAtOnce cX12_areAtOnce 3 (some (.boolean)) 2 := ⟨⟨lw_in 1837 (by decide +kernel) rfl, lw_in 126 (by decide +kernel) rfl, fc_X12_areAtOnce, ⟨by decide +kernel, by decide +kernel, by decide +kernel⟩, by decide⟩, fi_X12_areAtOnce, lw_in 91 (by decide +kernel) rfl⟩
theorem fc_X12_between : Cond.code yX12_between cX12_between 3 (some (.int)) ∈ lw_g := lw_in 1848 (by decide +kernel) rfl
theorem fi_X12_between : Cond.instanceMethod yX12_between ∈ lw_g := lw_in 1847 (by decide +kernel) rfl
theorem fv_X12_417 : pc_V RX12 417 yX12_between cX12_between 3 (some (.int)) 2 := ⟨⟨lw_in 1845 (by decide +kernel) rfl, lw_in 126 (by decide +kernel) rfl, fc_X12_between, ⟨by decide +kernel, by decide +kernel, by decide +kernel⟩, by decide⟩, fi_X12_between, lw_in 93 (by decide +kernel) rfl⟩
theorem fc_X12_bits : Cond.code yX12_bits cX12_bits 3 (some (.int)) ∈ lw_g := lw_in 1851 (by decide +kernel) rfl
theorem fv_X12_420 : pc_S RX12 420 yX12_bits cX12_bits 3 (some (.int)) 1 := ⟨⟨lw_in 1849 (by decide +kernel) rfl, lw_in 126 (by decide +kernel) rfl, fc_X12_bits, ⟨by decide +kernel, by decide +kernel, by decide +kernel⟩, by decide⟩, lw_in 1850 (by decide +kernel) rfl⟩
theorem fc_X12_whyNot : Cond.code yX12_whyNot cX12_whyNot 10 (some (.int)) ∈ lw_g := lw_in 1821 (by decide +kernel) rfl
theorem fi_X12_whyNot : Cond.instanceMethod yX12_whyNot ∈ lw_g := lw_in 1820 (by decide +kernel) rfl
theorem fv_X12_423 : pc_V RX12 423 yX12_whyNot cX12_whyNot 10 (some (.int)) 3 := ⟨⟨lw_in 1818 (by decide +kernel) rfl, lw_in 126 (by decide +kernel) rfl, fc_X12_whyNot, ⟨by decide +kernel, by decide +kernel, by decide +kernel⟩, by decide⟩, fi_X12_whyNot, lw_in 87 (by decide +kernel) rfl⟩
theorem fc_X12_whyOf : Cond.code yX12_whyOf cX12_whyOf 4 (some (.int)) ∈ lw_g := lw_in 1817 (by decide +kernel) rfl
theorem fi_X12_whyOf : Cond.instanceMethod yX12_whyOf ∈ lw_g := lw_in 1816 (by decide +kernel) rfl
theorem fv_X12_427 : pc_V RX12 427 yX12_whyOf cX12_whyOf 4 (some (.int)) 3 := ⟨⟨lw_in 1814 (by decide +kernel) rfl, lw_in 126 (by decide +kernel) rfl, fc_X12_whyOf, ⟨by decide +kernel, by decide +kernel, by decide +kernel⟩, by decide⟩, fi_X12_whyOf, lw_in 86 (by decide +kernel) rfl⟩
theorem fc_X12_keeps : Cond.code yX12_keeps cX12_keeps 3 none ∈ lw_g := lw_in 1859 (by decide +kernel) rfl
theorem fi_X12_keeps : Cond.instanceMethod yX12_keeps ∈ lw_g := lw_in 1858 (by decide +kernel) rfl
theorem fv_X12_430 : pc_V RX12 430 yX12_keeps cX12_keeps 3 none 0 := ⟨⟨lw_in 1856 (by decide +kernel) rfl, lw_in 126 (by decide +kernel) rfl, fc_X12_keeps, ⟨by decide +kernel, by decide +kernel, by decide +kernel⟩, by decide⟩, fi_X12_keeps, lw_in 94 (by decide +kernel) rfl⟩
theorem fc_X12_swaps : Cond.code yX12_swaps cX12_swaps 8 (some (.int)) ∈ lw_g := lw_in 1871 (by decide +kernel) rfl
theorem fi_X12_swaps : Cond.instanceMethod yX12_swaps ∈ lw_g := lw_in 1870 (by decide +kernel) rfl
theorem fv_X12_433 : pc_V RX12 433 yX12_swaps cX12_swaps 8 (some (.int)) 4 := ⟨⟨lw_in 1868 (by decide +kernel) rfl, lw_in 126 (by decide +kernel) rfl, fc_X12_swaps, ⟨by decide +kernel, by decide +kernel, by decide +kernel⟩, by decide⟩, fi_X12_swaps, lw_in 95 (by decide +kernel) rfl⟩
theorem fc_X12_exchanges : Cond.code yX12_exchanges cX12_exchanges 4 none ∈ lw_g := lw_in 1875 (by decide +kernel) rfl
theorem fi_X12_exchanges : Cond.instanceMethod yX12_exchanges ∈ lw_g := lw_in 1874 (by decide +kernel) rfl
theorem fv_X12_437 : pc_V RX12 437 yX12_exchanges cX12_exchanges 4 none 2 := ⟨⟨lw_in 1872 (by decide +kernel) rfl, lw_in 126 (by decide +kernel) rfl, fc_X12_exchanges, ⟨by decide +kernel, by decide +kernel, by decide +kernel⟩, by decide⟩, fi_X12_exchanges, lw_in 96 (by decide +kernel) rfl⟩
theorem fc_X12_laysDay : Cond.code yX12_laysDay cX12_laysDay 8 (some (.int)) ∈ lw_g := lw_in 1899 (by decide +kernel) rfl
theorem fi_X12_laysDay : Cond.instanceMethod yX12_laysDay ∈ lw_g := lw_in 1898 (by decide +kernel) rfl
theorem fv_X12_440 : pc_V RX12 440 yX12_laysDay cX12_laysDay 8 (some (.int)) 4 := ⟨⟨lw_in 1896 (by decide +kernel) rfl, lw_in 126 (by decide +kernel) rfl, fc_X12_laysDay, ⟨by decide +kernel, by decide +kernel, by decide +kernel⟩, by decide⟩, fi_X12_laysDay, lw_in 99 (by decide +kernel) rfl⟩
theorem fc_X12_step : Cond.code yX12_step cX12_step 3 (some (.int)) ∈ lw_g := lw_in 1903 (by decide +kernel) rfl
theorem fi_X12_step : Cond.instanceMethod yX12_step ∈ lw_g := lw_in 1902 (by decide +kernel) rfl
theorem fv_X12_443 : pc_V RX12 443 yX12_step cX12_step 3 (some (.int)) 2 := ⟨⟨lw_in 1900 (by decide +kernel) rfl, lw_in 126 (by decide +kernel) rfl, fc_X12_step, ⟨by decide +kernel, by decide +kernel, by decide +kernel⟩, by decide⟩, fi_X12_step, lw_in 100 (by decide +kernel) rfl⟩
theorem fc_X12_roundOf : Cond.code yX12_roundOf cX12_roundOf 9 (some (.int)) ∈ lw_g := lw_in 1895 (by decide +kernel) rfl
theorem fi_X12_roundOf : Cond.instanceMethod yX12_roundOf ∈ lw_g := lw_in 1894 (by decide +kernel) rfl
theorem fv_X12_446 : pc_V RX12 446 yX12_roundOf cX12_roundOf 9 (some (.int)) 4 := ⟨⟨lw_in 1892 (by decide +kernel) rfl, lw_in 126 (by decide +kernel) rfl, fc_X12_roundOf, ⟨by decide +kernel, by decide +kernel, by decide +kernel⟩, by decide⟩, fi_X12_roundOf, lw_in 98 (by decide +kernel) rfl⟩
theorem fc_X12_extraOf : Cond.code yX12_extraOf cX12_extraOf 6 (some (.int)) ∈ lw_g := lw_in 1891 (by decide +kernel) rfl
theorem fi_X12_extraOf : Cond.instanceMethod yX12_extraOf ∈ lw_g := lw_in 1890 (by decide +kernel) rfl
theorem fv_X12_449 : pc_V RX12 449 yX12_extraOf cX12_extraOf 6 (some (.int)) 3 := ⟨⟨lw_in 1888 (by decide +kernel) rfl, lw_in 126 (by decide +kernel) rfl, fc_X12_extraOf, ⟨by decide +kernel, by decide +kernel, by decide +kernel⟩, by decide⟩, fi_X12_extraOf, lw_in 97 (by decide +kernel) rfl⟩
theorem fc_X12_wordTells : Cond.code yX12_wordTells cX12_wordTells 5 (some (.int)) ∈ lw_g := lw_in 1925 (by decide +kernel) rfl
theorem fi_X12_wordTells : Cond.instanceMethod yX12_wordTells ∈ lw_g := lw_in 1924 (by decide +kernel) rfl
theorem fv_X12_456 : pc_V RX12 456 yX12_wordTells cX12_wordTells 5 (some (.int)) 4 := ⟨⟨lw_in 1922 (by decide +kernel) rfl, lw_in 126 (by decide +kernel) rfl, fc_X12_wordTells, ⟨by decide +kernel, by decide +kernel, by decide +kernel⟩, by decide⟩, fi_X12_wordTells, lw_in 102 (by decide +kernel) rfl⟩
theorem fc_X12_floor : Cond.code yX12_floor cX12_floor 6 (some (.long)) ∈ lw_g := lw_in 1929 (by decide +kernel) rfl
theorem fv_X12_461 : pc_S RX12 461 yX12_floor cX12_floor 6 (some (.long)) 2 := ⟨⟨lw_in 1927 (by decide +kernel) rfl, lw_in 126 (by decide +kernel) rfl, fc_X12_floor, ⟨by decide +kernel, by decide +kernel, by decide +kernel⟩, by decide⟩, lw_in 1928 (by decide +kernel) rfl⟩
theorem fc_X12_feeOf : Cond.code yX12_feeOf cX12_feeOf 13 (some (.long)) ∈ lw_g := lw_in 1921 (by decide +kernel) rfl
theorem fi_X12_feeOf : Cond.instanceMethod yX12_feeOf ∈ lw_g := lw_in 1920 (by decide +kernel) rfl
theorem fv_X12_469 : pc_V RX12 469 yX12_feeOf cX12_feeOf 13 (some (.long)) 3 := ⟨⟨lw_in 1918 (by decide +kernel) rfl, lw_in 126 (by decide +kernel) rfl, fc_X12_feeOf, ⟨by decide +kernel, by decide +kernel, by decide +kernel⟩, by decide⟩, fi_X12_feeOf, lw_in 101 (by decide +kernel) rfl⟩
theorem fc_X12_crews : Cond.code yX12_crews cX12_crews 7 none ∈ lw_g := lw_in 1948 (by decide +kernel) rfl
theorem fi_X12_crews : Cond.instanceMethod yX12_crews ∈ lw_g := lw_in 1947 (by decide +kernel) rfl
theorem fv_X12_482 : pc_V RX12 482 yX12_crews cX12_crews 7 none 3 := ⟨⟨lw_in 1945 (by decide +kernel) rfl, lw_in 126 (by decide +kernel) rfl, fc_X12_crews, ⟨by decide +kernel, by decide +kernel, by decide +kernel⟩, by decide⟩, fi_X12_crews, lw_in 103 (by decide +kernel) rfl⟩
theorem fc_X12_isOpen : Cond.code yX12_isOpen cX12_isOpen 2 (some (.boolean)) ∈ lw_g := lw_in 1956 (by decide +kernel) rfl
theorem fi_X12_isOpen : Cond.instanceMethod yX12_isOpen ∈ lw_g := lw_in 1955 (by decide +kernel) rfl
theorem fv_X12_486 : pc_V RX12 486 yX12_isOpen cX12_isOpen 2 (some (.boolean)) 1 := ⟨⟨lw_in 1953 (by decide +kernel) rfl, lw_in 126 (by decide +kernel) rfl, fc_X12_isOpen, ⟨by decide +kernel, by decide +kernel, by decide +kernel⟩, by decide⟩, fi_X12_isOpen, lw_in 104 (by decide +kernel) rfl⟩
theorem fc_X12_fills : Cond.code yX12_fills cX12_fills 4 (some (.boolean)) ∈ lw_g := lw_in 1960 (by decide +kernel) rfl
theorem fi_X12_fills : Cond.instanceMethod yX12_fills ∈ lw_g := lw_in 1959 (by decide +kernel) rfl
theorem fv_X12_492 : pc_V RX12 492 yX12_fills cX12_fills 4 (some (.boolean)) 1 := ⟨⟨lw_in 1957 (by decide +kernel) rfl, lw_in 126 (by decide +kernel) rfl, fc_X12_fills, ⟨by decide +kernel, by decide +kernel, by decide +kernel⟩, by decide⟩, fi_X12_fills, lw_in 105 (by decide +kernel) rfl⟩
theorem fc_X12_findsFollower : Cond.code yX12_findsFollower cX12_findsFollower 8 (some (.boolean)) ∈ lw_g := lw_in 1973 (by decide +kernel) rfl
theorem fi_X12_findsFollower : Cond.instanceMethod yX12_findsFollower ∈ lw_g := lw_in 1972 (by decide +kernel) rfl
theorem fv_X12_495 : pc_V RX12 495 yX12_findsFollower cX12_findsFollower 8 (some (.boolean)) 5 := ⟨⟨lw_in 1970 (by decide +kernel) rfl, lw_in 126 (by decide +kernel) rfl, fc_X12_findsFollower, ⟨by decide +kernel, by decide +kernel, by decide +kernel⟩, by decide⟩, fi_X12_findsFollower, lw_in 107 (by decide +kernel) rfl⟩
theorem fc_X12_findsStep : Cond.code yX12_findsStep cX12_findsStep 6 (some (.boolean)) ∈ lw_g := lw_in 1969 (by decide +kernel) rfl
theorem fi_X12_findsStep : Cond.instanceMethod yX12_findsStep ∈ lw_g := lw_in 1968 (by decide +kernel) rfl
theorem fv_X12_501 : pc_V RX12 501 yX12_findsStep cX12_findsStep 6 (some (.boolean)) 3 := ⟨⟨lw_in 1966 (by decide +kernel) rfl, lw_in 126 (by decide +kernel) rfl, fc_X12_findsStep, ⟨by decide +kernel, by decide +kernel, by decide +kernel⟩, by decide⟩, fi_X12_findsStep, lw_in 106 (by decide +kernel) rfl⟩
theorem fc_X12_isSound : Cond.code yX12_isSound cX12_isSound 4 (some (.boolean)) ∈ lw_g := lw_in 1981 (by decide +kernel) rfl
theorem fi_X12_isSound : Cond.instanceMethod yX12_isSound ∈ lw_g := lw_in 1980 (by decide +kernel) rfl
theorem fv_X12_504 : pc_V RX12 504 yX12_isSound cX12_isSound 4 (some (.boolean)) 1 := ⟨⟨lw_in 1978 (by decide +kernel) rfl, lw_in 126 (by decide +kernel) rfl, fc_X12_isSound, ⟨by decide +kernel, by decide +kernel, by decide +kernel⟩, by decide⟩, fi_X12_isSound, lw_in 108 (by decide +kernel) rfl⟩
theorem fc_X12_roundsOf : Cond.code yX12_roundsOf cX12_roundsOf 4 (some (.int)) ∈ lw_g := lw_in 1989 (by decide +kernel) rfl
theorem fi_X12_roundsOf : Cond.instanceMethod yX12_roundsOf ∈ lw_g := lw_in 1988 (by decide +kernel) rfl
theorem fv_X12_507 : pc_V RX12 507 yX12_roundsOf cX12_roundsOf 4 (some (.int)) 1 := ⟨⟨lw_in 1986 (by decide +kernel) rfl, lw_in 126 (by decide +kernel) rfl, fc_X12_roundsOf, ⟨by decide +kernel, by decide +kernel, by decide +kernel⟩, by decide⟩, fi_X12_roundsOf, lw_in 109 (by decide +kernel) rfl⟩
theorem fc_X12_marks : Cond.code yX12_marks cX12_marks 6 none ∈ lw_g := lw_in 2006 (by decide +kernel) rfl
theorem fi_X12_marks : Cond.instanceMethod yX12_marks ∈ lw_g := lw_in 2005 (by decide +kernel) rfl
theorem fv_X12_513 : pc_V RX12 513 yX12_marks cX12_marks 6 none 2 := ⟨⟨lw_in 2003 (by decide +kernel) rfl, lw_in 126 (by decide +kernel) rfl, fc_X12_marks, ⟨by decide +kernel, by decide +kernel, by decide +kernel⟩, by decide⟩, fi_X12_marks, lw_in 110 (by decide +kernel) rfl⟩
theorem fc_X12_goesUp : Cond.code yX12_goesUp cX12_goesUp 2 (some (.boolean)) ∈ lw_g := lw_in 2022 (by decide +kernel) rfl
theorem fi_X12_goesUp : Cond.instanceMethod yX12_goesUp ∈ lw_g := lw_in 2021 (by decide +kernel) rfl
theorem fv_X12_521 : pc_V RX12 521 yX12_goesUp cX12_goesUp 2 (some (.boolean)) 1 := ⟨⟨lw_in 2019 (by decide +kernel) rfl, lw_in 126 (by decide +kernel) rfl, fc_X12_goesUp, ⟨by decide +kernel, by decide +kernel, by decide +kernel⟩, by decide⟩, fi_X12_goesUp, lw_in 111 (by decide +kernel) rfl⟩
theorem fc_X12_isAhead : Cond.code yX12_isAhead cX12_isAhead 3 (some (.boolean)) ∈ lw_g := lw_in 2027 (by decide +kernel) rfl
theorem fi_X12_isAhead : Cond.instanceMethod yX12_isAhead ∈ lw_g := lw_in 2026 (by decide +kernel) rfl
theorem fv_X12_524 : pc_V RX12 524 yX12_isAhead cX12_isAhead 3 (some (.boolean)) 2 := ⟨⟨lw_in 2024 (by decide +kernel) rfl, lw_in 126 (by decide +kernel) rfl, fc_X12_isAhead, ⟨by decide +kernel, by decide +kernel, by decide +kernel⟩, by decide⟩, fi_X12_isAhead, lw_in 112 (by decide +kernel) rfl⟩
theorem fc_X12_goesDown : Cond.code yX12_goesDown cX12_goesDown 2 (some (.boolean)) ∈ lw_g := lw_in 2031 (by decide +kernel) rfl
theorem fi_X12_goesDown : Cond.instanceMethod yX12_goesDown ∈ lw_g := lw_in 2030 (by decide +kernel) rfl
theorem fv_X12_527 : pc_V RX12 527 yX12_goesDown cX12_goesDown 2 (some (.boolean)) 1 := ⟨⟨lw_in 2028 (by decide +kernel) rfl, lw_in 126 (by decide +kernel) rfl, fc_X12_goesDown, ⟨by decide +kernel, by decide +kernel, by decide +kernel⟩, by decide⟩, fi_X12_goesDown, lw_in 113 (by decide +kernel) rfl⟩
theorem fc_X12_isPlace : Cond.code yX12_isPlace cX12_isPlace 3 (some (.boolean)) ∈ lw_g := lw_in 2049 (by decide +kernel) rfl
theorem fi_X12_isPlace : Cond.instanceMethod yX12_isPlace ∈ lw_g := lw_in 2048 (by decide +kernel) rfl
theorem fv_X12_532 : pc_V RX12 532 yX12_isPlace cX12_isPlace 3 (some (.boolean)) 2 := ⟨⟨lw_in 2046 (by decide +kernel) rfl, lw_in 126 (by decide +kernel) rfl, fc_X12_isPlace, ⟨by decide +kernel, by decide +kernel, by decide +kernel⟩, by decide⟩, fi_X12_isPlace, lw_in 114 (by decide +kernel) rfl⟩
theorem fc_X2_ends : Cond.code yX2_ends cX2_ends 1 (some (.int)) ∈ lw_g := lw_in 756 (by decide +kernel) rfl
theorem fi_X2_ends : Cond.instanceMethod yX2_ends ∈ lw_g := lw_in 754 (by decide +kernel) rfl
theorem fv_X2_21 : pc_V RX2 21 yX2_ends cX2_ends 1 (some (.int)) 0 := ⟨⟨lw_in 753 (by decide +kernel) rfl, lw_in 120 (by decide +kernel) rfl, fc_X2_ends, ⟨by decide +kernel, by decide +kernel, by decide +kernel⟩, by decide⟩, fi_X2_ends, lw_in 755 (by decide +kernel) rfl⟩
theorem fc_X3_join : Cond.code yX3_join cX3_join 8 (some (.boolean)) ∈ lw_g := lw_in 977 (by decide +kernel) rfl
theorem fi_X3_join : Cond.instanceMethod yX3_join ∈ lw_g := lw_in 976 (by decide +kernel) rfl
theorem fv_X3_31 : pc_V RX3 31 yX3_join cX3_join 8 (some (.boolean)) 1 := ⟨⟨lw_in 974 (by decide +kernel) rfl, lw_in 122 (by decide +kernel) rfl, fc_X3_join, ⟨by decide +kernel, by decide +kernel, by decide +kernel⟩, by decide⟩, fi_X3_join, lw_in 26 (by decide +kernel) rfl⟩
theorem fc_X3_push : Cond.code yX3_push cX3_push 3 (some (.boolean)) ∈ lw_g := lw_in 986 (by decide +kernel) rfl
theorem fi_X3_push : Cond.instanceMethod yX3_push ∈ lw_g := lw_in 985 (by decide +kernel) rfl
theorem fv_X3_35 : pc_V RX3 35 yX3_push cX3_push 3 (some (.boolean)) 1 := ⟨⟨lw_in 983 (by decide +kernel) rfl, lw_in 122 (by decide +kernel) rfl, fc_X3_push, ⟨by decide +kernel, by decide +kernel, by decide +kernel⟩, by decide⟩, fi_X3_push, lw_in 27 (by decide +kernel) rfl⟩
theorem fc_J9_floorDiv_f86c9 : Cond.code yJ9_floorDiv_f86c9 cJ9_floorDiv_f86c9 6 (some (.long)) ∈ lw_g := lw_in 980 (by decide +kernel) rfl
theorem fv_X3_40 : pc_S RX3 40 yJ9_floorDiv_f86c9 cJ9_floorDiv_f86c9 6 (some (.long)) 2 := ⟨⟨lw_in 978 (by decide +kernel) rfl, lw_in 135 (by decide +kernel) rfl, fc_J9_floorDiv_f86c9, ⟨by decide +kernel, by decide +kernel, by decide +kernel⟩, by decide⟩, lw_in 979 (by decide +kernel) rfl⟩
theorem fc_X9_empty : Cond.code yX9_empty cX9_empty 2 none ∈ lw_g := lw_in 573 (by decide +kernel) rfl
theorem fi_X9_empty : Cond.instanceMethod yX9_empty ∈ lw_g := lw_in 571 (by decide +kernel) rfl
theorem fv_X4_23 : pc_V RX4 23 yX9_empty cX9_empty 2 none 0 := ⟨⟨lw_in 570 (by decide +kernel) rfl, lw_in 119 (by decide +kernel) rfl, fc_X9_empty, ⟨by decide +kernel, by decide +kernel, by decide +kernel⟩, by decide⟩, fi_X9_empty, lw_in 572 (by decide +kernel) rfl⟩
theorem fc_X8_rewind : Cond.code yX8_rewind cX8_rewind 1 none ∈ lw_g := lw_in 581 (by decide +kernel) rfl
theorem fi_X8_rewind : Cond.instanceMethod yX8_rewind ∈ lw_g := lw_in 579 (by decide +kernel) rfl
theorem fv_X4_31 : pc_V RX4 31 yX8_rewind cX8_rewind 1 none 0 := ⟨⟨lw_in 578 (by decide +kernel) rfl, lw_in 117 (by decide +kernel) rfl, fc_X8_rewind, ⟨by decide +kernel, by decide +kernel, by decide +kernel⟩, by decide⟩, fi_X8_rewind, lw_in 580 (by decide +kernel) rfl⟩
theorem fc_X8_isOver : Cond.code yX8_isOver cX8_isOver 1 (some (.boolean)) ∈ lw_g := lw_in 589 (by decide +kernel) rfl
theorem fi_X8_isOver : Cond.instanceMethod yX8_isOver ∈ lw_g := lw_in 587 (by decide +kernel) rfl
theorem fv_X4_36 : pc_V RX4 36 yX8_isOver cX8_isOver 1 (some (.boolean)) 0 := ⟨⟨lw_in 586 (by decide +kernel) rfl, lw_in 117 (by decide +kernel) rfl, fc_X8_isOver, ⟨by decide +kernel, by decide +kernel, by decide +kernel⟩, by decide⟩, fi_X8_isOver, lw_in 588 (by decide +kernel) rfl⟩
theorem fc_X4_readLine : Cond.code yX4_readLine cX4_readLine 2 none ∈ lw_g := lw_in 593 (by decide +kernel) rfl
theorem fi_X4_readLine : Cond.instanceMethod yX4_readLine ∈ lw_g := lw_in 592 (by decide +kernel) rfl
theorem fv_X4_40 : pc_V RX4 40 yX4_readLine cX4_readLine 2 none 0 := ⟨⟨lw_in 590 (by decide +kernel) rfl, lw_in 118 (by decide +kernel) rfl, fc_X4_readLine, ⟨by decide +kernel, by decide +kernel, by decide +kernel⟩, by decide⟩, fi_X4_readLine, lw_in 0 (by decide +kernel) rfl⟩
theorem fc_X9_settle : Cond.code yX9_settle cX9_settle 2 none ∈ lw_g := lw_in 736 (by decide +kernel) rfl
theorem fi_X9_settle : Cond.instanceMethod yX9_settle ∈ lw_g := lw_in 734 (by decide +kernel) rfl
theorem fv_X4_43 : pc_V RX4 43 yX9_settle cX9_settle 2 none 0 := ⟨⟨lw_in 733 (by decide +kernel) rfl, lw_in 119 (by decide +kernel) rfl, fc_X9_settle, ⟨by decide +kernel, by decide +kernel, by decide +kernel⟩, by decide⟩, fi_X9_settle, lw_in 735 (by decide +kernel) rfl⟩
theorem fc_X10_of : Cond.code yX10_of cX10_of 2 (some (.object "WhistleRoster$Word")) ∈ lw_g := lw_in 596 (by decide +kernel) rfl
theorem fv_X4_55 : pc_S RX4 55 yX10_of cX10_of 2 (some (.object "WhistleRoster$Word")) 1 := ⟨⟨lw_in 594 (by decide +kernel) rfl, lw_in 128 (by decide +kernel) rfl, fc_X10_of, ⟨by decide +kernel, by decide +kernel, by decide +kernel⟩, by decide⟩, lw_in 595 (by decide +kernel) rfl⟩
theorem fc_X4_fail : Cond.code yX4_fail cX4_fail 3 none ∈ lw_g := lw_in 602 (by decide +kernel) rfl
theorem fi_X4_fail : Cond.instanceMethod yX4_fail ∈ lw_g := lw_in 601 (by decide +kernel) rfl
theorem fv_X4_61 : pc_V RX4 61 yX4_fail cX4_fail 3 none 2 := ⟨⟨lw_in 599 (by decide +kernel) rfl, lw_in 118 (by decide +kernel) rfl, fc_X4_fail, ⟨by decide +kernel, by decide +kernel, by decide +kernel⟩, by decide⟩, fi_X4_fail, lw_in 1 (by decide +kernel) rfl⟩
theorem fc_X8_advance : Cond.code yX8_advance cX8_advance 4 none ∈ lw_g := lw_in 585 (by decide +kernel) rfl
theorem fi_X8_advance : Cond.instanceMethod yX8_advance ∈ lw_g := lw_in 583 (by decide +kernel) rfl
theorem fv_X4_65 : pc_V RX4 65 yX8_advance cX8_advance 4 none 0 := ⟨⟨lw_in 603 (by decide +kernel) rfl, lw_in 117 (by decide +kernel) rfl, fc_X8_advance, ⟨by decide +kernel, by decide +kernel, by decide +kernel⟩, by decide⟩, fi_X8_advance, lw_in 584 (by decide +kernel) rfl⟩
theorem fc_X4_readGiven : Cond.code yX4_readGiven cX4_readGiven 3 (some (.int)) ∈ lw_g := lw_in 615 (by decide +kernel) rfl
theorem fi_X4_readGiven : Cond.instanceMethod yX4_readGiven ∈ lw_g := lw_in 614 (by decide +kernel) rfl
theorem fv_X4_78 : pc_V RX4 78 yX4_readGiven cX4_readGiven 3 (some (.int)) 1 := ⟨⟨lw_in 612 (by decide +kernel) rfl, lw_in 118 (by decide +kernel) rfl, fc_X4_readGiven, ⟨by decide +kernel, by decide +kernel, by decide +kernel⟩, by decide⟩, fi_X4_readGiven, lw_in 2 (by decide +kernel) rfl⟩
theorem fc_X4_readOfficial : Cond.code yX4_readOfficial cX4_readOfficial 7 none ∈ lw_g := lw_in 645 (by decide +kernel) rfl
theorem fi_X4_readOfficial : Cond.instanceMethod yX4_readOfficial ∈ lw_g := lw_in 644 (by decide +kernel) rfl
theorem fv_X4_82 : pc_V RX4 82 yX4_readOfficial cX4_readOfficial 7 none 0 := ⟨⟨lw_in 642 (by decide +kernel) rfl, lw_in 118 (by decide +kernel) rfl, fc_X4_readOfficial, ⟨by decide +kernel, by decide +kernel, by decide +kernel⟩, by decide⟩, fi_X4_readOfficial, lw_in 5 (by decide +kernel) rfl⟩
theorem fc_X4_readRoad : Cond.code yX4_readRoad cX4_readRoad 4 none ∈ lw_g := lw_in 670 (by decide +kernel) rfl
theorem fi_X4_readRoad : Cond.instanceMethod yX4_readRoad ∈ lw_g := lw_in 669 (by decide +kernel) rfl
theorem fv_X4_85 : pc_V RX4 85 yX4_readRoad cX4_readRoad 4 none 0 := ⟨⟨lw_in 667 (by decide +kernel) rfl, lw_in 118 (by decide +kernel) rfl, fc_X4_readRoad, ⟨by decide +kernel, by decide +kernel, by decide +kernel⟩, by decide⟩, fi_X4_readRoad, lw_in 10 (by decide +kernel) rfl⟩
theorem fc_X4_readOff : Cond.code yX4_readOff cX4_readOff 5 none ∈ lw_g := lw_in 682 (by decide +kernel) rfl
theorem fi_X4_readOff : Cond.instanceMethod yX4_readOff ∈ lw_g := lw_in 681 (by decide +kernel) rfl
theorem fv_X4_88 : pc_V RX4 88 yX4_readOff cX4_readOff 5 none 0 := ⟨⟨lw_in 679 (by decide +kernel) rfl, lw_in 118 (by decide +kernel) rfl, fc_X4_readOff, ⟨by decide +kernel, by decide +kernel, by decide +kernel⟩, by decide⟩, fi_X4_readOff, lw_in 11 (by decide +kernel) rfl⟩
theorem fc_X4_readGame : Cond.code yX4_readGame cX4_readGame 5 none ∈ lw_g := lw_in 688 (by decide +kernel) rfl
theorem fi_X4_readGame : Cond.instanceMethod yX4_readGame ∈ lw_g := lw_in 687 (by decide +kernel) rfl
theorem fv_X4_91 : pc_V RX4 91 yX4_readGame cX4_readGame 5 none 0 := ⟨⟨lw_in 685 (by decide +kernel) rfl, lw_in 118 (by decide +kernel) rfl, fc_X4_readGame, ⟨by decide +kernel, by decide +kernel, by decide +kernel⟩, by decide⟩, fi_X4_readGame, lw_in 12 (by decide +kernel) rfl⟩
theorem fc_X4_readRest : Cond.code yX4_readRest cX4_readRest 2 none ∈ lw_g := lw_in 704 (by decide +kernel) rfl
theorem fi_X4_readRest : Cond.instanceMethod yX4_readRest ∈ lw_g := lw_in 703 (by decide +kernel) rfl
theorem fv_X4_94 : pc_V RX4 94 yX4_readRest cX4_readRest 2 none 0 := ⟨⟨lw_in 701 (by decide +kernel) rfl, lw_in 118 (by decide +kernel) rfl, fc_X4_readRest, ⟨by decide +kernel, by decide +kernel, by decide +kernel⟩, by decide⟩, fi_X4_readRest, lw_in 14 (by decide +kernel) rfl⟩
theorem fc_X4_readMost : Cond.code yX4_readMost cX4_readMost 2 none ∈ lw_g := lw_in 708 (by decide +kernel) rfl
theorem fi_X4_readMost : Cond.instanceMethod yX4_readMost ∈ lw_g := lw_in 707 (by decide +kernel) rfl
theorem fv_X4_97 : pc_V RX4 97 yX4_readMost cX4_readMost 2 none 0 := ⟨⟨lw_in 705 (by decide +kernel) rfl, lw_in 118 (by decide +kernel) rfl, fc_X4_readMost, ⟨by decide +kernel, by decide +kernel, by decide +kernel⟩, by decide⟩, fi_X4_readMost, lw_in 15 (by decide +kernel) rfl⟩
theorem fc_X4_expectNoLaw : Cond.code yX4_expectNoLaw cX4_expectNoLaw 1 none ∈ lw_g := lw_in 712 (by decide +kernel) rfl
theorem fi_X4_expectNoLaw : Cond.instanceMethod yX4_expectNoLaw ∈ lw_g := lw_in 711 (by decide +kernel) rfl
theorem fv_X4_100 : pc_V RX4 100 yX4_expectNoLaw cX4_expectNoLaw 1 none 0 := ⟨⟨lw_in 709 (by decide +kernel) rfl, lw_in 118 (by decide +kernel) rfl, fc_X4_expectNoLaw, ⟨by decide +kernel, by decide +kernel, by decide +kernel⟩, by decide⟩, fi_X4_expectNoLaw, lw_in 16 (by decide +kernel) rfl⟩
theorem fc_X4_readSum : Cond.code yX4_readSum cX4_readSum 4 none ∈ lw_g := lw_in 716 (by decide +kernel) rfl
theorem fi_X4_readSum : Cond.instanceMethod yX4_readSum ∈ lw_g := lw_in 715 (by decide +kernel) rfl
theorem fv_X4_103 : pc_V RX4 103 yX4_readSum cX4_readSum 4 none 1 := ⟨⟨lw_in 713 (by decide +kernel) rfl, lw_in 118 (by decide +kernel) rfl, fc_X4_readSum, ⟨by decide +kernel, by decide +kernel, by decide +kernel⟩, by decide⟩, fi_X4_readSum, lw_in 17 (by decide +kernel) rfl⟩
theorem fc_X4_expectSign : Cond.code yX4_expectSign cX4_expectSign 2 none ∈ lw_g := lw_in 732 (by decide +kernel) rfl
theorem fi_X4_expectSign : Cond.instanceMethod yX4_expectSign ∈ lw_g := lw_in 731 (by decide +kernel) rfl
theorem fv_X4_107 : pc_V RX4 107 yX4_expectSign cX4_expectSign 2 none 1 := ⟨⟨lw_in 729 (by decide +kernel) rfl, lw_in 118 (by decide +kernel) rfl, fc_X4_expectSign, ⟨by decide +kernel, by decide +kernel, by decide +kernel⟩, by decide⟩, fi_X4_expectSign, lw_in 20 (by decide +kernel) rfl⟩
theorem fc_X9_isFull : Cond.code yX9_isFull cX9_isFull 2 (some (.boolean)) ∈ lw_g := lw_in 619 (by decide +kernel) rfl
theorem fi_X9_isFull : Cond.instanceMethod yX9_isFull ∈ lw_g := lw_in 617 (by decide +kernel) rfl
theorem fv_X4_110 : pc_V RX4 110 yX9_isFull cX9_isFull 2 (some (.boolean)) 1 := ⟨⟨lw_in 616 (by decide +kernel) rfl, lw_in 119 (by decide +kernel) rfl, fc_X9_isFull, ⟨by decide +kernel, by decide +kernel, by decide +kernel⟩, by decide⟩, fi_X9_isFull, lw_in 618 (by decide +kernel) rfl⟩
theorem fc_X4_newName : Cond.code yX4_newName cX4_newName 2 (some (.int)) ∈ lw_g := lw_in 625 (by decide +kernel) rfl
theorem fi_X4_newName : Cond.instanceMethod yX4_newName ∈ lw_g := lw_in 624 (by decide +kernel) rfl
theorem fv_X4_114 : pc_V RX4 114 yX4_newName cX4_newName 2 (some (.int)) 0 := ⟨⟨lw_in 622 (by decide +kernel) rfl, lw_in 118 (by decide +kernel) rfl, fc_X4_newName, ⟨by decide +kernel, by decide +kernel, by decide +kernel⟩, by decide⟩, fi_X4_newName, lw_in 3 (by decide +kernel) rfl⟩
theorem fc_X9_addName : Cond.code yX9_addName cX9_addName 4 (some (.int)) ∈ lw_g := lw_in 641 (by decide +kernel) rfl
theorem fi_X9_addName : Cond.instanceMethod yX9_addName ∈ lw_g := lw_in 639 (by decide +kernel) rfl
theorem fv_X4_117 : pc_V RX4 117 yX9_addName cX9_addName 4 (some (.int)) 2 := ⟨⟨lw_in 638 (by decide +kernel) rfl, lw_in 119 (by decide +kernel) rfl, fc_X9_addName, ⟨by decide +kernel, by decide +kernel, by decide +kernel⟩, by decide⟩, fi_X9_addName, lw_in 640 (by decide +kernel) rfl⟩
theorem fc_X4_numberWithin : Cond.code yX4_numberWithin cX4_numberWithin 4 (some (.int)) ∈ lw_g := lw_in 649 (by decide +kernel) rfl
theorem fi_X4_numberWithin : Cond.instanceMethod yX4_numberWithin ∈ lw_g := lw_in 648 (by decide +kernel) rfl
theorem fv_X4_121 : pc_V RX4 121 yX4_numberWithin cX4_numberWithin 4 (some (.int)) 2 := ⟨⟨lw_in 646 (by decide +kernel) rfl, lw_in 118 (by decide +kernel) rfl, fc_X4_numberWithin, ⟨by decide +kernel, by decide +kernel, by decide +kernel⟩, by decide⟩, fi_X4_numberWithin, lw_in 6 (by decide +kernel) rfl⟩
theorem fc_X4_expectWord : Cond.code yX4_expectWord cX4_expectWord 2 none ∈ lw_g := lw_in 655 (by decide +kernel) rfl
theorem fi_X4_expectWord : Cond.instanceMethod yX4_expectWord ∈ lw_g := lw_in 654 (by decide +kernel) rfl
theorem fv_X4_128 : pc_V RX4 128 yX4_expectWord cX4_expectWord 2 none 1 := ⟨⟨lw_in 652 (by decide +kernel) rfl, lw_in 118 (by decide +kernel) rfl, fc_X4_expectWord, ⟨by decide +kernel, by decide +kernel, by decide +kernel⟩, by decide⟩, fi_X4_expectWord, lw_in 7 (by decide +kernel) rfl⟩
theorem fc_X4_toldName : Cond.code yX4_toldName cX4_toldName 3 (some (.int)) ∈ lw_g := lw_in 663 (by decide +kernel) rfl
theorem fi_X4_toldName : Cond.instanceMethod yX4_toldName ∈ lw_g := lw_in 662 (by decide +kernel) rfl
theorem fv_X4_132 : pc_V RX4 132 yX4_toldName cX4_toldName 3 (some (.int)) 1 := ⟨⟨lw_in 660 (by decide +kernel) rfl, lw_in 118 (by decide +kernel) rfl, fc_X4_toldName, ⟨by decide +kernel, by decide +kernel, by decide +kernel⟩, by decide⟩, fi_X4_toldName, lw_in 9 (by decide +kernel) rfl⟩
theorem fc_X4_isWord : Cond.code yX4_isWord cX4_isWord 2 (some (.boolean)) ∈ lw_g := lw_in 659 (by decide +kernel) rfl
theorem fi_X4_isWord : Cond.instanceMethod yX4_isWord ∈ lw_g := lw_in 658 (by decide +kernel) rfl
theorem fv_X4_138 : pc_V RX4 138 yX4_isWord cX4_isWord 2 (some (.boolean)) 1 := ⟨⟨lw_in 656 (by decide +kernel) rfl, lw_in 118 (by decide +kernel) rfl, fc_X4_isWord, ⟨by decide +kernel, by decide +kernel, by decide +kernel⟩, by decide⟩, fi_X4_isWord, lw_in 8 (by decide +kernel) rfl⟩
theorem fc_X5_isRoad : Cond.code yX5_isRoad cX5_isRoad 3 (some (.boolean)) ∈ lw_g := lw_in 674 (by decide +kernel) rfl
theorem fi_X5_isRoad : Cond.instanceMethod yX5_isRoad ∈ lw_g := lw_in 672 (by decide +kernel) rfl
theorem fv_X4_161 : pc_V RX4 161 yX5_isRoad cX5_isRoad 3 (some (.boolean)) 2 := ⟨⟨lw_in 671 (by decide +kernel) rfl, lw_in 121 (by decide +kernel) rfl, fc_X5_isRoad, ⟨by decide +kernel, by decide +kernel, by decide +kernel⟩, by decide⟩, fi_X5_isRoad, lw_in 673 (by decide +kernel) rfl⟩
theorem fc_X5_build : Cond.code yX5_build cX5_build 4 none ∈ lw_g := lw_in 678 (by decide +kernel) rfl
theorem fi_X5_build : Cond.instanceMethod yX5_build ∈ lw_g := lw_in 676 (by decide +kernel) rfl
theorem fv_X4_167 : pc_V RX4 167 yX5_build cX5_build 4 none 3 := ⟨⟨lw_in 675 (by decide +kernel) rfl, lw_in 121 (by decide +kernel) rfl, fc_X5_build, ⟨by decide +kernel, by decide +kernel, by decide +kernel⟩, by decide⟩, fi_X5_build, lw_in 677 (by decide +kernel) rfl⟩
theorem fc_X4_readTimeOf : Cond.code yX4_readTimeOf cX4_readTimeOf 2 none ∈ lw_g := lw_in 692 (by decide +kernel) rfl
theorem fi_X4_readTimeOf : Cond.instanceMethod yX4_readTimeOf ∈ lw_g := lw_in 691 (by decide +kernel) rfl
theorem fv_X4_192 : pc_V RX4 192 yX4_readTimeOf cX4_readTimeOf 2 none 1 := ⟨⟨lw_in 689 (by decide +kernel) rfl, lw_in 118 (by decide +kernel) rfl, fc_X4_readTimeOf, ⟨by decide +kernel, by decide +kernel, by decide +kernel⟩, by decide⟩, fi_X4_readTimeOf, lw_in 13 (by decide +kernel) rfl⟩
theorem fc_X4_readTerm : Cond.code yX4_readTerm cX4_readTerm 4 none ∈ lw_g := lw_in 720 (by decide +kernel) rfl
theorem fi_X4_readTerm : Cond.instanceMethod yX4_readTerm ∈ lw_g := lw_in 719 (by decide +kernel) rfl
theorem fv_X4_237 : pc_V RX4 237 yX4_readTerm cX4_readTerm 4 none 1 := ⟨⟨lw_in 717 (by decide +kernel) rfl, lw_in 118 (by decide +kernel) rfl, fc_X4_readTerm, ⟨by decide +kernel, by decide +kernel, by decide +kernel⟩, by decide⟩, fi_X4_readTerm, lw_in 18 (by decide +kernel) rfl⟩
theorem fc_X3_add : Cond.code yX3_add cX3_add 2 none ∈ lw_g := lw_in 728 (by decide +kernel) rfl
theorem fi_X3_add : Cond.instanceMethod yX3_add ∈ lw_g := lw_in 726 (by decide +kernel) rfl
theorem fv_X4_243 : pc_V RX4 243 yX3_add cX3_add 2 none 1 := ⟨⟨lw_in 725 (by decide +kernel) rfl, lw_in 122 (by decide +kernel) rfl, fc_X3_add, ⟨by decide +kernel, by decide +kernel, by decide +kernel⟩, by decide⟩, fi_X3_add, lw_in 727 (by decide +kernel) rfl⟩
theorem fc_X4_readAtom : Cond.code yX4_readAtom cX4_readAtom 3 none ∈ lw_g := lw_in 724 (by decide +kernel) rfl
theorem fi_X4_readAtom : Cond.instanceMethod yX4_readAtom ∈ lw_g := lw_in 723 (by decide +kernel) rfl
theorem fv_X4_246 : pc_V RX4 246 yX4_readAtom cX4_readAtom 3 none 1 := ⟨⟨lw_in 721 (by decide +kernel) rfl, lw_in 118 (by decide +kernel) rfl, fc_X4_readAtom, ⟨by decide +kernel, by decide +kernel, by decide +kernel⟩, by decide⟩, fi_X4_readAtom, lw_in 19 (by decide +kernel) rfl⟩
theorem fc_X4_anyName : Cond.code yX4_anyName cX4_anyName 2 (some (.int)) ∈ lw_g := lw_in 629 (by decide +kernel) rfl
theorem fi_X4_anyName : Cond.instanceMethod yX4_anyName ∈ lw_g := lw_in 628 (by decide +kernel) rfl
theorem fv_X4_256 : pc_V RX4 256 yX4_anyName cX4_anyName 2 (some (.int)) 0 := ⟨⟨lw_in 626 (by decide +kernel) rfl, lw_in 118 (by decide +kernel) rfl, fc_X4_anyName, ⟨by decide +kernel, by decide +kernel, by decide +kernel⟩, by decide⟩, fi_X4_anyName, lw_in 4 (by decide +kernel) rfl⟩
theorem fc_X9_isGiven : Cond.code yX9_isGiven cX9_isGiven 2 (some (.boolean)) ∈ lw_g := lw_in 633 (by decide +kernel) rfl
theorem fi_X9_isGiven : Cond.instanceMethod yX9_isGiven ∈ lw_g := lw_in 631 (by decide +kernel) rfl
theorem fv_X4_259 : pc_V RX4 259 yX9_isGiven cX9_isGiven 2 (some (.boolean)) 1 := ⟨⟨lw_in 630 (by decide +kernel) rfl, lw_in 119 (by decide +kernel) rfl, fc_X9_isGiven, ⟨by decide +kernel, by decide +kernel, by decide +kernel⟩, by decide⟩, fi_X9_isGiven, lw_in 632 (by decide +kernel) rfl⟩
theorem fc_X9_find : Cond.code yX9_find cX9_find 4 (some (.int)) ∈ lw_g := lw_in 637 (by decide +kernel) rfl
theorem fi_X9_find : Cond.instanceMethod yX9_find ∈ lw_g := lw_in 635 (by decide +kernel) rfl
theorem fv_X4_262 : pc_V RX4 262 yX9_find cX9_find 4 (some (.int)) 2 := ⟨⟨lw_in 664 (by decide +kernel) rfl, lw_in 119 (by decide +kernel) rfl, fc_X9_find, ⟨by decide +kernel, by decide +kernel, by decide +kernel⟩, by decide⟩, fi_X9_find, lw_in 636 (by decide +kernel) rfl⟩
theorem fc_X5_shorten : Cond.code yX5_shorten cX5_shorten 6 none ∈ lw_g := lw_in 744 (by decide +kernel) rfl
theorem fi_X5_shorten : Cond.instanceMethod yX5_shorten ∈ lw_g := lw_in 743 (by decide +kernel) rfl
theorem fv_X5_23 : pc_V RX5 23 yX5_shorten cX5_shorten 6 none 1 := ⟨⟨lw_in 741 (by decide +kernel) rfl, lw_in 121 (by decide +kernel) rfl, fc_X5_shorten, ⟨by decide +kernel, by decide +kernel, by decide +kernel⟩, by decide⟩, fi_X5_shorten, lw_in 21 (by decide +kernel) rfl⟩
theorem fc_X5_stretch : Cond.code yX5_stretch cX5_stretch 3 (some (.int)) ∈ lw_g := lw_in 869 (by decide +kernel) rfl
theorem fi_X5_stretch : Cond.instanceMethod yX5_stretch ∈ lw_g := lw_in 867 (by decide +kernel) rfl
theorem fv_X5_27 : pc_V RX5 27 yX5_stretch cX5_stretch 3 (some (.int)) 2 := ⟨⟨lw_in 866 (by decide +kernel) rfl, lw_in 121 (by decide +kernel) rfl, fc_X5_stretch, ⟨by decide +kernel, by decide +kernel, by decide +kernel⟩, by decide⟩, fi_X5_stretch, lw_in 868 (by decide +kernel) rfl⟩
theorem fv_X6_37 : pc_V RX6 37 yX6_open cX6_open 3 none 1 := ⟨⟨lw_in 420 (by decide +kernel) rfl, lw_in 123 (by decide +kernel) rfl, fc_X6_open, ⟨by decide +kernel, by decide +kernel, by decide +kernel⟩, by decide⟩, fi_X6_open, lw_in 422 (by decide +kernel) rfl⟩
theorem fv_X6_71 : pc_S RX6 71 yX9_placeOf cX9_placeOf 2 (some (.int)) 2 := ⟨⟨lw_in 881 (by decide +kernel) rfl, lw_in 119 (by decide +kernel) rfl, fc_X9_placeOf, ⟨by decide +kernel, by decide +kernel, by decide +kernel⟩, by decide⟩, lw_in 839 (by decide +kernel) rfl⟩
theorem fv_X6_75 : pc_V RX6 75 yX6_officials cX6_officials 1 (some (.int)) 0 := ⟨⟨lw_in 778 (by decide +kernel) rfl, lw_in 123 (by decide +kernel) rfl, fc_X6_officials, ⟨by decide +kernel, by decide +kernel, by decide +kernel⟩, by decide⟩, fi_X6_officials, lw_in 780 (by decide +kernel) rfl⟩
theorem fv_X6_79 : pc_S RX6 79 yJ6_bitCount_0f7a4 cJ6_bitCount_0f7a4 1 (some (.int)) 1 := ⟨⟨lw_in 782 (by decide +kernel) rfl, lw_in 134 (by decide +kernel) rfl, fc_J6_bitCount_0f7a4, ⟨by decide +kernel, by decide +kernel, by decide +kernel⟩, by decide⟩, lw_in 783 (by decide +kernel) rfl⟩
theorem fv_X6_85 : pc_V RX6 85 yX9_isSeat cX9_isSeat 3 (some (.boolean)) 2 := ⟨⟨lw_in 878 (by decide +kernel) rfl, lw_in 119 (by decide +kernel) rfl, fc_X9_isSeat, ⟨by decide +kernel, by decide +kernel, by decide +kernel⟩, by decide⟩, fi_X9_isSeat, lw_in 835 (by decide +kernel) rfl⟩
theorem fv_X6_89 : pc_V RX6 89 yX9_isNamed cX9_isNamed 3 (some (.boolean)) 2 := ⟨⟨lw_in 879 (by decide +kernel) rfl, lw_in 119 (by decide +kernel) rfl, fc_X9_isNamed, ⟨by decide +kernel, by decide +kernel, by decide +kernel⟩, by decide⟩, fi_X9_isNamed, lw_in 794 (by decide +kernel) rfl⟩
theorem fv_X6_92 : pc_V RX6 92 yX6_isPlayed cX6_isPlayed 2 (some (.boolean)) 1 := ⟨⟨lw_in 880 (by decide +kernel) rfl, lw_in 123 (by decide +kernel) rfl, fc_X6_isPlayed, ⟨by decide +kernel, by decide +kernel, by decide +kernel⟩, by decide⟩, fi_X6_isPlayed, lw_in 823 (by decide +kernel) rfl⟩
theorem fv_X6_96 : pc_V RX6 96 yX6_hindrance cX6_hindrance 7 (some (.int)) 4 := ⟨⟨lw_in 882 (by decide +kernel) rfl, lw_in 123 (by decide +kernel) rfl, fc_X6_hindrance, ⟨by decide +kernel, by decide +kernel, by decide +kernel⟩, by decide⟩, fi_X6_hindrance, lw_in 884 (by decide +kernel) rfl⟩
theorem fc_X2_needOf : Cond.code yX2_needOf cX2_needOf 2 (some (.int)) ∈ lw_g := lw_in 889 (by decide +kernel) rfl
theorem fi_X2_needOf : Cond.instanceMethod yX2_needOf ∈ lw_g := lw_in 887 (by decide +kernel) rfl
theorem fv_X6_103 : pc_V RX6 103 yX2_needOf cX2_needOf 2 (some (.int)) 1 := ⟨⟨lw_in 886 (by decide +kernel) rfl, lw_in 120 (by decide +kernel) rfl, fc_X2_needOf, ⟨by decide +kernel, by decide +kernel, by decide +kernel⟩, by decide⟩, fi_X2_needOf, lw_in 888 (by decide +kernel) rfl⟩
theorem fc_X6_fieldsOf : Cond.code yX6_fieldsOf cX6_fieldsOf 4 (some (.int)) ∈ lw_g := lw_in 893 (by decide +kernel) rfl
theorem fi_X6_fieldsOf : Cond.instanceMethod yX6_fieldsOf ∈ lw_g := lw_in 892 (by decide +kernel) rfl
theorem fv_X6_143 : pc_V RX6 143 yX6_fieldsOf cX6_fieldsOf 4 (some (.int)) 1 := ⟨⟨lw_in 890 (by decide +kernel) rfl, lw_in 123 (by decide +kernel) rfl, fc_X6_fieldsOf, ⟨by decide +kernel, by decide +kernel, by decide +kernel⟩, by decide⟩, fi_X6_fieldsOf, lw_in 24 (by decide +kernel) rfl⟩
theorem fv_X6_149 : pc_V RX6 149 yX6_rise cX6_rise 5 none 2 := ⟨⟨lw_in 933 (by decide +kernel) rfl, lw_in 123 (by decide +kernel) rfl, fc_X6_rise, ⟨by decide +kernel, by decide +kernel, by decide +kernel⟩, by decide⟩, fi_X6_rise, lw_in 919 (by decide +kernel) rfl⟩
theorem fv_X6_153 : pc_V RX6 153 yX6_sit cX6_sit 4 none 3 := ⟨⟨lw_in 934 (by decide +kernel) rfl, lw_in 123 (by decide +kernel) rfl, fc_X6_sit, ⟨by decide +kernel, by decide +kernel, by decide +kernel⟩, by decide⟩, fi_X6_sit, lw_in 911 (by decide +kernel) rfl⟩
theorem fv_X6_163 : pc_V RX6 163 yX5_stretch cX5_stretch 3 (some (.int)) 2 := ⟨⟨lw_in 961 (by decide +kernel) rfl, lw_in 121 (by decide +kernel) rfl, fc_X5_stretch, ⟨by decide +kernel, by decide +kernel, by decide +kernel⟩, by decide⟩, fi_X5_stretch, lw_in 868 (by decide +kernel) rfl⟩
theorem fv_X6_166 : pc_V RX6 166 yX6_roundOn cX6_roundOn 10 (some (.int)) 3 := ⟨⟨lw_in 957 (by decide +kernel) rfl, lw_in 123 (by decide +kernel) rfl, fc_X6_roundOn, ⟨by decide +kernel, by decide +kernel, by decide +kernel⟩, by decide⟩, fi_X6_roundOn, lw_in 959 (by decide +kernel) rfl⟩
theorem fc_X3_set : Cond.code yX3_set cX3_set 3 none ∈ lw_g := lw_in 969 (by decide +kernel) rfl
theorem fi_X3_set : Cond.instanceMethod yX3_set ∈ lw_g := lw_in 967 (by decide +kernel) rfl
theorem fv_X6_176 : pc_V RX6 176 yX3_set cX3_set 3 none 2 := ⟨⟨lw_in 966 (by decide +kernel) rfl, lw_in 122 (by decide +kernel) rfl, fc_X3_set, ⟨by decide +kernel, by decide +kernel, by decide +kernel⟩, by decide⟩, fi_X3_set, lw_in 968 (by decide +kernel) rfl⟩
theorem fc_X3_tell : Cond.code yX3_tell cX3_tell 4 (some (.long)) ∈ lw_g := lw_in 973 (by decide +kernel) rfl
theorem fi_X3_tell : Cond.instanceMethod yX3_tell ∈ lw_g := lw_in 971 (by decide +kernel) rfl
theorem fv_X6_185 : pc_V RX6 185 yX3_tell cX3_tell 4 (some (.long)) 0 := ⟨⟨lw_in 970 (by decide +kernel) rfl, lw_in 122 (by decide +kernel) rfl, fc_X3_tell, ⟨by decide +kernel, by decide +kernel, by decide +kernel⟩, by decide⟩, fi_X3_tell, lw_in 972 (by decide +kernel) rfl⟩
theorem fv_X6_192 : pc_V RX6 192 yX6_pay cX6_pay 6 (some (.long)) 3 := ⟨⟨lw_in 1009 (by decide +kernel) rfl, lw_in 123 (by decide +kernel) rfl, fc_X6_pay, ⟨by decide +kernel, by decide +kernel, by decide +kernel⟩, by decide⟩, fi_X6_pay, lw_in 964 (by decide +kernel) rfl⟩
theorem fc_X6_minuteAtHome : Cond.code yX6_minuteAtHome cX6_minuteAtHome 5 (some (.int)) ∈ lw_g := lw_in 1121 (by decide +kernel) rfl
theorem fi_X6_minuteAtHome : Cond.instanceMethod yX6_minuteAtHome ∈ lw_g := lw_in 1120 (by decide +kernel) rfl
theorem fv_X6_198 : pc_V RX6 198 yX6_minuteAtHome cX6_minuteAtHome 5 (some (.int)) 3 := ⟨⟨lw_in 1118 (by decide +kernel) rfl, lw_in 123 (by decide +kernel) rfl, fc_X6_minuteAtHome, ⟨by decide +kernel, by decide +kernel, by decide +kernel⟩, by decide⟩, fi_X6_minuteAtHome, lw_in 39 (by decide +kernel) rfl⟩
theorem fv_X6_205 : pc_V RX6 205 yX2_ends cX2_ends 1 (some (.int)) 0 := ⟨⟨lw_in 1122 (by decide +kernel) rfl, lw_in 120 (by decide +kernel) rfl, fc_X2_ends, ⟨by decide +kernel, by decide +kernel, by decide +kernel⟩, by decide⟩, fi_X2_ends, lw_in 755 (by decide +kernel) rfl⟩
theorem fv_X6_209 : pc_V RX6 209 yX6_giveMark cX6_giveMark 6 none 2 := ⟨⟨lw_in 1144 (by decide +kernel) rfl, lw_in 123 (by decide +kernel) rfl, fc_X6_giveMark, ⟨by decide +kernel, by decide +kernel, by decide +kernel⟩, by decide⟩, fi_X6_giveMark, lw_in 1146 (by decide +kernel) rfl⟩
theorem fc_X6_isAhead : Cond.code yX6_isAhead cX6_isAhead 3 (some (.boolean)) ∈ lw_g := lw_in 1174 (by decide +kernel) rfl
theorem fi_X6_isAhead : Cond.instanceMethod yX6_isAhead ∈ lw_g := lw_in 1173 (by decide +kernel) rfl
theorem fv_X6_215 : pc_V RX6 215 yX6_isAhead cX6_isAhead 3 (some (.boolean)) 2 := ⟨⟨lw_in 1171 (by decide +kernel) rfl, lw_in 123 (by decide +kernel) rfl, fc_X6_isAhead, ⟨by decide +kernel, by decide +kernel, by decide +kernel⟩, by decide⟩, fi_X6_isAhead, lw_in 40 (by decide +kernel) rfl⟩
theorem fv_X6_218 : pc_V RX6 218 yX6_sortByForm cX6_sortByForm 4 none 0 := ⟨⟨lw_in 1167 (by decide +kernel) rfl, lw_in 123 (by decide +kernel) rfl, fc_X6_sortByForm, ⟨by decide +kernel, by decide +kernel, by decide +kernel⟩, by decide⟩, fi_X6_sortByForm, lw_in 1169 (by decide +kernel) rfl⟩
theorem fc_X6_markRisers : Cond.code yX6_markRisers cX6_markRisers 6 (some (.int)) ∈ lw_g := lw_in 1178 (by decide +kernel) rfl
theorem fi_X6_markRisers : Cond.instanceMethod yX6_markRisers ∈ lw_g := lw_in 1177 (by decide +kernel) rfl
theorem fv_X6_221 : pc_V RX6 221 yX6_markRisers cX6_markRisers 6 (some (.int)) 2 := ⟨⟨lw_in 1175 (by decide +kernel) rfl, lw_in 123 (by decide +kernel) rfl, fc_X6_markRisers, ⟨by decide +kernel, by decide +kernel, by decide +kernel⟩, by decide⟩, fi_X6_markRisers, lw_in 41 (by decide +kernel) rfl⟩
theorem fc_X6_markFallers : Cond.code yX6_markFallers cX6_markFallers 6 (some (.int)) ∈ lw_g := lw_in 1183 (by decide +kernel) rfl
theorem fi_X6_markFallers : Cond.instanceMethod yX6_markFallers ∈ lw_g := lw_in 1182 (by decide +kernel) rfl
theorem fv_X6_224 : pc_V RX6 224 yX6_markFallers cX6_markFallers 6 (some (.int)) 2 := ⟨⟨lw_in 1180 (by decide +kernel) rfl, lw_in 123 (by decide +kernel) rfl, fc_X6_markFallers, ⟨by decide +kernel, by decide +kernel, by decide +kernel⟩, by decide⟩, fi_X6_markFallers, lw_in 42 (by decide +kernel) rfl⟩
theorem fv_X8_25 : pc_V RX8 25 yX8_advance cX8_advance 4 none 0 := ⟨⟨lw_in 582 (by decide +kernel) rfl, lw_in 117 (by decide +kernel) rfl, fc_X8_advance, ⟨by decide +kernel, by decide +kernel, by decide +kernel⟩, by decide⟩, fi_X8_advance, lw_in 584 (by decide +kernel) rfl⟩
theorem fc_X5_init : Cond.code yX5_init cX5_init 1 none ∈ lw_g := lw_in 291 (by decide +kernel) rfl
theorem fi_X5_init : Cond.instanceMethod yX5_init ∈ lw_g := lw_in 290 (by decide +kernel) rfl
theorem fv_X9_41 : pc_I RX9 41 yX5_init cX5_init 1 0 := ⟨⟨lw_in 289 (by decide +kernel) rfl, lw_in 121 (by decide +kernel) rfl, fc_X5_init, ⟨by decide +kernel, by decide +kernel, by decide +kernel⟩, by decide⟩, rfl, fi_X5_init⟩
theorem fc_X3_init : Cond.code yX3_init cX3_init 1 none ∈ lw_g := lw_in 311 (by decide +kernel) rfl
theorem fi_X3_init : Cond.instanceMethod yX3_init ∈ lw_g := lw_in 310 (by decide +kernel) rfl
theorem fv_X9_48 : pc_I RX9 48 yX3_init cX3_init 1 0 := ⟨⟨lw_in 309 (by decide +kernel) rfl, lw_in 122 (by decide +kernel) rfl, fc_X3_init, ⟨by decide +kernel, by decide +kernel, by decide +kernel⟩, by decide⟩, rfl, fi_X3_init⟩
theorem fc_X5_empty : Cond.code yX5_empty cX5_empty 3 none ∈ lw_g := lw_in 577 (by decide +kernel) rfl
theorem fi_X5_empty : Cond.instanceMethod yX5_empty ∈ lw_g := lw_in 575 (by decide +kernel) rfl
theorem fv_X9_72 : pc_V RX9 72 yX5_empty cX5_empty 3 none 0 := ⟨⟨lw_in 574 (by decide +kernel) rfl, lw_in 121 (by decide +kernel) rfl, fc_X5_empty, ⟨by decide +kernel, by decide +kernel, by decide +kernel⟩, by decide⟩, fi_X5_empty, lw_in 576 (by decide +kernel) rfl⟩
theorem fv_X9_81 : pc_V RX9 81 yX9_find cX9_find 4 (some (.int)) 2 := ⟨⟨lw_in 634 (by decide +kernel) rfl, lw_in 119 (by decide +kernel) rfl, fc_X9_find, ⟨by decide +kernel, by decide +kernel, by decide +kernel⟩, by decide⟩, fi_X9_find, lw_in 636 (by decide +kernel) rfl⟩
theorem fv_X9_85 : pc_V RX9 85 yX9_isNamed cX9_isNamed 3 (some (.boolean)) 2 := ⟨⟨lw_in 849 (by decide +kernel) rfl, lw_in 119 (by decide +kernel) rfl, fc_X9_isNamed, ⟨by decide +kernel, by decide +kernel, by decide +kernel⟩, by decide⟩, fi_X9_isNamed, lw_in 794 (by decide +kernel) rfl⟩
theorem fv_X9_89 : pc_V RX9 89 yX9_isGame cX9_isGame 2 (some (.boolean)) 1 := ⟨⟨lw_in 837 (by decide +kernel) rfl, lw_in 119 (by decide +kernel) rfl, fc_X9_isGame, ⟨by decide +kernel, by decide +kernel, by decide +kernel⟩, by decide⟩, fi_X9_isGame, lw_in 819 (by decide +kernel) rfl⟩
theorem fc_X5_settle : Cond.code yX5_settle cX5_settle 4 none ∈ lw_g := lw_in 740 (by decide +kernel) rfl
theorem fi_X5_settle : Cond.instanceMethod yX5_settle ∈ lw_g := lw_in 738 (by decide +kernel) rfl
theorem fv_X9_96 : pc_V RX9 96 yX5_settle cX5_settle 4 none 1 := ⟨⟨lw_in 737 (by decide +kernel) rfl, lw_in 121 (by decide +kernel) rfl, fc_X5_settle, ⟨by decide +kernel, by decide +kernel, by decide +kernel⟩, by decide⟩, fi_X5_settle, lw_in 739 (by decide +kernel) rfl⟩
theorem fc_X9_compareWithOthers : Cond.code yX9_compareWithOthers cX9_compareWithOthers 5 none ∈ lw_g := lw_in 748 (by decide +kernel) rfl
theorem fi_X9_compareWithOthers : Cond.instanceMethod yX9_compareWithOthers ∈ lw_g := lw_in 747 (by decide +kernel) rfl
theorem fv_X9_106 : pc_V RX9 106 yX9_compareWithOthers cX9_compareWithOthers 5 none 1 := ⟨⟨lw_in 745 (by decide +kernel) rfl, lw_in 119 (by decide +kernel) rfl, fc_X9_compareWithOthers, ⟨by decide +kernel, by decide +kernel, by decide +kernel⟩, by decide⟩, fi_X9_compareWithOthers, lw_in 22 (by decide +kernel) rfl⟩
theorem fc_X9_sinkIntoOrder : Cond.code yX9_sinkIntoOrder cX9_sinkIntoOrder 4 none ∈ lw_g := lw_in 760 (by decide +kernel) rfl
theorem fi_X9_sinkIntoOrder : Cond.instanceMethod yX9_sinkIntoOrder ∈ lw_g := lw_in 759 (by decide +kernel) rfl
theorem fv_X9_109 : pc_V RX9 109 yX9_sinkIntoOrder cX9_sinkIntoOrder 4 none 1 := ⟨⟨lw_in 757 (by decide +kernel) rfl, lw_in 119 (by decide +kernel) rfl, fc_X9_sinkIntoOrder, ⟨by decide +kernel, by decide +kernel, by decide +kernel⟩, by decide⟩, fi_X9_sinkIntoOrder, lw_in 23 (by decide +kernel) rfl⟩
theorem fc_X2_compare : Cond.code yX2_compare cX2_compare 6 none ∈ lw_g := lw_in 752 (by decide +kernel) rfl
theorem fi_X2_compare : Cond.instanceMethod yX2_compare ∈ lw_g := lw_in 750 (by decide +kernel) rfl
theorem fv_X9_121 : pc_V RX9 121 yX2_compare cX2_compare 6 none 3 := ⟨⟨lw_in 749 (by decide +kernel) rfl, lw_in 120 (by decide +kernel) rfl, fc_X2_compare, ⟨by decide +kernel, by decide +kernel, by decide +kernel⟩, by decide⟩, fi_X2_compare, lw_in 751 (by decide +kernel) rfl⟩
theorem fk_J6_265 : Cond.constant RJ6 265 (1431655765) ∈ lw_g := lw_in 785 (by decide +kernel) rfl
theorem fk_J6_266 : Cond.constant RJ6 266 (858993459) ∈ lw_g := lw_in 786 (by decide +kernel) rfl
theorem fk_J6_267 : Cond.constant RJ6 267 (252645135) ∈ lw_g := lw_in 787 (by decide +kernel) rfl
theorem fk_X1_45 : Cond.constantLong RX1 45 (-9223372036854775808) ∈ lw_g := lw_in 988 (by decide +kernel) rfl
theorem fk_X1_47 : Cond.constantLong RX1 47 (2147483648) ∈ lw_g := lw_in 989 (by decide +kernel) rfl
theorem fk_X1_112 : Cond.constant RX1 112 (1000000) ∈ lw_g := lw_in 1045 (by decide +kernel) rfl
theorem fk_X11_255 : Cond.constantLong RX11 255 (-9223372036854775808) ∈ lw_g := lw_in 999 (by decide +kernel) rfl
theorem fk_X12_158 : Cond.constantLong RX12 158 (97) ∈ lw_g := lw_in 1514 (by decide +kernel) rfl
theorem fk_X12_160 : Cond.constantLong RX12 160 (122) ∈ lw_g := lw_in 1515 (by decide +kernel) rfl
theorem fk_X12_162 : Cond.constantLong RX12 162 (27) ∈ lw_g := lw_in 1516 (by decide +kernel) rfl
theorem fk_X12_164 : Cond.constantLong RX12 164 (96) ∈ lw_g := lw_in 1517 (by decide +kernel) rfl
theorem fk_X12_166 : Cond.constantLong RX12 166 (48) ∈ lw_g := lw_in 1518 (by decide +kernel) rfl
theorem fk_X12_168 : Cond.constantLong RX12 168 (57) ∈ lw_g := lw_in 1519 (by decide +kernel) rfl
theorem fk_X12_343 : Cond.constantFloat RX12 343 (1112014848) ∈ lw_g := lw_in 1709 (by decide +kernel) rfl
theorem fk_X12_362 : Cond.constantLong RX12 362 (2) ∈ lw_g := lw_in 1740 (by decide +kernel) rfl
theorem fk_X12_378 : Cond.constantFloat RX12 378 (1258291200) ∈ lw_g := lw_in 1763 (by decide +kernel) rfl
theorem fk_X12_379 : Cond.constant RX12 379 (8388608) ∈ lw_g := lw_in 1764 (by decide +kernel) rfl
theorem fk_X12_380 : Cond.constantLong RX12 380 (8) ∈ lw_g := lw_in 1773 (by decide +kernel) rfl
theorem fk_X12_452 : Cond.constantLong RX12 452 (6) ∈ lw_g := lw_in 1908 (by decide +kernel) rfl
theorem fk_X12_454 : Cond.constantLong RX12 454 (3) ∈ lw_g := lw_in 1913 (by decide +kernel) rfl
theorem fk_X12_459 : Cond.constantLong RX12 459 (-9223372036854775808) ∈ lw_g := lw_in 1926 (by decide +kernel) rfl
theorem fk_X12_465 : Cond.constantLong RX12 465 (-2147483648) ∈ lw_g := lw_in 1930 (by decide +kernel) rfl
theorem fk_X12_467 : Cond.constantLong RX12 467 (2147483647) ∈ lw_g := lw_in 1931 (by decide +kernel) rfl
theorem fk_X12_473 : Cond.constantLong RX12 473 (9223372036854775807) ∈ lw_g := lw_in 1940 (by decide +kernel) rfl
theorem fk_X12_499 : Cond.constantLong RX12 499 (4) ∈ lw_g := lw_in 1965 (by decide +kernel) rfl
theorem fk_X12_510 : Cond.constantFloat RX12 510 (1061158912) ∈ lw_g := lw_in 2007 (by decide +kernel) rfl
theorem fk_X12_511 : Cond.constantFloat RX12 511 (1048576000) ∈ lw_g := lw_in 2008 (by decide +kernel) rfl
theorem fk_X12_512 : Cond.constant RX12 512 (1103515245) ∈ lw_g := lw_in 2002 (by decide +kernel) rfl
theorem fk_X12_515 : Cond.constantLong RX12 515 (100) ∈ lw_g := lw_in 2013 (by decide +kernel) rfl
theorem fk_X12_517 : Cond.constantFloat RX12 517 (1114636288) ∈ lw_g := lw_in 2023 (by decide +kernel) rfl
theorem fk_X12_518 : Cond.constantFloat RX12 518 (1109393408) ∈ lw_g := lw_in 2032 (by decide +kernel) rfl
theorem fk_X12_519 : Cond.constantLong RX12 519 (9) ∈ lw_g := lw_in 2018 (by decide +kernel) rfl
theorem fk_X12_530 : Cond.constantLong RX12 530 (20) ∈ lw_g := lw_in 2041 (by decide +kernel) rfl
theorem fk_X12_535 : Cond.constantLong RX12 535 (-1) ∈ lw_g := lw_in 2054 (by decide +kernel) rfl
theorem fk_X3_38 : Cond.constantLong RX3 38 (-9223372036854775808) ∈ lw_g := lw_in 987 (by decide +kernel) rfl
theorem fk_X3_46 : Cond.constantLong RX3 46 (-2147483648) ∈ lw_g := lw_in 981 (by decide +kernel) rfl
theorem fk_X3_48 : Cond.constantLong RX3 48 (2147483647) ∈ lw_g := lw_in 982 (by decide +kernel) rfl
theorem fk_X6_52 : Cond.constantFloat RX6 52 (1112014848) ∈ lw_g := lw_in 424 (by decide +kernel) rfl
theorem fk_X6_196 : Cond.constantLong RX6 196 (-9223372036854775808) ∈ lw_g := lw_in 1010 (by decide +kernel) rfl
theorem fk_X6_208 : Cond.constant RX6 208 (1103515245) ∈ lw_g := lw_in 1143 (by decide +kernel) rfl
theorem fk_X6_212 : Cond.constantFloat RX6 212 (1061158912) ∈ lw_g := lw_in 1148 (by decide +kernel) rfl
theorem fk_X6_213 : Cond.constantFloat RX6 213 (1048576000) ∈ lw_g := lw_in 1149 (by decide +kernel) rfl
theorem fk_X6_214 : Cond.constantFloat RX6 214 (1258291200) ∈ lw_g := lw_in 812 (by decide +kernel) rfl
theorem fk_X6_227 : Cond.constantFloat RX6 227 (1114636288) ∈ lw_g := lw_in 1179 (by decide +kernel) rfl
theorem fk_X6_228 : Cond.constantFloat RX6 228 (1109393408) ∈ lw_g := lw_in 1184 (by decide +kernel) rfl
theorem fo_X1_3 : Cond.methodLink RX1 3 objectInit ∈ lw_g ∧ Cond.instanceMethod objectInit ∈ lw_g ∧ Cond.code objectInit ⟨#[0xb1]⟩ 1 none ∈ lw_g := ⟨lw_in 473 (by decide +kernel) rfl, lw_in 148 (by decide +kernel) rfl, lw_in 149 (by decide +kernel) rfl⟩
theorem fo_X11_1 : Cond.methodLink RX11 1 objectInit ∈ lw_g ∧ Cond.instanceMethod objectInit ∈ lw_g ∧ Cond.code objectInit ⟨#[0xb1]⟩ 1 none ∈ lw_g := ⟨lw_in 147 (by decide +kernel) rfl, lw_in 148 (by decide +kernel) rfl, lw_in 149 (by decide +kernel) rfl⟩
theorem fo_X12_3 : Cond.methodLink RX12 3 objectInit ∈ lw_g ∧ Cond.instanceMethod objectInit ∈ lw_g ∧ Cond.code objectInit ⟨#[0xb1]⟩ 1 none ∈ lw_g := ⟨lw_in 1318 (by decide +kernel) rfl, lw_in 148 (by decide +kernel) rfl, lw_in 149 (by decide +kernel) rfl⟩
theorem fo_X2_3 : Cond.methodLink RX2 3 objectInit ∈ lw_g ∧ Cond.instanceMethod objectInit ∈ lw_g ∧ Cond.code objectInit ⟨#[0xb1]⟩ 1 none ∈ lw_g := ⟨lw_in 226 (by decide +kernel) rfl, lw_in 148 (by decide +kernel) rfl, lw_in 149 (by decide +kernel) rfl⟩
theorem fo_X3_3 : Cond.methodLink RX3 3 objectInit ∈ lw_g ∧ Cond.instanceMethod objectInit ∈ lw_g ∧ Cond.code objectInit ⟨#[0xb1]⟩ 1 none ∈ lw_g := ⟨lw_in 312 (by decide +kernel) rfl, lw_in 148 (by decide +kernel) rfl, lw_in 149 (by decide +kernel) rfl⟩
theorem fo_X4_3 : Cond.methodLink RX4 3 objectInit ∈ lw_g ∧ Cond.instanceMethod objectInit ∈ lw_g ∧ Cond.code objectInit ⟨#[0xb1]⟩ 1 none ∈ lw_g := ⟨lw_in 193 (by decide +kernel) rfl, lw_in 148 (by decide +kernel) rfl, lw_in 149 (by decide +kernel) rfl⟩
theorem fo_X5_3 : Cond.methodLink RX5 3 objectInit ∈ lw_g ∧ Cond.instanceMethod objectInit ∈ lw_g ∧ Cond.code objectInit ⟨#[0xb1]⟩ 1 none ∈ lw_g := ⟨lw_in 292 (by decide +kernel) rfl, lw_in 148 (by decide +kernel) rfl, lw_in 149 (by decide +kernel) rfl⟩
theorem fo_X6_3 : Cond.methodLink RX6 3 objectInit ∈ lw_g ∧ Cond.instanceMethod objectInit ∈ lw_g ∧ Cond.code objectInit ⟨#[0xb1]⟩ 1 none ∈ lw_g := ⟨lw_in 419 (by decide +kernel) rfl, lw_in 148 (by decide +kernel) rfl, lw_in 149 (by decide +kernel) rfl⟩
theorem fo_X7_3 : Cond.methodLink RX7 3 objectInit ∈ lw_g ∧ Cond.instanceMethod objectInit ∈ lw_g ∧ Cond.code objectInit ⟨#[0xb1]⟩ 1 none ∈ lw_g := ⟨lw_in 503 (by decide +kernel) rfl, lw_in 148 (by decide +kernel) rfl, lw_in 149 (by decide +kernel) rfl⟩
theorem fo_X8_3 : Cond.methodLink RX8 3 objectInit ∈ lw_g ∧ Cond.instanceMethod objectInit ∈ lw_g ∧ Cond.code objectInit ⟨#[0xb1]⟩ 1 none ∈ lw_g := ⟨lw_in 155 (by decide +kernel) rfl, lw_in 148 (by decide +kernel) rfl, lw_in 149 (by decide +kernel) rfl⟩
theorem fo_X9_3 : Cond.methodLink RX9 3 objectInit ∈ lw_g ∧ Cond.instanceMethod objectInit ∈ lw_g ∧ Cond.code objectInit ⟨#[0xb1]⟩ 1 none ∈ lw_g := ⟨lw_in 217 (by decide +kernel) rfl, lw_in 148 (by decide +kernel) rfl, lw_in 149 (by decide +kernel) rfl⟩
