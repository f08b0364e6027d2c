/-! constructors -/
theorem vd_in {i : Int32} {n : Nat} (h : decide (¬ (i < 0 ∨ n ≤ i.toNatClampNeg)) = true) : vp_in i n := (of_decide_eq_true h : ¬ (i < 0 ∨ n ≤ i.toNatClampNeg))
theorem fm_X5_11 : Cond.classLink RX5 11 "[[I" ∈ lw_g := lw_in 293 (by decide +kernel) rfl
theorem fm_X9_9 : Cond.classLink RX9 9 "[[I" ∈ lw_g := lw_in 218 (by decide +kernel) rfl
theorem fa_X9_32 : Cond.classLink RX9 32 "WhistleRoster$Game" ∈ lw_g := lw_in 220 (by decide +kernel) rfl
theorem fn_X9_32 : pz_ok RX9 32 1 10 := ⟨RX2, TX2, tyX2, rfl, us_X2, tyX2_ok, ⟨lw_in 220 (by decide +kernel) rfl, lw_in 222 (by decide +kernel) rfl, lw_in 120 (by decide +kernel) rfl⟩, by decide⟩
theorem fn_X9_39 : pz_ok RX9 39 4 3 := ⟨RX5, TX5, tyX5, rfl, us_X5, tyX5_ok, ⟨lw_in 287 (by decide +kernel) rfl, lw_in 288 (by decide +kernel) rfl, lw_in 121 (by decide +kernel) rfl⟩, by decide⟩
theorem fn_X9_46 : pz_ok RX9 46 2 5 := ⟨RX3, TX3, tyX3, rfl, us_X3, tyX3_ok, ⟨lw_in 307 (by decide +kernel) rfl, lw_in 308 (by decide +kernel) rfl, lw_in 122 (by decide +kernel) rfl⟩, by decide⟩
theorem fn_X11_7 : pz_ok RX11 7 7 8 := ⟨RX8, TX8, tyX8, rfl, us_X8, tyX8_ok, ⟨lw_in 150 (by decide +kernel) rfl, lw_in 151 (by decide +kernel) rfl, lw_in 117 (by decide +kernel) rfl⟩, by decide⟩
theorem fn_X11_16 : pz_ok RX11 16 3 5 := ⟨RX4, TX4, tyX4, rfl, us_X4, tyX4_ok, ⟨lw_in 188 (by decide +kernel) rfl, lw_in 189 (by decide +kernel) rfl, lw_in 118 (by decide +kernel) rfl⟩, by decide⟩
theorem fn_X11_25 : pz_ok RX11 25 8 15 := ⟨RX9, TX9, tyX9, rfl, us_X9, tyX9_ok, ⟨lw_in 212 (by decide +kernel) rfl, lw_in 213 (by decide +kernel) rfl, lw_in 119 (by decide +kernel) rfl⟩, by decide⟩
theorem fn_X11_35 : pz_ok RX11 35 5 10 := ⟨RX6, TX6, tyX6, rfl, us_X6, tyX6_ok, ⟨lw_in 414 (by decide +kernel) rfl, lw_in 415 (by decide +kernel) rfl, lw_in 123 (by decide +kernel) rfl⟩, by decide⟩
theorem fn_X11_47 : pz_ok RX11 47 0 7 := ⟨RX1, TX1, tyX1, rfl, us_X1, tyX1_ok, ⟨lw_in 468 (by decide +kernel) rfl, lw_in 469 (by decide +kernel) rfl, lw_in 124 (by decide +kernel) rfl⟩, by decide⟩
theorem fa_X11_35 : Cond.classLink RX11 35 "WhistleRoster$Roster" ∈ lw_g := lw_in 414 (by decide +kernel) rfl
theorem fa_X11_60 : Cond.classLink RX11 60 "WhistleRoster$Shelf" ∈ lw_g := lw_in 497 (by decide +kernel) rfl
theorem fn_X11_60 : pz_ok RX11 60 6 3 := ⟨RX7, TX7, tyX7, rfl, us_X7, tyX7_ok, ⟨lw_in 497 (by decide +kernel) rfl, lw_in 499 (by decide +kernel) rfl, lw_in 125 (by decide +kernel) rfl⟩, by decide⟩
theorem fy_int : Cond.arrayClass .int ∈ lw_g := lw_in 286 (by decide +kernel) rfl
theorem fy_long : Cond.arrayClass .long ∈ lw_g := lw_in 331 (by decide +kernel) rfl
theorem fy_float : Cond.arrayClass .float ∈ lw_g := lw_in 467 (by decide +kernel) rfl
theorem fy_byte : Cond.arrayClass .byte ∈ lw_g := lw_in 187 (by decide +kernel) rfl
theorem fy_boolean : Cond.arrayClass .boolean ∈ lw_g := lw_in 1482 (by decide +kernel) rfl
theorem fq_X2 : Cond.code yX2_init cX2_init 1 none ∈ lw_g ∧ Cond.initialized RX2 ∈ lw_g ∧ Cond.instanceMethod yX2_init ∈ lw_g := ⟨lw_in 225 (by decide +kernel) rfl, lw_in 120 (by decide +kernel) rfl, lw_in 224 (by decide +kernel) rfl⟩
