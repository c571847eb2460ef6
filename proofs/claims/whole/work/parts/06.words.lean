abbrev ob_X0 (a : Nat → Nat) (v_told : Int32) (v_barred : Int32) : va_E := .inr (0, [.ref (a 0), .ref (a 1), .ref (a 2), .ref (a 3), .ref (a 4), .int v_told, .int v_barred])
abbrev ob_X1 (r_script : Nat) (a : Nat → Nat) : va_E := .inr (1, [.ref r_script, .ref (a 1), .ref (a 2)])
abbrev ob_X2 (a : Nat → Nat) (v_size : Int32) (v_rules : Int32) : va_E := .inr (2, [.ref (a 0), .ref (a 1), .ref (a 2), .ref (a 3), .ref (a 4), .ref (a 5), .ref (a 6), .int v_size, .int v_rules])
abbrev ob_X3 (r_script : Nat) (r_law : Nat) : va_E := .inr (3, [.ref r_script, .ref r_law])
abbrev ob_X4 (r_script : Nat) (a : Nat → Nat) (v_lines : Int32) (v_told : Int32) : va_E := .inr (4, [.ref r_script, .ref (a 1), .ref (a 2), .ref (a 3), .ref (a 4), .ref (a 5), .int v_lines, .int v_told])
abbrev ob_X6 (a : Nat → Nat) (v_size : Int32) : va_E := .inr (5, [.ref (a 0), .ref (a 1), .ref (a 2), .ref (a 3), .int v_size])
abbrev ob_X7 (r_tape : Nat) (v_end : Int32) (v_place : Int32) (v_sign : Int32) (v_fault : Int32) : va_E := .inr (6, [.ref r_tape, .int v_end, .int v_place, .int v_sign, .int v_fault])
abbrev ob_X8 (a : Nat → Nat) (v_size : Int32) : va_E := .inr (7, [.ref (a 0), .int v_size])
abbrev ob_X9 (a : Nat → Nat) (v_told : Int32) (v_round : Int32) (v_x : Int32) : va_E := .inr (8, [.ref (a 0), .ref (a 1), .ref (a 2), .ref (a 3), .int v_told, .int v_round, .int v_x])
abbrev ob_X10 (a : Nat → Nat) (v_passed : Int32) (v_jammed : Int32) : va_E := .inr (9, [.ref (a 0), .int v_passed, .int v_jammed])
abbrev ob_X11 (r_tape : Nat) (r_script : Nat) (r_hairReader : Nat) (r_ordersReader : Nat) (r_lawReader : Nat) (r_doors : Nat) (r_town : Nat) (r_kept : Nat) (r_trial : Nat) (r_walk : Nat) (r_reach : Nat) (r_lawNow : Nat) (r_lawSpare : Nat) (v_isKept : Int32) : va_E := .inr (10, [.ref r_tape, .ref r_script, .ref r_hairReader, .ref r_ordersReader, .ref r_lawReader, .ref r_doors, .ref r_town, .ref r_kept, .ref r_trial, .ref r_walk, .ref r_reach, .ref r_lawNow, .ref r_lawSpare, .int v_isKept])
abbrev ob_X12 (a : Nat → Nat) (v_toldDoors : Int32) (v_barredDoors : Int32) (v_taped : Int32) (v_place0 : Int32) (v_length0 : Int32) (v_fault : Int32) (v_number0 : Int32) (v_open : Int32) (v_codeMany : Int32) (v_waiting : Int32) (v_saidMany : Int32) (v_clauses : Int32) (v_newMany : Int32) (v_rounds : Int32) (v_pinFrom : Int32) (v_pinTimes : Int32) (v_lines : Int32) (v_wasTold : Int32) (v_wasBarred : Int32) (v_goesNow : Int32) (v_jamsNow : Int32) (v_queued : Int32) (v_isKept : Int32) : va_E := .inr (11, [.ref (a 0), .ref (a 1), .ref (a 2), .ref (a 3), .ref (a 4), .ref (a 5), .ref (a 6), .ref (a 7), .ref (a 8), .ref (a 9), .ref (a 10), .int v_toldDoors, .int v_barredDoors, .ref (a 13), .int v_taped, .int v_place0, .int v_length0, .int v_fault, .int v_number0, .int v_open, .int v_codeMany, .int v_waiting, .int v_saidMany, .int v_clauses, .ref (a 24), .ref (a 25), .ref (a 26), .ref (a 27), .ref (a 28), .ref (a 29), .ref (a 30), .ref (a 31), .ref (a 32), .ref (a 33), .ref (a 34), .ref (a 35), .ref (a 36), .ref (a 37), .ref (a 38), .ref (a 39), .ref (a 40), .int v_newMany, .int v_rounds, .int v_pinFrom, .int v_pinTimes, .int v_lines, .int v_wasTold, .int v_wasBarred, .int v_goesNow, .int v_jamsNow, .ref (a 50), .ref (a 51), .ref (a 52), .int v_queued, .ref (a 54), .ref (a 55), .ref (a 56), .int v_isKept])
theorem inX0 : ∀ w ∈ u_ws RX0 TX0 7, w ∈ lw_g := by
  have h : ∀ w ∈ u_ws RX0 TX0 7, w ∈ lw_tbl ∧ goodWord w = true := by decide +kernel
  exact fun w hw => lg_in (h w hw).1 (h w hw).2
theorem inX1 : ∀ w ∈ u_ws RX1 TX1 3, w ∈ lw_g := by
  have h : ∀ w ∈ u_ws RX1 TX1 3, w ∈ lw_tbl ∧ goodWord w = true := by decide +kernel
  exact fun w hw => lg_in (h w hw).1 (h w hw).2
theorem inX2 : ∀ w ∈ u_ws RX2 TX2 9, w ∈ lw_g := by
  have h : ∀ w ∈ u_ws RX2 TX2 9, w ∈ lw_tbl ∧ goodWord w = true := by decide +kernel
  exact fun w hw => lg_in (h w hw).1 (h w hw).2
theorem inX3 : ∀ w ∈ u_ws RX3 TX3 2, w ∈ lw_g := by
  have h : ∀ w ∈ u_ws RX3 TX3 2, w ∈ lw_tbl ∧ goodWord w = true := by decide +kernel
  exact fun w hw => lg_in (h w hw).1 (h w hw).2
theorem inX4 : ∀ w ∈ u_ws RX4 TX4 8, w ∈ lw_g := by
  have h : ∀ w ∈ u_ws RX4 TX4 8, w ∈ lw_tbl ∧ goodWord w = true := by decide +kernel
  exact fun w hw => lg_in (h w hw).1 (h w hw).2
theorem inX6 : ∀ w ∈ u_ws RX6 TX6 5, w ∈ lw_g := by
  have h : ∀ w ∈ u_ws RX6 TX6 5, w ∈ lw_tbl ∧ goodWord w = true := by decide +kernel
  exact fun w hw => lg_in (h w hw).1 (h w hw).2
theorem inX7 : ∀ w ∈ u_ws RX7 TX7 5, w ∈ lw_g := by
  have h : ∀ w ∈ u_ws RX7 TX7 5, w ∈ lw_tbl ∧ goodWord w = true := by decide +kernel
  exact fun w hw => lg_in (h w hw).1 (h w hw).2
theorem inX8 : ∀ w ∈ u_ws RX8 TX8 2, w ∈ lw_g := by
  have h : ∀ w ∈ u_ws RX8 TX8 2, w ∈ lw_tbl ∧ goodWord w = true := by decide +kernel
  exact fun w hw => lg_in (h w hw).1 (h w hw).2
theorem inX9 : ∀ w ∈ u_ws RX9 TX9 7, w ∈ lw_g := by
  have h : ∀ w ∈ u_ws RX9 TX9 7, w ∈ lw_tbl ∧ goodWord w = true := by decide +kernel
  exact fun w hw => lg_in (h w hw).1 (h w hw).2
theorem inX10 : ∀ w ∈ u_ws RX10 TX10 3, w ∈ lw_g := by
  have h : ∀ w ∈ u_ws RX10 TX10 3, w ∈ lw_tbl ∧ goodWord w = true := by decide +kernel
  exact fun w hw => lg_in (h w hw).1 (h w hw).2
theorem inX11 : ∀ w ∈ u_ws RX11 TX11 14, w ∈ lw_g := by
  have h : ∀ w ∈ u_ws RX11 TX11 14, w ∈ lw_tbl ∧ goodWord w = true := by decide +kernel
  exact fun w hw => lg_in (h w hw).1 (h w hw).2
theorem inX12 : ∀ w ∈ u_ws RX12 TX12 58, w ∈ lw_g := by
  have h : ∀ w ∈ u_ws RX12 TX12 58, w ∈ lw_tbl ∧ goodWord w = true := by decide +kernel
  exact fun w hw => lg_in (h w hw).1 (h w hw).2
theorem fl_X0_15 : FL RX0 15 0 1 := ⟨(RX0, TX0, 7), tyX0, rfl, inX0, by decide, lg_in (List.mem_of_getElem? (i := 222) (by decide +kernel)) rfl, tyX0_ok, nmX0⟩
theorem fl_X0_18 : FL RX0 18 0 2 := ⟨(RX0, TX0, 7), tyX0, rfl, inX0, by decide, lg_in (List.mem_of_getElem? (i := 225) (by decide +kernel)) rfl, tyX0_ok, nmX0⟩
theorem fl_X0_21 : FL RX0 21 0 3 := ⟨(RX0, TX0, 7), tyX0, rfl, inX0, by decide, lg_in (List.mem_of_getElem? (i := 227) (by decide +kernel)) rfl, tyX0_ok, nmX0⟩
theorem fl_X0_24 : FL RX0 24 0 4 := ⟨(RX0, TX0, 7), tyX0, rfl, inX0, by decide, lg_in (List.mem_of_getElem? (i := 231) (by decide +kernel)) rfl, tyX0_ok, nmX0⟩
theorem fl_X0_27 : FL RX0 27 0 5 := ⟨(RX0, TX0, 7), tyX0, rfl, inX0, by decide, lg_in (List.mem_of_getElem? (i := 233) (by decide +kernel)) rfl, tyX0_ok, nmX0⟩
theorem fl_X0_31 : FL RX0 31 0 6 := ⟨(RX0, TX0, 7), tyX0, rfl, inX0, by decide, lg_in (List.mem_of_getElem? (i := 235) (by decide +kernel)) rfl, tyX0_ok, nmX0⟩
theorem fl_X0_9 : FL RX0 9 0 0 := ⟨(RX0, TX0, 7), tyX0, rfl, inX0, by decide, lg_in (List.mem_of_getElem? (i := 219) (by decide +kernel)) rfl, tyX0_ok, nmX0⟩
theorem fl_X1_18 : FL RX1 18 1 0 := ⟨(RX1, TX1, 3), tyX1, rfl, inX1, by decide, lg_in (List.mem_of_getElem? (i := 170) (by decide +kernel)) rfl, tyX1_ok, nmX1⟩
theorem fl_X1_48 : FL RX1 48 6 3 := ⟨(RX7, TX7, 5), tyX7, rfl, inX7, by decide, lg_in (List.mem_of_getElem? (i := 150) (by decide +kernel)) rfl, tyX7_ok, nmX7⟩
theorem fl_X1_9 : FL RX1 9 1 1 := ⟨(RX1, TX1, 3), tyX1, rfl, inX1, by decide, lg_in (List.mem_of_getElem? (i := 171) (by decide +kernel)) rfl, tyX1_ok, nmX1⟩
theorem fl_X10_15 : FL RX10 15 9 1 := ⟨(RX10, TX10, 3), tyX10, rfl, inX10, by decide, lg_in (List.mem_of_getElem? (i := 296) (by decide +kernel)) rfl, tyX10_ok, nmX10⟩
theorem fl_X10_19 : FL RX10 19 9 2 := ⟨(RX10, TX10, 3), tyX10, rfl, inX10, by decide, lg_in (List.mem_of_getElem? (i := 298) (by decide +kernel)) rfl, tyX10_ok, nmX10⟩
theorem fl_X10_22 : FL RX10 22 8 5 := ⟨(RX9, TX9, 7), tyX9, rfl, inX9, by decide, lg_in (List.mem_of_getElem? (i := 269) (by decide +kernel)) rfl, tyX9_ok, nmX9⟩
theorem fl_X10_68 : FL RX10 68 8 0 := ⟨(RX9, TX9, 7), tyX9, rfl, inX9, by decide, lg_in (List.mem_of_getElem? (i := 259) (by decide +kernel)) rfl, tyX9_ok, nmX9⟩
theorem fl_X10_77 : FL RX10 77 8 1 := ⟨(RX9, TX9, 7), tyX9, rfl, inX9, by decide, lg_in (List.mem_of_getElem? (i := 262) (by decide +kernel)) rfl, tyX9_ok, nmX9⟩
theorem fl_X10_9 : FL RX10 9 9 0 := ⟨(RX10, TX10, 3), tyX10, rfl, inX10, by decide, lg_in (List.mem_of_getElem? (i := 295) (by decide +kernel)) rfl, tyX10_ok, nmX10⟩
theorem fl_X10_93 : FL RX10 93 0 3 := ⟨(RX0, TX0, 7), tyX0, rfl, inX0, by decide, lg_in (List.mem_of_getElem? (i := 229) (by decide +kernel)) rfl, tyX0_ok, nmX0⟩
theorem fl_X11_10 : FL RX11 10 10 0 := ⟨(RX11, TX11, 14), tyX11, rfl, inX11, by decide, lg_in (List.mem_of_getElem? (i := 379) (by decide +kernel)) rfl, tyX11_ok, nmX11⟩
theorem fl_X11_106 : FL RX11 106 7 1 := ⟨(RX8, TX8, 2), tyX8, rfl, inX8, by decide, lg_in (List.mem_of_getElem? (i := 127) (by decide +kernel)) rfl, tyX8_ok, nmX8⟩
theorem fl_X11_128 : FL RX11 128 6 4 := ⟨(RX7, TX7, 5), tyX7, rfl, inX7, by decide, lg_in (List.mem_of_getElem? (i := 152) (by decide +kernel)) rfl, tyX7_ok, nmX7⟩
theorem fl_X11_131 : FL RX11 131 2 8 := ⟨(RX2, TX2, 9), tyX2, rfl, inX2, by decide, lg_in (List.mem_of_getElem? (i := 346) (by decide +kernel)) rfl, tyX2_ok, nmX2⟩
theorem fl_X11_152 : FL RX11 152 0 5 := ⟨(RX0, TX0, 7), tyX0, rfl, inX0, by decide, lg_in (List.mem_of_getElem? (i := 234) (by decide +kernel)) rfl, tyX0_ok, nmX0⟩
theorem fl_X11_161 : FL RX11 161 4 6 := ⟨(RX4, TX4, 8), tyX4, rfl, inX4, by decide, lg_in (List.mem_of_getElem? (i := 194) (by decide +kernel)) rfl, tyX4_ok, nmX4⟩
theorem fl_X11_168 : FL RX11 168 9 1 := ⟨(RX10, TX10, 3), tyX10, rfl, inX10, by decide, lg_in (List.mem_of_getElem? (i := 297) (by decide +kernel)) rfl, tyX10_ok, nmX10⟩
theorem fl_X11_175 : FL RX11 175 8 2 := ⟨(RX9, TX9, 7), tyX9, rfl, inX9, by decide, lg_in (List.mem_of_getElem? (i := 264) (by decide +kernel)) rfl, tyX9_ok, nmX9⟩
theorem fl_X11_178 : FL RX11 178 8 3 := ⟨(RX9, TX9, 7), tyX9, rfl, inX9, by decide, lg_in (List.mem_of_getElem? (i := 266) (by decide +kernel)) rfl, tyX9_ok, nmX9⟩
theorem fl_X11_192 : FL RX11 192 9 2 := ⟨(RX10, TX10, 3), tyX10, rfl, inX10, by decide, lg_in (List.mem_of_getElem? (i := 299) (by decide +kernel)) rfl, tyX10_ok, nmX10⟩
theorem fl_X11_203 : FL RX11 203 0 0 := ⟨(RX0, TX0, 7), tyX0, rfl, inX0, by decide, lg_in (List.mem_of_getElem? (i := 221) (by decide +kernel)) rfl, tyX0_ok, nmX0⟩
theorem fl_X11_206 : FL RX11 206 0 1 := ⟨(RX0, TX0, 7), tyX0, rfl, inX0, by decide, lg_in (List.mem_of_getElem? (i := 224) (by decide +kernel)) rfl, tyX0_ok, nmX0⟩
theorem fl_X11_209 : FL RX11 209 0 2 := ⟨(RX0, TX0, 7), tyX0, rfl, inX0, by decide, lg_in (List.mem_of_getElem? (i := 226) (by decide +kernel)) rfl, tyX0_ok, nmX0⟩
theorem fl_X11_21 : FL RX11 21 10 1 := ⟨(RX11, TX11, 14), tyX11, rfl, inX11, by decide, lg_in (List.mem_of_getElem? (i := 380) (by decide +kernel)) rfl, tyX11_ok, nmX11⟩
theorem fl_X11_212 : FL RX11 212 0 6 := ⟨(RX0, TX0, 7), tyX0, rfl, inX0, by decide, lg_in (List.mem_of_getElem? (i := 236) (by decide +kernel)) rfl, tyX0_ok, nmX0⟩
theorem fl_X11_215 : FL RX11 215 8 0 := ⟨(RX9, TX9, 7), tyX9, rfl, inX9, by decide, lg_in (List.mem_of_getElem? (i := 260) (by decide +kernel)) rfl, tyX9_ok, nmX9⟩
theorem fl_X11_218 : FL RX11 218 0 3 := ⟨(RX0, TX0, 7), tyX0, rfl, inX0, by decide, lg_in (List.mem_of_getElem? (i := 230) (by decide +kernel)) rfl, tyX0_ok, nmX0⟩
theorem fl_X11_221 : FL RX11 221 0 4 := ⟨(RX0, TX0, 7), tyX0, rfl, inX0, by decide, lg_in (List.mem_of_getElem? (i := 232) (by decide +kernel)) rfl, tyX0_ok, nmX0⟩
theorem fl_X11_310 : FL RX11 310 8 6 := ⟨(RX9, TX9, 7), tyX9, rfl, inX9, by decide, lg_in (List.mem_of_getElem? (i := 273) (by decide +kernel)) rfl, tyX9_ok, nmX9⟩
theorem fl_X11_313 : FL RX11 313 8 5 := ⟨(RX9, TX9, 7), tyX9, rfl, inX9, by decide, lg_in (List.mem_of_getElem? (i := 271) (by decide +kernel)) rfl, tyX9_ok, nmX9⟩
theorem fl_X11_319 : FL RX11 319 8 4 := ⟨(RX9, TX9, 7), tyX9, rfl, inX9, by decide, lg_in (List.mem_of_getElem? (i := 268) (by decide +kernel)) rfl, tyX9_ok, nmX9⟩
theorem fl_X11_37 : FL RX11 37 10 3 := ⟨(RX11, TX11, 14), tyX11, rfl, inX11, by decide, lg_in (List.mem_of_getElem? (i := 382) (by decide +kernel)) rfl, tyX11_ok, nmX11⟩
theorem fl_X11_44 : FL RX11 44 10 5 := ⟨(RX11, TX11, 14), tyX11, rfl, inX11, by decide, lg_in (List.mem_of_getElem? (i := 384) (by decide +kernel)) rfl, tyX11_ok, nmX11⟩
theorem fl_X11_51 : FL RX11 51 10 6 := ⟨(RX11, TX11, 14), tyX11, rfl, inX11, by decide, lg_in (List.mem_of_getElem? (i := 385) (by decide +kernel)) rfl, tyX11_ok, nmX11⟩
theorem fl_X11_55 : FL RX11 55 10 7 := ⟨(RX11, TX11, 14), tyX11, rfl, inX11, by decide, lg_in (List.mem_of_getElem? (i := 386) (by decide +kernel)) rfl, tyX11_ok, nmX11⟩
theorem fl_X11_58 : FL RX11 58 10 8 := ⟨(RX11, TX11, 14), tyX11, rfl, inX11, by decide, lg_in (List.mem_of_getElem? (i := 387) (by decide +kernel)) rfl, tyX11_ok, nmX11⟩
theorem fl_X11_64 : FL RX11 64 10 9 := ⟨(RX11, TX11, 14), tyX11, rfl, inX11, by decide, lg_in (List.mem_of_getElem? (i := 388) (by decide +kernel)) rfl, tyX11_ok, nmX11⟩
theorem fl_X11_71 : FL RX11 71 10 10 := ⟨(RX11, TX11, 14), tyX11, rfl, inX11, by decide, lg_in (List.mem_of_getElem? (i := 389) (by decide +kernel)) rfl, tyX11_ok, nmX11⟩
theorem fl_X11_78 : FL RX11 78 10 11 := ⟨(RX11, TX11, 14), tyX11, rfl, inX11, by decide, lg_in (List.mem_of_getElem? (i := 390) (by decide +kernel)) rfl, tyX11_ok, nmX11⟩
theorem fl_X11_94 : FL RX11 94 10 13 := ⟨(RX11, TX11, 14), tyX11, rfl, inX11, by decide, lg_in (List.mem_of_getElem? (i := 392) (by decide +kernel)) rfl, tyX11_ok, nmX11⟩
theorem fl_X12_102 : FL RX12 102 11 51 := ⟨(RX12, TX12, 58), tyX12, rfl, inX12, by decide, lg_in (List.mem_of_getElem? (i := 1088) (by decide +kernel)) rfl, tyX12_ok, nmX12⟩
theorem fl_X12_105 : FL RX12 105 11 52 := ⟨(RX12, TX12, 58), tyX12, rfl, inX12, by decide, lg_in (List.mem_of_getElem? (i := 1089) (by decide +kernel)) rfl, tyX12_ok, nmX12⟩
theorem fl_X12_108 : FL RX12 108 11 54 := ⟨(RX12, TX12, 58), tyX12, rfl, inX12, by decide, lg_in (List.mem_of_getElem? (i := 1091) (by decide +kernel)) rfl, tyX12_ok, nmX12⟩
theorem fl_X12_111 : FL RX12 111 11 55 := ⟨(RX12, TX12, 58), tyX12, rfl, inX12, by decide, lg_in (List.mem_of_getElem? (i := 1092) (by decide +kernel)) rfl, tyX12_ok, nmX12⟩
theorem fl_X12_114 : FL RX12 114 11 56 := ⟨(RX12, TX12, 58), tyX12, rfl, inX12, by decide, lg_in (List.mem_of_getElem? (i := 1093) (by decide +kernel)) rfl, tyX12_ok, nmX12⟩
theorem fl_X12_121 : FL RX12 121 11 11 := ⟨(RX12, TX12, 58), tyX12, rfl, inX12, by decide, lg_in (List.mem_of_getElem? (i := 1048) (by decide +kernel)) rfl, tyX12_ok, nmX12⟩
theorem fl_X12_13 : FL RX12 13 11 1 := ⟨(RX12, TX12, 58), tyX12, rfl, inX12, by decide, lg_in (List.mem_of_getElem? (i := 1038) (by decide +kernel)) rfl, tyX12_ok, nmX12⟩
theorem fl_X12_133 : FL RX12 133 11 12 := ⟨(RX12, TX12, 58), tyX12, rfl, inX12, by decide, lg_in (List.mem_of_getElem? (i := 1049) (by decide +kernel)) rfl, tyX12_ok, nmX12⟩
theorem fl_X12_139 : FL RX12 139 11 14 := ⟨(RX12, TX12, 58), tyX12, rfl, inX12, by decide, lg_in (List.mem_of_getElem? (i := 1051) (by decide +kernel)) rfl, tyX12_ok, nmX12⟩
theorem fl_X12_146 : FL RX12 146 11 15 := ⟨(RX12, TX12, 58), tyX12, rfl, inX12, by decide, lg_in (List.mem_of_getElem? (i := 1052) (by decide +kernel)) rfl, tyX12_ok, nmX12⟩
theorem fl_X12_149 : FL RX12 149 11 16 := ⟨(RX12, TX12, 58), tyX12, rfl, inX12, by decide, lg_in (List.mem_of_getElem? (i := 1053) (by decide +kernel)) rfl, tyX12_ok, nmX12⟩
theorem fl_X12_156 : FL RX12 156 11 17 := ⟨(RX12, TX12, 58), tyX12, rfl, inX12, by decide, lg_in (List.mem_of_getElem? (i := 1054) (by decide +kernel)) rfl, tyX12_ok, nmX12⟩
theorem fl_X12_16 : FL RX12 16 11 2 := ⟨(RX12, TX12, 58), tyX12, rfl, inX12, by decide, lg_in (List.mem_of_getElem? (i := 1039) (by decide +kernel)) rfl, tyX12_ok, nmX12⟩
theorem fl_X12_162 : FL RX12 162 11 18 := ⟨(RX12, TX12, 58), tyX12, rfl, inX12, by decide, lg_in (List.mem_of_getElem? (i := 1055) (by decide +kernel)) rfl, tyX12_ok, nmX12⟩
theorem fl_X12_169 : FL RX12 169 11 20 := ⟨(RX12, TX12, 58), tyX12, rfl, inX12, by decide, lg_in (List.mem_of_getElem? (i := 1057) (by decide +kernel)) rfl, tyX12_ok, nmX12⟩
theorem fl_X12_173 : FL RX12 173 11 19 := ⟨(RX12, TX12, 58), tyX12, rfl, inX12, by decide, lg_in (List.mem_of_getElem? (i := 1056) (by decide +kernel)) rfl, tyX12_ok, nmX12⟩
theorem fl_X12_176 : FL RX12 176 11 21 := ⟨(RX12, TX12, 58), tyX12, rfl, inX12, by decide, lg_in (List.mem_of_getElem? (i := 1058) (by decide +kernel)) rfl, tyX12_ok, nmX12⟩
theorem fl_X12_19 : FL RX12 19 11 3 := ⟨(RX12, TX12, 58), tyX12, rfl, inX12, by decide, lg_in (List.mem_of_getElem? (i := 1040) (by decide +kernel)) rfl, tyX12_ok, nmX12⟩
theorem fl_X12_22 : FL RX12 22 11 4 := ⟨(RX12, TX12, 58), tyX12, rfl, inX12, by decide, lg_in (List.mem_of_getElem? (i := 1041) (by decide +kernel)) rfl, tyX12_ok, nmX12⟩
theorem fl_X12_224 : FL RX12 224 11 22 := ⟨(RX12, TX12, 58), tyX12, rfl, inX12, by decide, lg_in (List.mem_of_getElem? (i := 1059) (by decide +kernel)) rfl, tyX12_ok, nmX12⟩
theorem fl_X12_239 : FL RX12 239 11 23 := ⟨(RX12, TX12, 58), tyX12, rfl, inX12, by decide, lg_in (List.mem_of_getElem? (i := 1060) (by decide +kernel)) rfl, tyX12_ok, nmX12⟩
theorem fl_X12_25 : FL RX12 25 11 5 := ⟨(RX12, TX12, 58), tyX12, rfl, inX12, by decide, lg_in (List.mem_of_getElem? (i := 1042) (by decide +kernel)) rfl, tyX12_ok, nmX12⟩
theorem fl_X12_250 : FL RX12 250 11 43 := ⟨(RX12, TX12, 58), tyX12, rfl, inX12, by decide, lg_in (List.mem_of_getElem? (i := 1080) (by decide +kernel)) rfl, tyX12_ok, nmX12⟩
theorem fl_X12_253 : FL RX12 253 11 44 := ⟨(RX12, TX12, 58), tyX12, rfl, inX12, by decide, lg_in (List.mem_of_getElem? (i := 1081) (by decide +kernel)) rfl, tyX12_ok, nmX12⟩
theorem fl_X12_256 : FL RX12 256 11 41 := ⟨(RX12, TX12, 58), tyX12, rfl, inX12, by decide, lg_in (List.mem_of_getElem? (i := 1078) (by decide +kernel)) rfl, tyX12_ok, nmX12⟩
theorem fl_X12_262 : FL RX12 262 11 42 := ⟨(RX12, TX12, 58), tyX12, rfl, inX12, by decide, lg_in (List.mem_of_getElem? (i := 1079) (by decide +kernel)) rfl, tyX12_ok, nmX12⟩
theorem fl_X12_28 : FL RX12 28 11 6 := ⟨(RX12, TX12, 58), tyX12, rfl, inX12, by decide, lg_in (List.mem_of_getElem? (i := 1043) (by decide +kernel)) rfl, tyX12_ok, nmX12⟩
theorem fl_X12_283 : FL RX12 283 11 45 := ⟨(RX12, TX12, 58), tyX12, rfl, inX12, by decide, lg_in (List.mem_of_getElem? (i := 1082) (by decide +kernel)) rfl, tyX12_ok, nmX12⟩
theorem fl_X12_292 : FL RX12 292 11 46 := ⟨(RX12, TX12, 58), tyX12, rfl, inX12, by decide, lg_in (List.mem_of_getElem? (i := 1083) (by decide +kernel)) rfl, tyX12_ok, nmX12⟩
theorem fl_X12_295 : FL RX12 295 11 47 := ⟨(RX12, TX12, 58), tyX12, rfl, inX12, by decide, lg_in (List.mem_of_getElem? (i := 1084) (by decide +kernel)) rfl, tyX12_ok, nmX12⟩
theorem fl_X12_31 : FL RX12 31 11 7 := ⟨(RX12, TX12, 58), tyX12, rfl, inX12, by decide, lg_in (List.mem_of_getElem? (i := 1044) (by decide +kernel)) rfl, tyX12_ok, nmX12⟩
theorem fl_X12_34 : FL RX12 34 11 8 := ⟨(RX12, TX12, 58), tyX12, rfl, inX12, by decide, lg_in (List.mem_of_getElem? (i := 1045) (by decide +kernel)) rfl, tyX12_ok, nmX12⟩
theorem fl_X12_348 : FL RX12 348 11 49 := ⟨(RX12, TX12, 58), tyX12, rfl, inX12, by decide, lg_in (List.mem_of_getElem? (i := 1086) (by decide +kernel)) rfl, tyX12_ok, nmX12⟩
theorem fl_X12_351 : FL RX12 351 11 48 := ⟨(RX12, TX12, 58), tyX12, rfl, inX12, by decide, lg_in (List.mem_of_getElem? (i := 1085) (by decide +kernel)) rfl, tyX12_ok, nmX12⟩
theorem fl_X12_367 : FL RX12 367 11 53 := ⟨(RX12, TX12, 58), tyX12, rfl, inX12, by decide, lg_in (List.mem_of_getElem? (i := 1090) (by decide +kernel)) rfl, tyX12_ok, nmX12⟩
theorem fl_X12_37 : FL RX12 37 11 9 := ⟨(RX12, TX12, 58), tyX12, rfl, inX12, by decide, lg_in (List.mem_of_getElem? (i := 1046) (by decide +kernel)) rfl, tyX12_ok, nmX12⟩
theorem fl_X12_40 : FL RX12 40 11 10 := ⟨(RX12, TX12, 58), tyX12, rfl, inX12, by decide, lg_in (List.mem_of_getElem? (i := 1047) (by decide +kernel)) rfl, tyX12_ok, nmX12⟩
theorem fl_X12_409 : FL RX12 409 11 57 := ⟨(RX12, TX12, 58), tyX12, rfl, inX12, by decide, lg_in (List.mem_of_getElem? (i := 1094) (by decide +kernel)) rfl, tyX12_ok, nmX12⟩
theorem fl_X12_43 : FL RX12 43 11 13 := ⟨(RX12, TX12, 58), tyX12, rfl, inX12, by decide, lg_in (List.mem_of_getElem? (i := 1050) (by decide +kernel)) rfl, tyX12_ok, nmX12⟩
theorem fl_X12_47 : FL RX12 47 11 24 := ⟨(RX12, TX12, 58), tyX12, rfl, inX12, by decide, lg_in (List.mem_of_getElem? (i := 1061) (by decide +kernel)) rfl, tyX12_ok, nmX12⟩
theorem fl_X12_50 : FL RX12 50 11 25 := ⟨(RX12, TX12, 58), tyX12, rfl, inX12, by decide, lg_in (List.mem_of_getElem? (i := 1062) (by decide +kernel)) rfl, tyX12_ok, nmX12⟩
theorem fl_X12_53 : FL RX12 53 11 26 := ⟨(RX12, TX12, 58), tyX12, rfl, inX12, by decide, lg_in (List.mem_of_getElem? (i := 1063) (by decide +kernel)) rfl, tyX12_ok, nmX12⟩
theorem fl_X12_56 : FL RX12 56 11 27 := ⟨(RX12, TX12, 58), tyX12, rfl, inX12, by decide, lg_in (List.mem_of_getElem? (i := 1064) (by decide +kernel)) rfl, tyX12_ok, nmX12⟩
theorem fl_X12_59 : FL RX12 59 11 28 := ⟨(RX12, TX12, 58), tyX12, rfl, inX12, by decide, lg_in (List.mem_of_getElem? (i := 1065) (by decide +kernel)) rfl, tyX12_ok, nmX12⟩
theorem fl_X12_62 : FL RX12 62 11 29 := ⟨(RX12, TX12, 58), tyX12, rfl, inX12, by decide, lg_in (List.mem_of_getElem? (i := 1066) (by decide +kernel)) rfl, tyX12_ok, nmX12⟩
theorem fl_X12_65 : FL RX12 65 11 30 := ⟨(RX12, TX12, 58), tyX12, rfl, inX12, by decide, lg_in (List.mem_of_getElem? (i := 1067) (by decide +kernel)) rfl, tyX12_ok, nmX12⟩
theorem fl_X12_68 : FL RX12 68 11 31 := ⟨(RX12, TX12, 58), tyX12, rfl, inX12, by decide, lg_in (List.mem_of_getElem? (i := 1068) (by decide +kernel)) rfl, tyX12_ok, nmX12⟩
theorem fl_X12_7 : FL RX12 7 11 0 := ⟨(RX12, TX12, 58), tyX12, rfl, inX12, by decide, lg_in (List.mem_of_getElem? (i := 1037) (by decide +kernel)) rfl, tyX12_ok, nmX12⟩
theorem fl_X12_71 : FL RX12 71 11 32 := ⟨(RX12, TX12, 58), tyX12, rfl, inX12, by decide, lg_in (List.mem_of_getElem? (i := 1069) (by decide +kernel)) rfl, tyX12_ok, nmX12⟩
theorem fl_X12_74 : FL RX12 74 11 33 := ⟨(RX12, TX12, 58), tyX12, rfl, inX12, by decide, lg_in (List.mem_of_getElem? (i := 1070) (by decide +kernel)) rfl, tyX12_ok, nmX12⟩
theorem fl_X12_77 : FL RX12 77 11 34 := ⟨(RX12, TX12, 58), tyX12, rfl, inX12, by decide, lg_in (List.mem_of_getElem? (i := 1071) (by decide +kernel)) rfl, tyX12_ok, nmX12⟩
theorem fl_X12_80 : FL RX12 80 11 35 := ⟨(RX12, TX12, 58), tyX12, rfl, inX12, by decide, lg_in (List.mem_of_getElem? (i := 1072) (by decide +kernel)) rfl, tyX12_ok, nmX12⟩
theorem fl_X12_83 : FL RX12 83 11 36 := ⟨(RX12, TX12, 58), tyX12, rfl, inX12, by decide, lg_in (List.mem_of_getElem? (i := 1073) (by decide +kernel)) rfl, tyX12_ok, nmX12⟩
theorem fl_X12_86 : FL RX12 86 11 37 := ⟨(RX12, TX12, 58), tyX12, rfl, inX12, by decide, lg_in (List.mem_of_getElem? (i := 1074) (by decide +kernel)) rfl, tyX12_ok, nmX12⟩
theorem fl_X12_89 : FL RX12 89 11 38 := ⟨(RX12, TX12, 58), tyX12, rfl, inX12, by decide, lg_in (List.mem_of_getElem? (i := 1075) (by decide +kernel)) rfl, tyX12_ok, nmX12⟩
theorem fl_X12_92 : FL RX12 92 11 39 := ⟨(RX12, TX12, 58), tyX12, rfl, inX12, by decide, lg_in (List.mem_of_getElem? (i := 1076) (by decide +kernel)) rfl, tyX12_ok, nmX12⟩
theorem fl_X12_95 : FL RX12 95 11 40 := ⟨(RX12, TX12, 58), tyX12, rfl, inX12, by decide, lg_in (List.mem_of_getElem? (i := 1077) (by decide +kernel)) rfl, tyX12_ok, nmX12⟩
theorem fl_X12_99 : FL RX12 99 11 50 := ⟨(RX12, TX12, 58), tyX12, rfl, inX12, by decide, lg_in (List.mem_of_getElem? (i := 1087) (by decide +kernel)) rfl, tyX12_ok, nmX12⟩
theorem fl_X2_11 : FL RX2 11 2 0 := ⟨(RX2, TX2, 9), tyX2, rfl, inX2, by decide, lg_in (List.mem_of_getElem? (i := 335) (by decide +kernel)) rfl, tyX2_ok, nmX2⟩
theorem fl_X2_15 : FL RX2 15 2 1 := ⟨(RX2, TX2, 9), tyX2, rfl, inX2, by decide, lg_in (List.mem_of_getElem? (i := 336) (by decide +kernel)) rfl, tyX2_ok, nmX2⟩
theorem fl_X2_18 : FL RX2 18 2 2 := ⟨(RX2, TX2, 9), tyX2, rfl, inX2, by decide, lg_in (List.mem_of_getElem? (i := 337) (by decide +kernel)) rfl, tyX2_ok, nmX2⟩
theorem fl_X2_21 : FL RX2 21 2 3 := ⟨(RX2, TX2, 9), tyX2, rfl, inX2, by decide, lg_in (List.mem_of_getElem? (i := 338) (by decide +kernel)) rfl, tyX2_ok, nmX2⟩
theorem fl_X2_24 : FL RX2 24 2 4 := ⟨(RX2, TX2, 9), tyX2, rfl, inX2, by decide, lg_in (List.mem_of_getElem? (i := 339) (by decide +kernel)) rfl, tyX2_ok, nmX2⟩
theorem fl_X2_27 : FL RX2 27 2 5 := ⟨(RX2, TX2, 9), tyX2, rfl, inX2, by decide, lg_in (List.mem_of_getElem? (i := 340) (by decide +kernel)) rfl, tyX2_ok, nmX2⟩
theorem fl_X2_30 : FL RX2 30 2 6 := ⟨(RX2, TX2, 9), tyX2, rfl, inX2, by decide, lg_in (List.mem_of_getElem? (i := 341) (by decide +kernel)) rfl, tyX2_ok, nmX2⟩
theorem fs_X2_33 : Cond.fieldLink RX2 33 RX2 "LETTERS" "[C" ∈ lw_g := lg_in (List.mem_of_getElem? (i := 490) (by decide +kernel)) rfl
theorem fl_X2_37 : FL RX2 37 2 7 := ⟨(RX2, TX2, 9), tyX2, rfl, inX2, by decide, lg_in (List.mem_of_getElem? (i := 342) (by decide +kernel)) rfl, tyX2_ok, nmX2⟩
theorem fl_X2_41 : FL RX2 41 2 8 := ⟨(RX2, TX2, 9), tyX2, rfl, inX2, by decide, lg_in (List.mem_of_getElem? (i := 344) (by decide +kernel)) rfl, tyX2_ok, nmX2⟩
theorem fl_X3_44 : FL RX3 44 6 2 := ⟨(RX7, TX7, 5), tyX7, rfl, inX7, by decide, lg_in (List.mem_of_getElem? (i := 144) (by decide +kernel)) rfl, tyX7_ok, nmX7⟩
theorem fl_X3_9 : FL RX3 9 3 0 := ⟨(RX3, TX3, 2), tyX3, rfl, inX3, by decide, lg_in (List.mem_of_getElem? (i := 372) (by decide +kernel)) rfl, tyX3_ok, nmX3⟩
theorem fl_X4_15 : FL RX4 15 4 2 := ⟨(RX4, TX4, 8), tyX4, rfl, inX4, by decide, lg_in (List.mem_of_getElem? (i := 189) (by decide +kernel)) rfl, tyX4_ok, nmX4⟩
theorem fl_X4_18 : FL RX4 18 4 3 := ⟨(RX4, TX4, 8), tyX4, rfl, inX4, by decide, lg_in (List.mem_of_getElem? (i := 190) (by decide +kernel)) rfl, tyX4_ok, nmX4⟩
theorem fl_X4_21 : FL RX4 21 4 4 := ⟨(RX4, TX4, 8), tyX4, rfl, inX4, by decide, lg_in (List.mem_of_getElem? (i := 191) (by decide +kernel)) rfl, tyX4_ok, nmX4⟩
theorem fl_X4_24 : FL RX4 24 4 5 := ⟨(RX4, TX4, 8), tyX4, rfl, inX4, by decide, lg_in (List.mem_of_getElem? (i := 192) (by decide +kernel)) rfl, tyX4_ok, nmX4⟩
theorem fl_X4_27 : FL RX4 27 4 0 := ⟨(RX4, TX4, 8), tyX4, rfl, inX4, by decide, lg_in (List.mem_of_getElem? (i := 187) (by decide +kernel)) rfl, tyX4_ok, nmX4⟩
theorem fl_X4_31 : FL RX4 31 4 6 := ⟨(RX4, TX4, 8), tyX4, rfl, inX4, by decide, lg_in (List.mem_of_getElem? (i := 193) (by decide +kernel)) rfl, tyX4_ok, nmX4⟩
theorem fl_X4_35 : FL RX4 35 4 7 := ⟨(RX4, TX4, 8), tyX4, rfl, inX4, by decide, lg_in (List.mem_of_getElem? (i := 195) (by decide +kernel)) rfl, tyX4_ok, nmX4⟩
theorem fl_X4_54 : FL RX4 54 6 3 := ⟨(RX7, TX7, 5), tyX7, rfl, inX7, by decide, lg_in (List.mem_of_getElem? (i := 148) (by decide +kernel)) rfl, tyX7_ok, nmX7⟩
theorem fl_X4_64 : FL RX4 64 6 2 := ⟨(RX7, TX7, 5), tyX7, rfl, inX7, by decide, lg_in (List.mem_of_getElem? (i := 145) (by decide +kernel)) rfl, tyX7_ok, nmX7⟩
theorem fl_X4_9 : FL RX4 9 4 1 := ⟨(RX4, TX4, 8), tyX4, rfl, inX4, by decide, lg_in (List.mem_of_getElem? (i := 188) (by decide +kernel)) rfl, tyX4_ok, nmX4⟩
theorem fl_X6_15 : FL RX6 15 5 1 := ⟨(RX6, TX6, 5), tyX6, rfl, inX6, by decide, lg_in (List.mem_of_getElem? (i := 314) (by decide +kernel)) rfl, tyX6_ok, nmX6⟩
theorem fl_X6_18 : FL RX6 18 5 2 := ⟨(RX6, TX6, 5), tyX6, rfl, inX6, by decide, lg_in (List.mem_of_getElem? (i := 315) (by decide +kernel)) rfl, tyX6_ok, nmX6⟩
theorem fl_X6_21 : FL RX6 21 5 3 := ⟨(RX6, TX6, 5), tyX6, rfl, inX6, by decide, lg_in (List.mem_of_getElem? (i := 316) (by decide +kernel)) rfl, tyX6_ok, nmX6⟩
theorem fl_X6_40 : FL RX6 40 5 4 := ⟨(RX6, TX6, 5), tyX6, rfl, inX6, by decide, lg_in (List.mem_of_getElem? (i := 317) (by decide +kernel)) rfl, tyX6_ok, nmX6⟩
theorem fl_X6_54 : FL RX6 54 0 3 := ⟨(RX0, TX0, 7), tyX0, rfl, inX0, by decide, lg_in (List.mem_of_getElem? (i := 228) (by decide +kernel)) rfl, tyX0_ok, nmX0⟩
theorem fl_X6_57 : FL RX6 57 0 0 := ⟨(RX0, TX0, 7), tyX0, rfl, inX0, by decide, lg_in (List.mem_of_getElem? (i := 220) (by decide +kernel)) rfl, tyX0_ok, nmX0⟩
theorem fl_X6_60 : FL RX6 60 0 1 := ⟨(RX0, TX0, 7), tyX0, rfl, inX0, by decide, lg_in (List.mem_of_getElem? (i := 223) (by decide +kernel)) rfl, tyX0_ok, nmX0⟩
theorem fs_X6_79 : Cond.fieldLink RX6 79 RX6 "CHOOSE" "[I" ∈ lw_g := lg_in (List.mem_of_getElem? (i := 825) (by decide +kernel)) rfl
theorem fl_X6_9 : FL RX6 9 5 0 := ⟨(RX6, TX6, 5), tyX6, rfl, inX6, by decide, lg_in (List.mem_of_getElem? (i := 313) (by decide +kernel)) rfl, tyX6_ok, nmX6⟩
theorem fl_X7_15 : FL RX7 15 6 1 := ⟨(RX7, TX7, 5), tyX7, rfl, inX7, by decide, lg_in (List.mem_of_getElem? (i := 142) (by decide +kernel)) rfl, tyX7_ok, nmX7⟩
theorem fl_X7_19 : FL RX7 19 6 4 := ⟨(RX7, TX7, 5), tyX7, rfl, inX7, by decide, lg_in (List.mem_of_getElem? (i := 151) (by decide +kernel)) rfl, tyX7_ok, nmX7⟩
theorem fl_X7_22 : FL RX7 22 6 2 := ⟨(RX7, TX7, 5), tyX7, rfl, inX7, by decide, lg_in (List.mem_of_getElem? (i := 143) (by decide +kernel)) rfl, tyX7_ok, nmX7⟩
theorem fl_X7_28 : FL RX7 28 7 1 := ⟨(RX8, TX8, 2), tyX8, rfl, inX8, by decide, lg_in (List.mem_of_getElem? (i := 128) (by decide +kernel)) rfl, tyX8_ok, nmX8⟩
theorem fl_X7_33 : FL RX7 33 7 0 := ⟨(RX8, TX8, 2), tyX8, rfl, inX8, by decide, lg_in (List.mem_of_getElem? (i := 125) (by decide +kernel)) rfl, tyX8_ok, nmX8⟩
theorem fl_X7_37 : FL RX7 37 6 3 := ⟨(RX7, TX7, 5), tyX7, rfl, inX7, by decide, lg_in (List.mem_of_getElem? (i := 149) (by decide +kernel)) rfl, tyX7_ok, nmX7⟩
theorem fl_X7_9 : FL RX7 9 6 0 := ⟨(RX7, TX7, 5), tyX7, rfl, inX7, by decide, lg_in (List.mem_of_getElem? (i := 141) (by decide +kernel)) rfl, tyX7_ok, nmX7⟩
theorem fl_X8_15 : FL RX8 15 7 1 := ⟨(RX8, TX8, 2), tyX8, rfl, inX8, by decide, lg_in (List.mem_of_getElem? (i := 126) (by decide +kernel)) rfl, tyX8_ok, nmX8⟩
theorem fl_X8_9 : FL RX8 9 7 0 := ⟨(RX8, TX8, 2), tyX8, rfl, inX8, by decide, lg_in (List.mem_of_getElem? (i := 124) (by decide +kernel)) rfl, tyX8_ok, nmX8⟩
theorem fl_X9_15 : FL RX9 15 8 1 := ⟨(RX9, TX9, 7), tyX9, rfl, inX9, by decide, lg_in (List.mem_of_getElem? (i := 261) (by decide +kernel)) rfl, tyX9_ok, nmX9⟩
theorem fl_X9_18 : FL RX9 18 8 2 := ⟨(RX9, TX9, 7), tyX9, rfl, inX9, by decide, lg_in (List.mem_of_getElem? (i := 263) (by decide +kernel)) rfl, tyX9_ok, nmX9⟩
theorem fl_X9_21 : FL RX9 21 8 3 := ⟨(RX9, TX9, 7), tyX9, rfl, inX9, by decide, lg_in (List.mem_of_getElem? (i := 265) (by decide +kernel)) rfl, tyX9_ok, nmX9⟩
theorem fl_X9_24 : FL RX9 24 8 6 := ⟨(RX9, TX9, 7), tyX9, rfl, inX9, by decide, lg_in (List.mem_of_getElem? (i := 272) (by decide +kernel)) rfl, tyX9_ok, nmX9⟩
theorem fl_X9_34 : FL RX9 34 8 4 := ⟨(RX9, TX9, 7), tyX9, rfl, inX9, by decide, lg_in (List.mem_of_getElem? (i := 267) (by decide +kernel)) rfl, tyX9_ok, nmX9⟩
theorem fl_X9_37 : FL RX9 37 8 5 := ⟨(RX9, TX9, 7), tyX9, rfl, inX9, by decide, lg_in (List.mem_of_getElem? (i := 270) (by decide +kernel)) rfl, tyX9_ok, nmX9⟩
theorem fl_X9_9 : FL RX9 9 8 0 := ⟨(RX9, TX9, 7), tyX9, rfl, inX9, by decide, lg_in (List.mem_of_getElem? (i := 258) (by decide +kernel)) rfl, tyX9_ok, nmX9⟩
theorem ml_X0_38 : Cond.methodLink RX0 38 yX0_isTold ∈ lw_g := lg_in (List.mem_of_getElem? (i := 656) (by decide +kernel)) rfl
theorem ml_X0_42 : Cond.methodLink RX0 42 yX0_behind ∈ lw_g := lg_in (List.mem_of_getElem? (i := 717) (by decide +kernel)) rfl
theorem ml_X0_46 : Cond.methodLink RX0 46 yJ6_bitCount_0f7a4 ∈ lw_g := lg_in (List.mem_of_getElem? (i := 877) (by decide +kernel)) rfl
theorem ml_X0_52 : Cond.methodLink RX0 52 yX0_opensAll ∈ lw_g := lg_in (List.mem_of_getElem? (i := 878) (by decide +kernel)) rfl
theorem ml_X0_55 : Cond.methodLink RX0 55 yX0_unbarred ∈ lw_g := lg_in (List.mem_of_getElem? (i := 927) (by decide +kernel)) rfl
theorem ml_X0_59 : Cond.methodLink RX0 59 yX0_groupOf ∈ lw_g := lg_in (List.mem_of_getElem? (i := 928) (by decide +kernel)) rfl
theorem ml_X1_45 : Cond.methodLink RX1 45 yX7_isAtEnd ∈ lw_g := lg_in (List.mem_of_getElem? (i := 572) (by decide +kernel)) rfl
theorem ml_X10_102 : Cond.methodLink RX10 102 yX9_pinsOf ∈ lw_g := lg_in (List.mem_of_getElem? (i := 686) (by decide +kernel)) rfl
theorem ml_X10_105 : Cond.methodLink RX10 105 yJ6_numberOfTrailingZeros_0f7a4 ∈ lw_g := lg_in (List.mem_of_getElem? (i := 725) (by decide +kernel)) rfl
theorem ml_X10_110 : Cond.methodLink RX10 110 yX0_behind ∈ lw_g := lg_in (List.mem_of_getElem? (i := 729) (by decide +kernel)) rfl
theorem ml_X10_113 : Cond.methodLink RX10 113 yX9_pinsOfKind ∈ lw_g := lg_in (List.mem_of_getElem? (i := 730) (by decide +kernel)) rfl
theorem ml_X10_116 : Cond.methodLink RX10 116 yX9_inRoom ∈ lw_g := lg_in (List.mem_of_getElem? (i := 734) (by decide +kernel)) rfl
theorem ml_X10_119 : Cond.methodLink RX10 119 yJ6_bitCount_0f7a4 ∈ lw_g := lg_in (List.mem_of_getElem? (i := 738) (by decide +kernel)) rfl
theorem ml_X10_27 : Cond.methodLink RX10 27 yX9_isTold ∈ lw_g := lg_in (List.mem_of_getElem? (i := 672) (by decide +kernel)) rfl
theorem ml_X10_31 : Cond.methodLink RX10 31 yX10_step ∈ lw_g := lg_in (List.mem_of_getElem? (i := 673) (by decide +kernel)) rfl
theorem ml_X10_35 : Cond.methodLink RX10 35 yX10_knowWoman ∈ lw_g := lg_in (List.mem_of_getElem? (i := 677) (by decide +kernel)) rfl
theorem ml_X10_39 : Cond.methodLink RX10 39 yX2_isAnyTrue ∈ lw_g := lg_in (List.mem_of_getElem? (i := 687) (by decide +kernel)) rfl
theorem ml_X10_45 : Cond.methodLink RX10 45 yX10_chooseDoor ∈ lw_g := lg_in (List.mem_of_getElem? (i := 701) (by decide +kernel)) rfl
theorem ml_X10_49 : Cond.methodLink RX10 49 yX0_isTold ∈ lw_g := lg_in (List.mem_of_getElem? (i := 754) (by decide +kernel)) rfl
theorem ml_X10_52 : Cond.methodLink RX10 52 yX10_knowDoor ∈ lw_g := lg_in (List.mem_of_getElem? (i := 721) (by decide +kernel)) rfl
theorem ml_X10_56 : Cond.methodLink RX10 56 yX2_amountOf ∈ lw_g := lg_in (List.mem_of_getElem? (i := 744) (by decide +kernel)) rfl
theorem ml_X10_60 : Cond.methodLink RX10 60 yX9_takePin ∈ lw_g := lg_in (List.mem_of_getElem? (i := 755) (by decide +kernel)) rfl
theorem ml_X10_64 : Cond.methodLink RX10 64 yX9_draw ∈ lw_g := lg_in (List.mem_of_getElem? (i := 760) (by decide +kernel)) rfl
theorem ml_X10_71 : Cond.methodLink RX10 71 Lib.Math.min.name ∈ lw_g := lg_in (List.mem_of_getElem? (i := 765) (by decide +kernel)) rfl
theorem ml_X10_80 : Cond.methodLink RX10 80 yX9_kindsLeft ∈ lw_g := lg_in (List.mem_of_getElem? (i := 705) (by decide +kernel)) rfl
theorem ml_X10_84 : Cond.methodLink RX10 84 yX0_unbarred ∈ lw_g := lg_in (List.mem_of_getElem? (i := 709) (by decide +kernel)) rfl
theorem ml_X10_87 : Cond.methodLink RX10 87 yX9_roomOf ∈ lw_g := lg_in (List.mem_of_getElem? (i := 682) (by decide +kernel)) rfl
theorem ml_X10_90 : Cond.methodLink RX10 90 yX0_ofRoom ∈ lw_g := lg_in (List.mem_of_getElem? (i := 713) (by decide +kernel)) rfl
theorem ml_X10_96 : Cond.methodLink RX10 96 yJ7_fill_53178 ∈ lw_g := lg_in (List.mem_of_getElem? (i := 681) (by decide +kernel)) rfl
theorem ml_X11_102 : Cond.methodLink RX11 102 yX9_put ∈ lw_g := lg_in (List.mem_of_getElem? (i := 429) (by decide +kernel)) rfl
theorem ml_X11_110 : Cond.methodLink RX11 110 yX8_add ∈ lw_g := lg_in (List.mem_of_getElem? (i := 438) (by decide +kernel)) rfl
theorem ml_X11_114 : Cond.methodLink RX11 114 yX7_open ∈ lw_g := lg_in (List.mem_of_getElem? (i := 446) (by decide +kernel)) rfl
theorem ml_X11_121 : Cond.methodLink RX11 121 yX8_clear ∈ lw_g := lg_in (List.mem_of_getElem? (i := 543) (by decide +kernel)) rfl
theorem ml_X11_124 : Cond.methodLink RX11 124 yX7_isSound ∈ lw_g := lg_in (List.mem_of_getElem? (i := 547) (by decide +kernel)) rfl
theorem ml_X11_134 : Cond.methodLink RX11 134 yX9_isTold ∈ lw_g := lg_in (List.mem_of_getElem? (i := 552) (by decide +kernel)) rfl
theorem ml_X11_148 : Cond.methodLink RX11 148 yX9_pinsOf ∈ lw_g := lg_in (List.mem_of_getElem? (i := 598) (by decide +kernel)) rfl
theorem ml_X11_155 : Cond.methodLink RX11 155 yX4_read ∈ lw_g := lg_in (List.mem_of_getElem? (i := 606) (by decide +kernel)) rfl
theorem ml_X11_157 : Cond.methodLink RX11 157 yX4_carryOut ∈ lw_g := lg_in (List.mem_of_getElem? (i := 635) (by decide +kernel)) rfl
theorem ml_X11_164 : Cond.methodLink RX11 164 yX10_go ∈ lw_g := lg_in (List.mem_of_getElem? (i := 668) (by decide +kernel)) rfl
theorem ml_X11_171 : Cond.methodLink RX11 171 yX9_pinsOfAll ∈ lw_g := lg_in (List.mem_of_getElem? (i := 770) (by decide +kernel)) rfl
theorem ml_X11_179 : Cond.methodLink RX11 179 arraycopyName ∈ lw_g := lg_in (List.mem_of_getElem? (i := 774) (by decide +kernel)) rfl
theorem ml_X11_185 : Cond.methodLink RX11 185 yX11_canBeTried ∈ lw_g := lg_in (List.mem_of_getElem? (i := 779) (by decide +kernel)) rfl
theorem ml_X11_188 : Cond.methodLink RX11 188 yX9_copy ∈ lw_g := lg_in (List.mem_of_getElem? (i := 783) (by decide +kernel)) rfl
theorem ml_X11_195 : Cond.methodLink RX11 195 yX9_roomOf ∈ lw_g := lg_in (List.mem_of_getElem? (i := 787) (by decide +kernel)) rfl
theorem ml_X11_198 : Cond.methodLink RX11 198 yX9_pinsOfKind ∈ lw_g := lg_in (List.mem_of_getElem? (i := 792) (by decide +kernel)) rfl
theorem ml_X11_202 : Cond.methodLink RX11 202 yX0_isTold ∈ lw_g := lg_in (List.mem_of_getElem? (i := 797) (by decide +kernel)) rfl
theorem ml_X11_224 : Cond.methodLink RX11 224 yX6_spread ∈ lw_g := lg_in (List.mem_of_getElem? (i := 806) (by decide +kernel)) rfl
theorem ml_X11_228 : Cond.methodLink RX11 228 yX6_fewestTo ∈ lw_g := lg_in (List.mem_of_getElem? (i := 836) (by decide +kernel)) rfl
theorem ml_X11_231 : Cond.methodLink RX11 231 yX6_firstDoor ∈ lw_g := lg_in (List.mem_of_getElem? (i := 840) (by decide +kernel)) rfl
theorem ml_X11_235 : Cond.methodLink RX11 235 yX6_allRooms ∈ lw_g := lg_in (List.mem_of_getElem? (i := 854) (by decide +kernel)) rfl
theorem ml_X11_238 : Cond.methodLink RX11 238 yX0_unbarred ∈ lw_g := lg_in (List.mem_of_getElem? (i := 862) (by decide +kernel)) rfl
theorem ml_X11_241 : Cond.methodLink RX11 241 yX0_ofRoom ∈ lw_g := lg_in (List.mem_of_getElem? (i := 863) (by decide +kernel)) rfl
theorem ml_X11_244 : Cond.methodLink RX11 244 yX11_mostOpened ∈ lw_g := lg_in (List.mem_of_getElem? (i := 864) (by decide +kernel)) rfl
theorem ml_X11_247 : Cond.methodLink RX11 247 yX0_fewestKinds ∈ lw_g := lg_in (List.mem_of_getElem? (i := 873) (by decide +kernel)) rfl
theorem ml_X11_250 : Cond.methodLink RX11 250 yJ6_bitCount_0f7a4 ∈ lw_g := lg_in (List.mem_of_getElem? (i := 882) (by decide +kernel)) rfl
theorem ml_X11_255 : Cond.methodLink RX11 255 yX11_areDoorsWithKinds ∈ lw_g := lg_in (List.mem_of_getElem? (i := 891) (by decide +kernel)) rfl
theorem ml_X11_258 : Cond.methodLink RX11 258 yX11_whoBent ∈ lw_g := lg_in (List.mem_of_getElem? (i := 899) (by decide +kernel)) rfl
theorem ml_X11_261 : Cond.methodLink RX11 261 yX0_groupOf ∈ lw_g := lg_in (List.mem_of_getElem? (i := 919) (by decide +kernel)) rfl
theorem ml_X11_264 : Cond.methodLink RX11 264 yX0_groups ∈ lw_g := lg_in (List.mem_of_getElem? (i := 923) (by decide +kernel)) rfl
theorem ml_X11_267 : Cond.methodLink RX11 267 yX0_onlyWays ∈ lw_g := lg_in (List.mem_of_getElem? (i := 929) (by decide +kernel)) rfl
theorem ml_X11_270 : Cond.methodLink RX11 270 yJ6_numberOfTrailingZeros_0f7a4 ∈ lw_g := lg_in (List.mem_of_getElem? (i := 933) (by decide +kernel)) rfl
theorem ml_X11_273 : Cond.methodLink RX11 273 yX5_areColours ∈ lw_g := lg_in (List.mem_of_getElem? (i := 938) (by decide +kernel)) rfl
theorem ml_X11_279 : Cond.methodLink RX11 279 yX5_howManyCurls ∈ lw_g := lg_in (List.mem_of_getElem? (i := 942) (by decide +kernel)) rfl
theorem ml_X11_283 : Cond.methodLink RX11 283 yX5_leastCurls ∈ lw_g := lg_in (List.mem_of_getElem? (i := 955) (by decide +kernel)) rfl
theorem ml_X11_286 : Cond.methodLink RX11 286 yX5_ringMoves ∈ lw_g := lg_in (List.mem_of_getElem? (i := 962) (by decide +kernel)) rfl
theorem ml_X11_289 : Cond.methodLink RX11 289 yX5_areDials ∈ lw_g := lg_in (List.mem_of_getElem? (i := 969) (by decide +kernel)) rfl
theorem ml_X11_292 : Cond.methodLink RX11 292 yX5_dialTurns ∈ lw_g := lg_in (List.mem_of_getElem? (i := 972) (by decide +kernel)) rfl
theorem ml_X11_295 : Cond.methodLink RX11 295 yX5_mostWeight ∈ lw_g := lg_in (List.mem_of_getElem? (i := 985) (by decide +kernel)) rfl
theorem ml_X11_298 : Cond.methodLink RX11 298 yX5_howManyWeigh ∈ lw_g := lg_in (List.mem_of_getElem? (i := 991) (by decide +kernel)) rfl
theorem ml_X11_302 : Cond.methodLink RX11 302 yX5_firstOfAnother ∈ lw_g := lg_in (List.mem_of_getElem? (i := 992) (by decide +kernel)) rfl
theorem ml_X11_305 : Cond.methodLink RX11 305 yX5_weekSteps ∈ lw_g := lg_in (List.mem_of_getElem? (i := 999) (by decide +kernel)) rfl
theorem ml_X11_316 : Cond.methodLink RX11 316 yX8_at ∈ lw_g := lg_in (List.mem_of_getElem? (i := 895) (by decide +kernel)) rfl
theorem ml_X11_320 : Cond.methodLink RX11 320 yX9_inRoom ∈ lw_g := lg_in (List.mem_of_getElem? (i := 1029) (by decide +kernel)) rfl
theorem ml_X11_323 : Cond.methodLink RX11 323 Lib.Math.min.name ∈ lw_g := lg_in (List.mem_of_getElem? (i := 868) (by decide +kernel)) rfl
theorem ml_X11_328 : Cond.methodLink RX11 328 yX11_bentOf ∈ lw_g := lg_in (List.mem_of_getElem? (i := 903) (by decide +kernel)) rfl
theorem ml_X11_331 : Cond.methodLink RX11 331 yX9_whoPutUp ∈ lw_g := lg_in (List.mem_of_getElem? (i := 907) (by decide +kernel)) rfl
theorem ml_X11_98 : Cond.methodLink RX11 98 yX11_isWithin ∈ lw_g := lg_in (List.mem_of_getElem? (i := 426) (by decide +kernel)) rfl
theorem ml_X12_117 : Cond.methodLink RX12 117 yX12_in ∈ lw_g := lg_in (List.mem_of_getElem? (i := 1217) (by decide +kernel)) rfl
theorem ml_X12_125 : Cond.methodLink RX12 125 yX12_has ∈ lw_g := lg_in (List.mem_of_getElem? (i := 1374) (by decide +kernel)) rfl
theorem ml_X12_129 : Cond.methodLink RX12 129 yX12_isDoor ∈ lw_g := lg_in (List.mem_of_getElem? (i := 1370) (by decide +kernel)) rfl
theorem ml_X12_136 : Cond.methodLink RX12 136 yX12_fits ∈ lw_g := lg_in (List.mem_of_getElem? (i := 1432) (by decide +kernel)) rfl
theorem ml_X12_142 : Cond.methodLink RX12 142 yX12_types ∈ lw_g := lg_in (List.mem_of_getElem? (i := 1224) (by decide +kernel)) rfl
theorem ml_X12_152 : Cond.methodLink RX12 152 yX12_here ∈ lw_g := lg_in (List.mem_of_getElem? (i := 1240) (by decide +kernel)) rfl
theorem ml_X12_159 : Cond.methodLink RX12 159 yX12_wrongAt ∈ lw_g := lg_in (List.mem_of_getElem? (i := 1244) (by decide +kernel)) rfl
theorem ml_X12_165 : Cond.methodLink RX12 165 yX12_isDigit ∈ lw_g := lg_in (List.mem_of_getElem? (i := 1261) (by decide +kernel)) rfl
theorem ml_X12_179 : Cond.methodLink RX12 179 yX12_waitTop ∈ lw_g := lg_in (List.mem_of_getElem? (i := 1283) (by decide +kernel)) rfl
theorem ml_X12_182 : Cond.methodLink RX12 182 yX12_notes ∈ lw_g := lg_in (List.mem_of_getElem? (i := 1269) (by decide +kernel)) rfl
theorem ml_X12_186 : Cond.methodLink RX12 186 yX12_opens ∈ lw_g := lg_in (List.mem_of_getElem? (i := 1256) (by decide +kernel)) rfl
theorem ml_X12_189 : Cond.methodLink RX12 189 yX12_readsNumber ∈ lw_g := lg_in (List.mem_of_getElem? (i := 1265) (by decide +kernel)) rfl
theorem ml_X12_192 : Cond.methodLink RX12 192 yX12_factOf ∈ lw_g := lg_in (List.mem_of_getElem? (i := 1273) (by decide +kernel)) rfl
theorem ml_X12_196 : Cond.methodLink RX12 196 yX12_readsFactor ∈ lw_g := lg_in (List.mem_of_getElem? (i := 1252) (by decide +kernel)) rfl
theorem ml_X12_199 : Cond.methodLink RX12 199 yX12_sumSign ∈ lw_g := lg_in (List.mem_of_getElem? (i := 1276) (by decide +kernel)) rfl
theorem ml_X12_202 : Cond.methodLink RX12 202 yX12_closesSums ∈ lw_g := lg_in (List.mem_of_getElem? (i := 1279) (by decide +kernel)) rfl
theorem ml_X12_206 : Cond.methodLink RX12 206 yX12_hasOpenSum ∈ lw_g := lg_in (List.mem_of_getElem? (i := 1287) (by decide +kernel)) rfl
theorem ml_X12_209 : Cond.methodLink RX12 209 yX12_readsSum ∈ lw_g := lg_in (List.mem_of_getElem? (i := 1248) (by decide +kernel)) rfl
theorem ml_X12_212 : Cond.methodLink RX12 212 yX12_endsPiece ∈ lw_g := lg_in (List.mem_of_getElem? (i := 1299) (by decide +kernel)) rfl
theorem ml_X12_215 : Cond.methodLink RX12 215 yX12_readsCompared ∈ lw_g := lg_in (List.mem_of_getElem? (i := 1295) (by decide +kernel)) rfl
theorem ml_X12_218 : Cond.methodLink RX12 218 yX12_lands ∈ lw_g := lg_in (List.mem_of_getElem? (i := 1303) (by decide +kernel)) rfl
theorem ml_X12_221 : Cond.methodLink RX12 221 yX12_jumps ∈ lw_g := lg_in (List.mem_of_getElem? (i := 1307) (by decide +kernel)) rfl
theorem ml_X12_227 : Cond.methodLink RX12 227 yX12_readsCondition ∈ lw_g := lg_in (List.mem_of_getElem? (i := 1291) (by decide +kernel)) rfl
theorem ml_X12_230 : Cond.methodLink RX12 230 yX12_beginsText ∈ lw_g := lg_in (List.mem_of_getElem? (i := 1232) (by decide +kernel)) rfl
theorem ml_X12_233 : Cond.methodLink RX12 233 yX12_readsRule ∈ lw_g := lg_in (List.mem_of_getElem? (i := 1236) (by decide +kernel)) rfl
theorem ml_X12_236 : Cond.methodLink RX12 236 yX12_takes ∈ lw_g := lg_in (List.mem_of_getElem? (i := 1311) (by decide +kernel)) rfl
theorem ml_X12_242 : Cond.methodLink RX12 242 yX12_reckon ∈ lw_g := lg_in (List.mem_of_getElem? (i := 1413) (by decide +kernel)) rfl
theorem ml_X12_246 : Cond.methodLink RX12 246 yX12_reckonsTo ∈ lw_g := lg_in (List.mem_of_getElem? (i := 1409) (by decide +kernel)) rfl
theorem ml_X12_259 : Cond.methodLink RX12 259 yX12_readsTimes ∈ lw_g := lg_in (List.mem_of_getElem? (i := 1327) (by decide +kernel)) rfl
theorem ml_X12_265 : Cond.methodLink RX12 265 yX12_repeats ∈ lw_g := lg_in (List.mem_of_getElem? (i := 1331) (by decide +kernel)) rfl
theorem ml_X12_268 : Cond.methodLink RX12 268 yX12_isWoman ∈ lw_g := lg_in (List.mem_of_getElem? (i := 1319) (by decide +kernel)) rfl
theorem ml_X12_271 : Cond.methodLink RX12 271 yX12_readsPin ∈ lw_g := lg_in (List.mem_of_getElem? (i := 1323) (by decide +kernel)) rfl
theorem ml_X12_274 : Cond.methodLink RX12 274 yX12_putsUp ∈ lw_g := lg_in (List.mem_of_getElem? (i := 1335) (by decide +kernel)) rfl
theorem ml_X12_277 : Cond.methodLink RX12 277 yX12_readsWithin ∈ lw_g := lg_in (List.mem_of_getElem? (i := 1362) (by decide +kernel)) rfl
theorem ml_X12_280 : Cond.methodLink RX12 280 yX12_readsRooms ∈ lw_g := lg_in (List.mem_of_getElem? (i := 1377) (by decide +kernel)) rfl
theorem ml_X12_286 : Cond.methodLink RX12 286 yX12_readsKind ∈ lw_g := lg_in (List.mem_of_getElem? (i := 1358) (by decide +kernel)) rfl
theorem ml_X12_289 : Cond.methodLink RX12 289 yX12_readsDoor ∈ lw_g := lg_in (List.mem_of_getElem? (i := 1366) (by decide +kernel)) rfl
theorem ml_X12_298 : Cond.methodLink RX12 298 yX12_copies ∈ lw_g := lg_in (List.mem_of_getElem? (i := 1347) (by decide +kernel)) rfl
theorem ml_X12_302 : Cond.methodLink RX12 302 yX12_putsDoorsAside ∈ lw_g := lg_in (List.mem_of_getElem? (i := 1350) (by decide +kernel)) rfl
theorem ml_X12_305 : Cond.methodLink RX12 305 yX12_readsLine ∈ lw_g := lg_in (List.mem_of_getElem? (i := 1354) (by decide +kernel)) rfl
theorem ml_X12_308 : Cond.methodLink RX12 308 yX12_putsDoorsBack ∈ lw_g := lg_in (List.mem_of_getElem? (i := 1381) (by decide +kernel)) rfl
theorem ml_X12_311 : Cond.methodLink RX12 311 yX12_pinsOf ∈ lw_g := lg_in (List.mem_of_getElem? (i := 1401) (by decide +kernel)) rfl
theorem ml_X12_314 : Cond.methodLink RX12 314 yX12_feels ∈ lw_g := lg_in (List.mem_of_getElem? (i := 1397) (by decide +kernel)) rfl
theorem ml_X12_317 : Cond.methodLink RX12 317 yX12_behind ∈ lw_g := lg_in (List.mem_of_getElem? (i := 1424) (by decide +kernel)) rfl
theorem ml_X12_320 : Cond.methodLink RX12 320 yX12_kindFor ∈ lw_g := lg_in (List.mem_of_getElem? (i := 1428) (by decide +kernel)) rfl
theorem ml_X12_323 : Cond.methodLink RX12 323 yX12_womenIn ∈ lw_g := lg_in (List.mem_of_getElem? (i := 1440) (by decide +kernel)) rfl
theorem ml_X12_326 : Cond.methodLink RX12 326 yX12_bits ∈ lw_g := lg_in (List.mem_of_getElem? (i := 1444) (by decide +kernel)) rfl
theorem ml_X12_329 : Cond.methodLink RX12 329 yX12_canOpen ∈ lw_g := lg_in (List.mem_of_getElem? (i := 1420) (by decide +kernel)) rfl
theorem ml_X12_332 : Cond.methodLink RX12 332 yX12_feelsDoor ∈ lw_g := lg_in (List.mem_of_getElem? (i := 1436) (by decide +kernel)) rfl
theorem ml_X12_335 : Cond.methodLink RX12 335 yX12_byLaw ∈ lw_g := lg_in (List.mem_of_getElem? (i := 1447) (by decide +kernel)) rfl
theorem ml_X12_338 : Cond.methodLink RX12 338 yX12_holdsAny ∈ lw_g := lg_in (List.mem_of_getElem? (i := 1405) (by decide +kernel)) rfl
theorem ml_X12_341 : Cond.methodLink RX12 341 yX12_chosenBy ∈ lw_g := lg_in (List.mem_of_getElem? (i := 1416) (by decide +kernel)) rfl
theorem ml_X12_345 : Cond.methodLink RX12 345 yX12_min ∈ lw_g := lg_in (List.mem_of_getElem? (i := 1452) (by decide +kernel)) rfl
theorem ml_X12_354 : Cond.methodLink RX12 354 yX12_turnOf ∈ lw_g := lg_in (List.mem_of_getElem? (i := 1393) (by decide +kernel)) rfl
theorem ml_X12_357 : Cond.methodLink RX12 357 yX12_roundsGo ∈ lw_g := lg_in (List.mem_of_getElem? (i := 1389) (by decide +kernel)) rfl
theorem ml_X12_360 : Cond.methodLink RX12 360 yX12_fitting ∈ lw_g := lg_in (List.mem_of_getElem? (i := 1467) (by decide +kernel)) rfl
theorem ml_X12_364 : Cond.methodLink RX12 364 yX12_sevenTo ∈ lw_g := lg_in (List.mem_of_getElem? (i := 1491) (by decide +kernel)) rfl
theorem ml_X12_370 : Cond.methodLink RX12 370 yX12_goneOf ∈ lw_g := lg_in (List.mem_of_getElem? (i := 1484) (by decide +kernel)) rfl
theorem ml_X12_373 : Cond.methodLink RX12 373 yX12_goesOn ∈ lw_g := lg_in (List.mem_of_getElem? (i := 1487) (by decide +kernel)) rfl
theorem ml_X12_377 : Cond.methodLink RX12 377 yX12_laysWays ∈ lw_g := lg_in (List.mem_of_getElem? (i := 1479) (by decide +kernel)) rfl
theorem ml_X12_380 : Cond.methodLink RX12 380 yX12_clearsWays ∈ lw_g := lg_in (List.mem_of_getElem? (i := 1494) (by decide +kernel)) rfl
theorem ml_X12_384 : Cond.methodLink RX12 384 yX12_areEnough ∈ lw_g := lg_in (List.mem_of_getElem? (i := 1515) (by decide +kernel)) rfl
theorem ml_X12_387 : Cond.methodLink RX12 387 yX12_octet ∈ lw_g := lg_in (List.mem_of_getElem? (i := 1523) (by decide +kernel)) rfl
theorem ml_X12_390 : Cond.methodLink RX12 390 yX12_groupOf ∈ lw_g := lg_in (List.mem_of_getElem? (i := 1535) (by decide +kernel)) rfl
theorem ml_X12_393 : Cond.methodLink RX12 393 yX12_groups ∈ lw_g := lg_in (List.mem_of_getElem? (i := 1539) (by decide +kernel)) rfl
theorem ml_X12_396 : Cond.methodLink RX12 396 yX12_curlOf ∈ lw_g := lg_in (List.mem_of_getElem? (i := 1551) (by decide +kernel)) rfl
theorem ml_X12_399 : Cond.methodLink RX12 399 yX12_fitsGuess ∈ lw_g := lg_in (List.mem_of_getElem? (i := 1547) (by decide +kernel)) rfl
theorem ml_X12_402 : Cond.methodLink RX12 402 yX12_alikeTo ∈ lw_g := lg_in (List.mem_of_getElem? (i := 1566) (by decide +kernel)) rfl
theorem ml_X12_405 : Cond.methodLink RX12 405 yX12_size ∈ lw_g := lg_in (List.mem_of_getElem? (i := 1574) (by decide +kernel)) rfl
theorem ml_X12_413 : Cond.methodLink RX12 413 yX12_toldWomen ∈ lw_g := lg_in (List.mem_of_getElem? (i := 1598) (by decide +kernel)) rfl
theorem ml_X12_416 : Cond.methodLink RX12 416 yX12_pinsOfAll ∈ lw_g := lg_in (List.mem_of_getElem? (i := 1602) (by decide +kernel)) rfl
theorem ml_X2_48 : Cond.methodLink RX2 48 yX2_reckon ∈ lw_g := lg_in (List.mem_of_getElem? (i := 691) (by decide +kernel)) rfl
theorem ml_X2_52 : Cond.methodLink RX2 52 Lib.Math.min.name ∈ lw_g := lg_in (List.mem_of_getElem? (i := 748) (by decide +kernel)) rfl
theorem ml_X2_58 : Cond.methodLink RX2 58 Lib.Math.max.name ∈ lw_g := lg_in (List.mem_of_getElem? (i := 751) (by decide +kernel)) rfl
theorem ml_X2_61 : Cond.methodLink RX2 61 yX2_letterValue ∈ lw_g := lg_in (List.mem_of_getElem? (i := 695) (by decide +kernel)) rfl
theorem ml_X2_65 : Cond.methodLink RX2 65 yX2_joined ∈ lw_g := lg_in (List.mem_of_getElem? (i := 698) (by decide +kernel)) rfl
theorem ml_X3_47 : Cond.methodLink RX3 47 yX7_fail ∈ lw_g := lg_in (List.mem_of_getElem? (i := 470) (by decide +kernel)) rfl
theorem ml_X3_54 : Cond.methodLink RX3 54 yX7_step ∈ lw_g := lg_in (List.mem_of_getElem? (i := 474) (by decide +kernel)) rfl
theorem ml_X4_100 : Cond.methodLink RX4 100 yX9_unrust ∈ lw_g := lg_in (List.mem_of_getElem? (i := 648) (by decide +kernel)) rfl
theorem ml_X4_105 : Cond.methodLink RX4 105 yX0_bar ∈ lw_g := lg_in (List.mem_of_getElem? (i := 652) (by decide +kernel)) rfl
theorem ml_X4_109 : Cond.methodLink RX4 109 yX0_fitAll ∈ lw_g := lg_in (List.mem_of_getElem? (i := 660) (by decide +kernel)) rfl
theorem ml_X4_38 : Cond.methodLink RX4 38 yX7_isSound ∈ lw_g := lg_in (List.mem_of_getElem? (i := 610) (by decide +kernel)) rfl
theorem ml_X4_44 : Cond.methodLink RX4 44 yX4_readLine ∈ lw_g := lg_in (List.mem_of_getElem? (i := 611) (by decide +kernel)) rfl
theorem ml_X4_47 : Cond.methodLink RX4 47 yX7_isAtEnd ∈ lw_g := lg_in (List.mem_of_getElem? (i := 634) (by decide +kernel)) rfl
theorem ml_X4_50 : Cond.methodLink RX4 50 yX7_want ∈ lw_g := lg_in (List.mem_of_getElem? (i := 623) (by decide +kernel)) rfl
theorem ml_X4_61 : Cond.methodLink RX4 61 yX7_isDigit ∈ lw_g := lg_in (List.mem_of_getElem? (i := 616) (by decide +kernel)) rfl
theorem ml_X4_67 : Cond.methodLink RX4 67 yX7_fail ∈ lw_g := lg_in (List.mem_of_getElem? (i := 617) (by decide +kernel)) rfl
theorem ml_X4_71 : Cond.methodLink RX4 71 yX4_readKind ∈ lw_g := lg_in (List.mem_of_getElem? (i := 618) (by decide +kernel)) rfl
theorem ml_X4_74 : Cond.methodLink RX4 74 yX4_readDoor ∈ lw_g := lg_in (List.mem_of_getElem? (i := 625) (by decide +kernel)) rfl
theorem ml_X4_77 : Cond.methodLink RX4 77 yX7_step ∈ lw_g := lg_in (List.mem_of_getElem? (i := 622) (by decide +kernel)) rfl
theorem ml_X4_80 : Cond.methodLink RX4 80 yX7_number ∈ lw_g := lg_in (List.mem_of_getElem? (i := 624) (by decide +kernel)) rfl
theorem ml_X4_84 : Cond.methodLink RX4 84 yX7_take ∈ lw_g := lg_in (List.mem_of_getElem? (i := 629) (by decide +kernel)) rfl
theorem ml_X4_88 : Cond.methodLink RX4 88 yX4_readRooms ∈ lw_g := lg_in (List.mem_of_getElem? (i := 630) (by decide +kernel)) rfl
theorem ml_X4_91 : Cond.methodLink RX4 91 yX0_bend ∈ lw_g := lg_in (List.mem_of_getElem? (i := 639) (by decide +kernel)) rfl
theorem ml_X4_96 : Cond.methodLink RX4 96 yX0_tell ∈ lw_g := lg_in (List.mem_of_getElem? (i := 644) (by decide +kernel)) rfl
theorem ml_X5_11 : Cond.methodLink RX5 11 yX8_at ∈ lw_g := lg_in (List.mem_of_getElem? (i := 941) (by decide +kernel)) rfl
theorem ml_X5_17 : Cond.methodLink RX5 17 yX5_couldBe ∈ lw_g := lg_in (List.mem_of_getElem? (i := 945) (by decide +kernel)) rfl
theorem ml_X5_21 : Cond.methodLink RX5 21 yX5_rightOnes ∈ lw_g := lg_in (List.mem_of_getElem? (i := 948) (by decide +kernel)) rfl
theorem ml_X5_25 : Cond.methodLink RX5 25 yX5_sharedOnes ∈ lw_g := lg_in (List.mem_of_getElem? (i := 951) (by decide +kernel)) rfl
theorem ml_X5_28 : Cond.methodLink RX5 28 Lib.Math.min.name ∈ lw_g := lg_in (List.mem_of_getElem? (i := 954) (by decide +kernel)) rfl
theorem ml_X5_34 : Cond.methodLink RX5 34 yX5_turnsFrom ∈ lw_g := lg_in (List.mem_of_getElem? (i := 975) (by decide +kernel)) rfl
theorem ml_X5_37 : Cond.methodLink RX5 37 yJ9_floorMod_7cf53 ∈ lw_g := lg_in (List.mem_of_getElem? (i := 978) (by decide +kernel)) rfl
theorem ml_X5_40 : Cond.methodLink RX5 40 yX5_howManyWeigh ∈ lw_g := lg_in (List.mem_of_getElem? (i := 988) (by decide +kernel)) rfl
theorem ml_X5_43 : Cond.methodLink RX5 43 yX5_stepsFrom ∈ lw_g := lg_in (List.mem_of_getElem? (i := 1002) (by decide +kernel)) rfl
theorem ml_X5_46 : Cond.methodLink RX5 46 yJ9_abs_0f7a4 ∈ lw_g := lg_in (List.mem_of_getElem? (i := 1005) (by decide +kernel)) rfl
theorem ml_X6_24 : Cond.methodLink RX6 24 yX6_joinRooms ∈ lw_g := lg_in (List.mem_of_getElem? (i := 810) (by decide +kernel)) rfl
theorem ml_X6_28 : Cond.methodLink RX6 28 yX9_pinsOfKind ∈ lw_g := lg_in (List.mem_of_getElem? (i := 816) (by decide +kernel)) rfl
theorem ml_X6_34 : Cond.methodLink RX6 34 yJ7_fill_53178 ∈ lw_g := lg_in (List.mem_of_getElem? (i := 814) (by decide +kernel)) rfl
theorem ml_X6_44 : Cond.methodLink RX6 44 yX6_goOn ∈ lw_g := lg_in (List.mem_of_getElem? (i := 817) (by decide +kernel)) rfl
theorem ml_X6_48 : Cond.methodLink RX6 48 yX0_unbarred ∈ lw_g := lg_in (List.mem_of_getElem? (i := 815) (by decide +kernel)) rfl
theorem ml_X6_63 : Cond.methodLink RX6 63 yX6_placeOf ∈ lw_g := lg_in (List.mem_of_getElem? (i := 821) (by decide +kernel)) rfl
theorem ml_X6_67 : Cond.methodLink RX6 67 yX6_freeKinds ∈ lw_g := lg_in (List.mem_of_getElem? (i := 827) (by decide +kernel)) rfl
theorem ml_X6_70 : Cond.methodLink RX6 70 yX6_roomsNextTo ∈ lw_g := lg_in (List.mem_of_getElem? (i := 831) (by decide +kernel)) rfl
theorem ml_X6_74 : Cond.methodLink RX6 74 Lib.Math.min.name ∈ lw_g := lg_in (List.mem_of_getElem? (i := 824) (by decide +kernel)) rfl
theorem ml_X6_82 : Cond.methodLink RX6 82 yX0_ofRoom ∈ lw_g := lg_in (List.mem_of_getElem? (i := 844) (by decide +kernel)) rfl
theorem ml_X6_85 : Cond.methodLink RX6 85 yX6_lowestDoor ∈ lw_g := lg_in (List.mem_of_getElem? (i := 845) (by decide +kernel)) rfl
theorem ml_X6_89 : Cond.methodLink RX6 89 yX0_behind ∈ lw_g := lg_in (List.mem_of_getElem? (i := 849) (by decide +kernel)) rfl
theorem ml_X7_25 : Cond.methodLink RX7 25 yX7_step ∈ lw_g := lg_in (List.mem_of_getElem? (i := 450) (by decide +kernel)) rfl
theorem ml_X7_40 : Cond.methodLink RX7 40 yX7_fail ∈ lw_g := lg_in (List.mem_of_getElem? (i := 500) (by decide +kernel)) rfl
theorem ml_X7_44 : Cond.methodLink RX7 44 yX7_isDigit ∈ lw_g := lg_in (List.mem_of_getElem? (i := 510) (by decide +kernel)) rfl
theorem ml_X9_28 : Cond.methodLink RX9 28 arraycopyName ∈ lw_g := lg_in (List.mem_of_getElem? (i := 597) (by decide +kernel)) rfl
theorem ml_X9_44 : Cond.methodLink RX9 44 yX9_isTold ∈ lw_g := lg_in (List.mem_of_getElem? (i := 596) (by decide +kernel)) rfl
theorem ml_X9_48 : Cond.methodLink RX9 48 yX9_pinsOfKind ∈ lw_g := lg_in (List.mem_of_getElem? (i := 759) (by decide +kernel)) rfl
theorem mn_X0_34 : Cond.methodLinkNest RX0 34 yX11_isWithin "HairpinLocks" ∈ nwl := List.mem_filter.mpr ⟨List.mem_of_getElem? (i := 643) (by decide +kernel), rfl⟩
theorem mn_X2_44 : Cond.methodLinkNest RX2 44 yX11_isWithin "HairpinLocks" ∈ nwl := List.mem_filter.mpr ⟨List.mem_of_getElem? (i := 534) (by decide +kernel), rfl⟩
theorem mn_X4_57 : Cond.methodLinkNest RX4 57 yX11_isWithin "HairpinLocks" ∈ nwl := List.mem_filter.mpr ⟨List.mem_of_getElem? (i := 615) (by decide +kernel), rfl⟩
theorem mn_X9_40 : Cond.methodLinkNest RX9 40 yX11_isWithin "HairpinLocks" ∈ nwl := List.mem_filter.mpr ⟨List.mem_of_getElem? (i := 433) (by decide +kernel), rfl⟩
theorem ct_J6_264 : Cond.constant RJ6 264 65536 ∈ lw_g := lg_in (List.mem_of_getElem? (i := 728) (by decide +kernel)) rfl
theorem ct_J6_265 : Cond.constant RJ6 265 1431655765 ∈ lw_g := lg_in (List.mem_of_getElem? (i := 741) (by decide +kernel)) rfl
theorem ct_J6_266 : Cond.constant RJ6 266 858993459 ∈ lw_g := lg_in (List.mem_of_getElem? (i := 742) (by decide +kernel)) rfl
theorem ct_J6_267 : Cond.constant RJ6 267 252645135 ∈ lw_g := lg_in (List.mem_of_getElem? (i := 743) (by decide +kernel)) rfl
theorem ct_X11_309 : Cond.constant RX11 309 65535 ∈ lw_g := lg_in (List.mem_of_getElem? (i := 1012) (by decide +kernel)) rfl
theorem ct_X12_172 : Cond.constant RX12 172 1048576 ∈ lw_g := lg_in (List.mem_of_getElem? (i := 1260) (by decide +kernel)) rfl
theorem ct_X12_344 : Cond.constant RX12 344 65536 ∈ lw_g := lg_in (List.mem_of_getElem? (i := 1451) (by decide +kernel)) rfl
theorem ct_X12_363 : Cond.constant RX12 363 117649 ∈ lw_g := lg_in (List.mem_of_getElem? (i := 1483) (by decide +kernel)) rfl
theorem ct_X12_383 : Cond.constant RX12 383 1000000 ∈ lw_g := lg_in (List.mem_of_getElem? (i := 1506) (by decide +kernel)) rfl
theorem ct_X12_408 : Cond.constant RX12 408 65535 ∈ lw_g := lg_in (List.mem_of_getElem? (i := 1581) (by decide +kernel)) rfl
theorem ct_X6_73 : Cond.constant RX6 73 262144 ∈ lw_g := lg_in (List.mem_of_getElem? (i := 835) (by decide +kernel)) rfl
theorem ct_X9_52 : Cond.constant RX9 52 65535 ∈ lw_g := lg_in (List.mem_of_getElem? (i := 764) (by decide +kernel)) rfl
theorem mv_J6_bitCount_0f7a4 : MV yJ6_bitCount_0f7a4 cJ6_bitCount_0f7a4 1 (some .int) 1 := ⟨lg_in (List.mem_of_getElem? (i := 740) (by decide +kernel)) rfl, lg_in (List.mem_of_getElem? (i := 107) (by decide +kernel)) rfl, by decide +kernel⟩
theorem ms_J6_bitCount_0f7a4 : Cond.static yJ6_bitCount_0f7a4 ∈ lw_g := lg_in (List.mem_of_getElem? (i := 739) (by decide +kernel)) rfl
theorem mv_J6_numberOfTrailingZeros_0f7a4 : MV yJ6_numberOfTrailingZeros_0f7a4 cJ6_numberOfTrailingZeros_0f7a4 2 (some .int) 1 := ⟨lg_in (List.mem_of_getElem? (i := 727) (by decide +kernel)) rfl, lg_in (List.mem_of_getElem? (i := 107) (by decide +kernel)) rfl, by decide +kernel⟩
theorem ms_J6_numberOfTrailingZeros_0f7a4 : Cond.static yJ6_numberOfTrailingZeros_0f7a4 ∈ lw_g := lg_in (List.mem_of_getElem? (i := 726) (by decide +kernel)) rfl
theorem mv_J7_fill_53178 : MV yJ7_fill_53178 cJ7_fill_53178 4 none 2 := ⟨lg_in (List.mem_of_getElem? (i := 562) (by decide +kernel)) rfl, lg_in (List.mem_of_getElem? (i := 105) (by decide +kernel)) rfl, by decide +kernel⟩
theorem ms_J7_fill_53178 : Cond.static yJ7_fill_53178 ∈ lw_g := lg_in (List.mem_of_getElem? (i := 561) (by decide +kernel)) rfl
theorem mv_J9_abs_0f7a4 : MV yJ9_abs_0f7a4 cJ9_abs_0f7a4 1 (some .int) 1 := ⟨lg_in (List.mem_of_getElem? (i := 1007) (by decide +kernel)) rfl, lg_in (List.mem_of_getElem? (i := 108) (by decide +kernel)) rfl, by decide +kernel⟩
theorem ms_J9_abs_0f7a4 : Cond.static yJ9_abs_0f7a4 ∈ lw_g := lg_in (List.mem_of_getElem? (i := 1006) (by decide +kernel)) rfl
theorem mv_J9_floorMod_7cf53 : MV yJ9_floorMod_7cf53 cJ9_floorMod_7cf53 3 (some .int) 2 := ⟨lg_in (List.mem_of_getElem? (i := 980) (by decide +kernel)) rfl, lg_in (List.mem_of_getElem? (i := 108) (by decide +kernel)) rfl, by decide +kernel⟩
theorem ms_J9_floorMod_7cf53 : Cond.static yJ9_floorMod_7cf53 ∈ lw_g := lg_in (List.mem_of_getElem? (i := 979) (by decide +kernel)) rfl
theorem mv_X0_bar : MV yX0_bar cX0_bar 3 none 2 := ⟨lg_in (List.mem_of_getElem? (i := 655) (by decide +kernel)) rfl, lg_in (List.mem_of_getElem? (i := 98) (by decide +kernel)) rfl, by decide +kernel⟩
theorem mi_X0_bar : MI yX0_bar := ⟨lg_in (List.mem_of_getElem? (i := 653) (by decide +kernel)) rfl, lg_in (List.mem_of_getElem? (i := 654) (by decide +kernel)) rfl⟩
theorem mv_X0_behind : MV yX0_behind cX0_behind 3 (some .int) 2 := ⟨lg_in (List.mem_of_getElem? (i := 720) (by decide +kernel)) rfl, lg_in (List.mem_of_getElem? (i := 98) (by decide +kernel)) rfl, by decide +kernel⟩
theorem mi_X0_behind : MI yX0_behind := ⟨lg_in (List.mem_of_getElem? (i := 718) (by decide +kernel)) rfl, lg_in (List.mem_of_getElem? (i := 719) (by decide +kernel)) rfl⟩
theorem mv_X0_bend : MV yX0_bend cX0_bend 3 none 2 := ⟨lg_in (List.mem_of_getElem? (i := 642) (by decide +kernel)) rfl, lg_in (List.mem_of_getElem? (i := 98) (by decide +kernel)) rfl, by decide +kernel⟩
theorem mi_X0_bend : MI yX0_bend := ⟨lg_in (List.mem_of_getElem? (i := 640) (by decide +kernel)) rfl, lg_in (List.mem_of_getElem? (i := 641) (by decide +kernel)) rfl⟩
theorem mv_X0_fewestKinds : MV yX0_fewestKinds cX0_fewestKinds 4 (some .int) 0 := ⟨lg_in (List.mem_of_getElem? (i := 876) (by decide +kernel)) rfl, lg_in (List.mem_of_getElem? (i := 98) (by decide +kernel)) rfl, by decide +kernel⟩
theorem mi_X0_fewestKinds : MI yX0_fewestKinds := ⟨lg_in (List.mem_of_getElem? (i := 874) (by decide +kernel)) rfl, lg_in (List.mem_of_getElem? (i := 875) (by decide +kernel)) rfl⟩
theorem mv_X0_fitAll : MV yX0_fitAll cX0_fitAll 3 none 0 := ⟨lg_in (List.mem_of_getElem? (i := 663) (by decide +kernel)) rfl, lg_in (List.mem_of_getElem? (i := 98) (by decide +kernel)) rfl, by decide +kernel⟩
theorem mi_X0_fitAll : MI yX0_fitAll := ⟨lg_in (List.mem_of_getElem? (i := 661) (by decide +kernel)) rfl, lg_in (List.mem_of_getElem? (i := 662) (by decide +kernel)) rfl⟩
theorem mv_X0_groupOf : MV yX0_groupOf cX0_groupOf 8 (some .int) 2 := ⟨lg_in (List.mem_of_getElem? (i := 922) (by decide +kernel)) rfl, lg_in (List.mem_of_getElem? (i := 98) (by decide +kernel)) rfl, by decide +kernel⟩
theorem mi_X0_groupOf : MI yX0_groupOf := ⟨lg_in (List.mem_of_getElem? (i := 920) (by decide +kernel)) rfl, lg_in (List.mem_of_getElem? (i := 921) (by decide +kernel)) rfl⟩
theorem mv_X0_groups : MV yX0_groups cX0_groups 4 (some .int) 0 := ⟨lg_in (List.mem_of_getElem? (i := 926) (by decide +kernel)) rfl, lg_in (List.mem_of_getElem? (i := 98) (by decide +kernel)) rfl, by decide +kernel⟩
theorem mi_X0_groups : MI yX0_groups := ⟨lg_in (List.mem_of_getElem? (i := 924) (by decide +kernel)) rfl, lg_in (List.mem_of_getElem? (i := 925) (by decide +kernel)) rfl⟩
theorem mv_X0_isTold : MV yX0_isTold cX0_isTold 2 (some .boolean) 1 := ⟨lg_in (List.mem_of_getElem? (i := 659) (by decide +kernel)) rfl, lg_in (List.mem_of_getElem? (i := 98) (by decide +kernel)) rfl, by decide +kernel⟩
theorem mi_X0_isTold : MI yX0_isTold := ⟨lg_in (List.mem_of_getElem? (i := 657) (by decide +kernel)) rfl, lg_in (List.mem_of_getElem? (i := 658) (by decide +kernel)) rfl⟩
theorem mv_X0_ofRoom : MV yX0_ofRoom cX0_ofRoom 4 (some .int) 1 := ⟨lg_in (List.mem_of_getElem? (i := 716) (by decide +kernel)) rfl, lg_in (List.mem_of_getElem? (i := 98) (by decide +kernel)) rfl, by decide +kernel⟩
theorem mi_X0_ofRoom : MI yX0_ofRoom := ⟨lg_in (List.mem_of_getElem? (i := 714) (by decide +kernel)) rfl, lg_in (List.mem_of_getElem? (i := 715) (by decide +kernel)) rfl⟩
theorem mv_X0_onlyWays : MV yX0_onlyWays cX0_onlyWays 5 (some .int) 0 := ⟨lg_in (List.mem_of_getElem? (i := 932) (by decide +kernel)) rfl, lg_in (List.mem_of_getElem? (i := 98) (by decide +kernel)) rfl, by decide +kernel⟩
theorem mi_X0_onlyWays : MI yX0_onlyWays := ⟨lg_in (List.mem_of_getElem? (i := 930) (by decide +kernel)) rfl, lg_in (List.mem_of_getElem? (i := 931) (by decide +kernel)) rfl⟩
theorem mv_X0_opensAll : MV yX0_opensAll cX0_opensAll 3 (some .boolean) 1 := ⟨lg_in (List.mem_of_getElem? (i := 881) (by decide +kernel)) rfl, lg_in (List.mem_of_getElem? (i := 98) (by decide +kernel)) rfl, by decide +kernel⟩
theorem mi_X0_opensAll : MI yX0_opensAll := ⟨lg_in (List.mem_of_getElem? (i := 880) (by decide +kernel)) rfl, lg_in (List.mem_of_getElem? (i := 29) (by decide +kernel)) rfl⟩
theorem mv_X0_tell : MV yX0_tell cX0_tell 5 none 4 := ⟨lg_in (List.mem_of_getElem? (i := 647) (by decide +kernel)) rfl, lg_in (List.mem_of_getElem? (i := 98) (by decide +kernel)) rfl, by decide +kernel⟩
theorem mi_X0_tell : MI yX0_tell := ⟨lg_in (List.mem_of_getElem? (i := 645) (by decide +kernel)) rfl, lg_in (List.mem_of_getElem? (i := 646) (by decide +kernel)) rfl⟩
theorem mv_X0_unbarred : MV yX0_unbarred cX0_unbarred 1 (some .int) 0 := ⟨lg_in (List.mem_of_getElem? (i := 712) (by decide +kernel)) rfl, lg_in (List.mem_of_getElem? (i := 98) (by decide +kernel)) rfl, by decide +kernel⟩
theorem mi_X0_unbarred : MI yX0_unbarred := ⟨lg_in (List.mem_of_getElem? (i := 710) (by decide +kernel)) rfl, lg_in (List.mem_of_getElem? (i := 711) (by decide +kernel)) rfl⟩
theorem mv_X10_chooseDoor : MV yX10_chooseDoor cX10_chooseDoor 11 (some .int) 4 := ⟨lg_in (List.mem_of_getElem? (i := 704) (by decide +kernel)) rfl, lg_in (List.mem_of_getElem? (i := 100) (by decide +kernel)) rfl, by decide +kernel⟩
theorem mi_X10_chooseDoor : MI yX10_chooseDoor := ⟨lg_in (List.mem_of_getElem? (i := 703) (by decide +kernel)) rfl, lg_in (List.mem_of_getElem? (i := 20) (by decide +kernel)) rfl⟩
theorem mv_X10_go : MV yX10_go cX10_go 7 none 4 := ⟨lg_in (List.mem_of_getElem? (i := 671) (by decide +kernel)) rfl, lg_in (List.mem_of_getElem? (i := 100) (by decide +kernel)) rfl, by decide +kernel⟩
theorem mi_X10_go : MI yX10_go := ⟨lg_in (List.mem_of_getElem? (i := 669) (by decide +kernel)) rfl, lg_in (List.mem_of_getElem? (i := 670) (by decide +kernel)) rfl⟩
theorem mv_X10_knowDoor : MV yX10_knowDoor cX10_knowDoor 7 none 3 := ⟨lg_in (List.mem_of_getElem? (i := 724) (by decide +kernel)) rfl, lg_in (List.mem_of_getElem? (i := 100) (by decide +kernel)) rfl, by decide +kernel⟩
theorem mi_X10_knowDoor : MI yX10_knowDoor := ⟨lg_in (List.mem_of_getElem? (i := 723) (by decide +kernel)) rfl, lg_in (List.mem_of_getElem? (i := 21) (by decide +kernel)) rfl⟩
theorem mv_X10_knowWoman : MV yX10_knowWoman cX10_knowWoman 3 none 2 := ⟨lg_in (List.mem_of_getElem? (i := 680) (by decide +kernel)) rfl, lg_in (List.mem_of_getElem? (i := 100) (by decide +kernel)) rfl, by decide +kernel⟩
theorem mi_X10_knowWoman : MI yX10_knowWoman := ⟨lg_in (List.mem_of_getElem? (i := 679) (by decide +kernel)) rfl, lg_in (List.mem_of_getElem? (i := 18) (by decide +kernel)) rfl⟩
theorem mv_X10_step : MV yX10_step cX10_step 7 none 4 := ⟨lg_in (List.mem_of_getElem? (i := 676) (by decide +kernel)) rfl, lg_in (List.mem_of_getElem? (i := 100) (by decide +kernel)) rfl, by decide +kernel⟩
theorem mi_X10_step : MI yX10_step := ⟨lg_in (List.mem_of_getElem? (i := 675) (by decide +kernel)) rfl, lg_in (List.mem_of_getElem? (i := 17) (by decide +kernel)) rfl⟩
theorem mv_X11_areDoorsWithKinds : MV yX11_areDoorsWithKinds cX11_areDoorsWithKinds 3 (some .boolean) 1 := ⟨lg_in (List.mem_of_getElem? (i := 894) (by decide +kernel)) rfl, lg_in (List.mem_of_getElem? (i := 93) (by decide +kernel)) rfl, by decide +kernel⟩
theorem mi_X11_areDoorsWithKinds : MI yX11_areDoorsWithKinds := ⟨lg_in (List.mem_of_getElem? (i := 893) (by decide +kernel)) rfl, lg_in (List.mem_of_getElem? (i := 30) (by decide +kernel)) rfl⟩
theorem mv_X11_bentOf : MV yX11_bentOf cX11_bentOf 5 (some .int) 2 := ⟨lg_in (List.mem_of_getElem? (i := 906) (by decide +kernel)) rfl, lg_in (List.mem_of_getElem? (i := 93) (by decide +kernel)) rfl, by decide +kernel⟩
theorem mi_X11_bentOf : MI yX11_bentOf := ⟨lg_in (List.mem_of_getElem? (i := 905) (by decide +kernel)) rfl, lg_in (List.mem_of_getElem? (i := 32) (by decide +kernel)) rfl⟩
theorem mv_X11_canBeTried : MV yX11_canBeTried cX11_canBeTried 2 (some .boolean) 1 := ⟨lg_in (List.mem_of_getElem? (i := 782) (by decide +kernel)) rfl, lg_in (List.mem_of_getElem? (i := 93) (by decide +kernel)) rfl, by decide +kernel⟩
theorem mi_X11_canBeTried : MI yX11_canBeTried := ⟨lg_in (List.mem_of_getElem? (i := 781) (by decide +kernel)) rfl, lg_in (List.mem_of_getElem? (i := 22) (by decide +kernel)) rfl⟩
theorem mv_X11_isWithin : MV yX11_isWithin cX11_isWithin 3 (some .boolean) 3 := ⟨lg_in (List.mem_of_getElem? (i := 428) (by decide +kernel)) rfl, lg_in (List.mem_of_getElem? (i := 93) (by decide +kernel)) rfl, by decide +kernel⟩
theorem ms_X11_isWithin : Cond.static yX11_isWithin ∈ lw_g := lg_in (List.mem_of_getElem? (i := 427) (by decide +kernel)) rfl
theorem mv_X11_mostOpened : MV yX11_mostOpened cX11_mostOpened 7 (some .int) 2 := ⟨lg_in (List.mem_of_getElem? (i := 867) (by decide +kernel)) rfl, lg_in (List.mem_of_getElem? (i := 93) (by decide +kernel)) rfl, by decide +kernel⟩
theorem mi_X11_mostOpened : MI yX11_mostOpened := ⟨lg_in (List.mem_of_getElem? (i := 866) (by decide +kernel)) rfl, lg_in (List.mem_of_getElem? (i := 28) (by decide +kernel)) rfl⟩
theorem mv_X11_whoBent : MV yX11_whoBent cX11_whoBent 6 (some .int) 1 := ⟨lg_in (List.mem_of_getElem? (i := 902) (by decide +kernel)) rfl, lg_in (List.mem_of_getElem? (i := 93) (by decide +kernel)) rfl, by decide +kernel⟩
theorem mi_X11_whoBent : MI yX11_whoBent := ⟨lg_in (List.mem_of_getElem? (i := 901) (by decide +kernel)) rfl, lg_in (List.mem_of_getElem? (i := 31) (by decide +kernel)) rfl⟩
theorem mv_X12_alikeTo : MV yX12_alikeTo cX12_alikeTo 5 (some .int) 2 := ⟨lg_in (List.mem_of_getElem? (i := 1569) (by decide +kernel)) rfl, lg_in (List.mem_of_getElem? (i := 104) (by decide +kernel)) rfl, by decide +kernel⟩
theorem mi_X12_alikeTo : MI yX12_alikeTo := ⟨lg_in (List.mem_of_getElem? (i := 1568) (by decide +kernel)) rfl, lg_in (List.mem_of_getElem? (i := 89) (by decide +kernel)) rfl⟩
theorem mv_X12_areEnough : MV yX12_areEnough cX12_areEnough 3 (some .boolean) 1 := ⟨lg_in (List.mem_of_getElem? (i := 1518) (by decide +kernel)) rfl, lg_in (List.mem_of_getElem? (i := 104) (by decide +kernel)) rfl, by decide +kernel⟩
theorem mi_X12_areEnough : MI yX12_areEnough := ⟨lg_in (List.mem_of_getElem? (i := 1517) (by decide +kernel)) rfl, lg_in (List.mem_of_getElem? (i := 84) (by decide +kernel)) rfl⟩
theorem mv_X12_beginsText : MV yX12_beginsText cX12_beginsText 2 none 1 := ⟨lg_in (List.mem_of_getElem? (i := 1235) (by decide +kernel)) rfl, lg_in (List.mem_of_getElem? (i := 104) (by decide +kernel)) rfl, by decide +kernel⟩
theorem mi_X12_beginsText : MI yX12_beginsText := ⟨lg_in (List.mem_of_getElem? (i := 1234) (by decide +kernel)) rfl, lg_in (List.mem_of_getElem? (i := 34) (by decide +kernel)) rfl⟩
theorem mv_X12_behind : MV yX12_behind cX12_behind 3 (some .int) 2 := ⟨lg_in (List.mem_of_getElem? (i := 1427) (by decide +kernel)) rfl, lg_in (List.mem_of_getElem? (i := 104) (by decide +kernel)) rfl, by decide +kernel⟩
theorem mi_X12_behind : MI yX12_behind := ⟨lg_in (List.mem_of_getElem? (i := 1426) (by decide +kernel)) rfl, lg_in (List.mem_of_getElem? (i := 74) (by decide +kernel)) rfl⟩
theorem mv_X12_bits : MV yX12_bits cX12_bits 3 (some .int) 1 := ⟨lg_in (List.mem_of_getElem? (i := 1446) (by decide +kernel)) rfl, lg_in (List.mem_of_getElem? (i := 104) (by decide +kernel)) rfl, by decide +kernel⟩
theorem ms_X12_bits : Cond.static yX12_bits ∈ lw_g := lg_in (List.mem_of_getElem? (i := 1445) (by decide +kernel)) rfl
theorem mv_X12_byLaw : MV yX12_byLaw cX12_byLaw 5 (some .int) 2 := ⟨lg_in (List.mem_of_getElem? (i := 1450) (by decide +kernel)) rfl, lg_in (List.mem_of_getElem? (i := 104) (by decide +kernel)) rfl, by decide +kernel⟩
theorem mi_X12_byLaw : MI yX12_byLaw := ⟨lg_in (List.mem_of_getElem? (i := 1449) (by decide +kernel)) rfl, lg_in (List.mem_of_getElem? (i := 79) (by decide +kernel)) rfl⟩
theorem mv_X12_canOpen : MV yX12_canOpen cX12_canOpen 2 (some .boolean) 1 := ⟨lg_in (List.mem_of_getElem? (i := 1423) (by decide +kernel)) rfl, lg_in (List.mem_of_getElem? (i := 104) (by decide +kernel)) rfl, by decide +kernel⟩
theorem mi_X12_canOpen : MI yX12_canOpen := ⟨lg_in (List.mem_of_getElem? (i := 1422) (by decide +kernel)) rfl, lg_in (List.mem_of_getElem? (i := 73) (by decide +kernel)) rfl⟩
theorem mv_X12_chosenBy : MV yX12_chosenBy cX12_chosenBy 6 (some .int) 1 := ⟨lg_in (List.mem_of_getElem? (i := 1419) (by decide +kernel)) rfl, lg_in (List.mem_of_getElem? (i := 104) (by decide +kernel)) rfl, by decide +kernel⟩
theorem mi_X12_chosenBy : MI yX12_chosenBy := ⟨lg_in (List.mem_of_getElem? (i := 1418) (by decide +kernel)) rfl, lg_in (List.mem_of_getElem? (i := 72) (by decide +kernel)) rfl⟩
theorem mv_X12_clearsWays : MV yX12_clearsWays cX12_clearsWays 2 none 0 := ⟨lg_in (List.mem_of_getElem? (i := 1497) (by decide +kernel)) rfl, lg_in (List.mem_of_getElem? (i := 104) (by decide +kernel)) rfl, by decide +kernel⟩
theorem mi_X12_clearsWays : MI yX12_clearsWays := ⟨lg_in (List.mem_of_getElem? (i := 1496) (by decide +kernel)) rfl, lg_in (List.mem_of_getElem? (i := 83) (by decide +kernel)) rfl⟩
theorem mv_X12_closesSums : MV yX12_closesSums cX12_closesSums 2 none 1 := ⟨lg_in (List.mem_of_getElem? (i := 1282) (by decide +kernel)) rfl, lg_in (List.mem_of_getElem? (i := 104) (by decide +kernel)) rfl, by decide +kernel⟩
theorem mi_X12_closesSums : MI yX12_closesSums := ⟨lg_in (List.mem_of_getElem? (i := 1281) (by decide +kernel)) rfl, lg_in (List.mem_of_getElem? (i := 44) (by decide +kernel)) rfl⟩
theorem mv_X12_copies : MV yX12_copies cX12_copies 3 none 2 := ⟨lg_in (List.mem_of_getElem? (i := 1349) (by decide +kernel)) rfl, lg_in (List.mem_of_getElem? (i := 104) (by decide +kernel)) rfl, by decide +kernel⟩
theorem ms_X12_copies : Cond.static yX12_copies ∈ lw_g := lg_in (List.mem_of_getElem? (i := 1348) (by decide +kernel)) rfl
theorem mv_X12_curlOf : MV yX12_curlOf cX12_curlOf 2 (some .int) 2 := ⟨lg_in (List.mem_of_getElem? (i := 1553) (by decide +kernel)) rfl, lg_in (List.mem_of_getElem? (i := 104) (by decide +kernel)) rfl, by decide +kernel⟩
theorem ms_X12_curlOf : Cond.static yX12_curlOf ∈ lw_g := lg_in (List.mem_of_getElem? (i := 1552) (by decide +kernel)) rfl
theorem mv_X12_endsPiece : MV yX12_endsPiece cX12_endsPiece 1 none 0 := ⟨lg_in (List.mem_of_getElem? (i := 1302) (by decide +kernel)) rfl, lg_in (List.mem_of_getElem? (i := 104) (by decide +kernel)) rfl, by decide +kernel⟩
theorem mi_X12_endsPiece : MI yX12_endsPiece := ⟨lg_in (List.mem_of_getElem? (i := 1301) (by decide +kernel)) rfl, lg_in (List.mem_of_getElem? (i := 49) (by decide +kernel)) rfl⟩
theorem mv_X12_factOf : MV yX12_factOf cX12_factOf 1 (some .int) 1 := ⟨lg_in (List.mem_of_getElem? (i := 1275) (by decide +kernel)) rfl, lg_in (List.mem_of_getElem? (i := 104) (by decide +kernel)) rfl, by decide +kernel⟩
theorem ms_X12_factOf : Cond.static yX12_factOf ∈ lw_g := lg_in (List.mem_of_getElem? (i := 1274) (by decide +kernel)) rfl
theorem mv_X12_feels : MV yX12_feels cX12_feels 3 none 1 := ⟨lg_in (List.mem_of_getElem? (i := 1400) (by decide +kernel)) rfl, lg_in (List.mem_of_getElem? (i := 104) (by decide +kernel)) rfl, by decide +kernel⟩
theorem mi_X12_feels : MI yX12_feels := ⟨lg_in (List.mem_of_getElem? (i := 1399) (by decide +kernel)) rfl, lg_in (List.mem_of_getElem? (i := 68) (by decide +kernel)) rfl⟩
theorem mv_X12_feelsDoor : MV yX12_feelsDoor cX12_feelsDoor 3 none 2 := ⟨lg_in (List.mem_of_getElem? (i := 1439) (by decide +kernel)) rfl, lg_in (List.mem_of_getElem? (i := 104) (by decide +kernel)) rfl, by decide +kernel⟩
theorem mi_X12_feelsDoor : MI yX12_feelsDoor := ⟨lg_in (List.mem_of_getElem? (i := 1438) (by decide +kernel)) rfl, lg_in (List.mem_of_getElem? (i := 77) (by decide +kernel)) rfl⟩
theorem mv_X12_fits : MV yX12_fits cX12_fits 3 (some .boolean) 2 := ⟨lg_in (List.mem_of_getElem? (i := 1435) (by decide +kernel)) rfl, lg_in (List.mem_of_getElem? (i := 104) (by decide +kernel)) rfl, by decide +kernel⟩
theorem mi_X12_fits : MI yX12_fits := ⟨lg_in (List.mem_of_getElem? (i := 1434) (by decide +kernel)) rfl, lg_in (List.mem_of_getElem? (i := 76) (by decide +kernel)) rfl⟩
theorem mv_X12_fitsGuess : MV yX12_fitsGuess cX12_fitsGuess 9 (some .boolean) 2 := ⟨lg_in (List.mem_of_getElem? (i := 1550) (by decide +kernel)) rfl, lg_in (List.mem_of_getElem? (i := 104) (by decide +kernel)) rfl, by decide +kernel⟩
theorem mi_X12_fitsGuess : MI yX12_fitsGuess := ⟨lg_in (List.mem_of_getElem? (i := 1549) (by decide +kernel)) rfl, lg_in (List.mem_of_getElem? (i := 88) (by decide +kernel)) rfl⟩
theorem mv_X12_fitting : MV yX12_fitting cX12_fitting 4 (some .int) 1 := ⟨lg_in (List.mem_of_getElem? (i := 1470) (by decide +kernel)) rfl, lg_in (List.mem_of_getElem? (i := 104) (by decide +kernel)) rfl, by decide +kernel⟩
theorem mi_X12_fitting : MI yX12_fitting := ⟨lg_in (List.mem_of_getElem? (i := 1469) (by decide +kernel)) rfl, lg_in (List.mem_of_getElem? (i := 80) (by decide +kernel)) rfl⟩
theorem mv_X12_goesOn : MV yX12_goesOn cX12_goesOn 7 none 4 := ⟨lg_in (List.mem_of_getElem? (i := 1490) (by decide +kernel)) rfl, lg_in (List.mem_of_getElem? (i := 104) (by decide +kernel)) rfl, by decide +kernel⟩
theorem mi_X12_goesOn : MI yX12_goesOn := ⟨lg_in (List.mem_of_getElem? (i := 1489) (by decide +kernel)) rfl, lg_in (List.mem_of_getElem? (i := 82) (by decide +kernel)) rfl⟩
theorem mv_X12_goneOf : MV yX12_goneOf cX12_goneOf 4 (some .int) 2 := ⟨lg_in (List.mem_of_getElem? (i := 1486) (by decide +kernel)) rfl, lg_in (List.mem_of_getElem? (i := 104) (by decide +kernel)) rfl, by decide +kernel⟩
theorem ms_X12_goneOf : Cond.static yX12_goneOf ∈ lw_g := lg_in (List.mem_of_getElem? (i := 1485) (by decide +kernel)) rfl
theorem mv_X12_groupOf : MV yX12_groupOf cX12_groupOf 7 (some .int) 2 := ⟨lg_in (List.mem_of_getElem? (i := 1538) (by decide +kernel)) rfl, lg_in (List.mem_of_getElem? (i := 104) (by decide +kernel)) rfl, by decide +kernel⟩
theorem mi_X12_groupOf : MI yX12_groupOf := ⟨lg_in (List.mem_of_getElem? (i := 1537) (by decide +kernel)) rfl, lg_in (List.mem_of_getElem? (i := 86) (by decide +kernel)) rfl⟩
theorem mv_X12_groups : MV yX12_groups cX12_groups 5 (some .int) 1 := ⟨lg_in (List.mem_of_getElem? (i := 1542) (by decide +kernel)) rfl, lg_in (List.mem_of_getElem? (i := 104) (by decide +kernel)) rfl, by decide +kernel⟩
theorem mi_X12_groups : MI yX12_groups := ⟨lg_in (List.mem_of_getElem? (i := 1541) (by decide +kernel)) rfl, lg_in (List.mem_of_getElem? (i := 87) (by decide +kernel)) rfl⟩
theorem mv_X12_has : MV yX12_has cX12_has 2 (some .boolean) 2 := ⟨lg_in (List.mem_of_getElem? (i := 1376) (by decide +kernel)) rfl, lg_in (List.mem_of_getElem? (i := 104) (by decide +kernel)) rfl, by decide +kernel⟩
theorem ms_X12_has : Cond.static yX12_has ∈ lw_g := lg_in (List.mem_of_getElem? (i := 1375) (by decide +kernel)) rfl
theorem mv_X12_hasOpenSum : MV yX12_hasOpenSum cX12_hasOpenSum 3 (some .boolean) 1 := ⟨lg_in (List.mem_of_getElem? (i := 1290) (by decide +kernel)) rfl, lg_in (List.mem_of_getElem? (i := 104) (by decide +kernel)) rfl, by decide +kernel⟩
theorem mi_X12_hasOpenSum : MI yX12_hasOpenSum := ⟨lg_in (List.mem_of_getElem? (i := 1289) (by decide +kernel)) rfl, lg_in (List.mem_of_getElem? (i := 46) (by decide +kernel)) rfl⟩
theorem mv_X12_here : MV yX12_here cX12_here 1 (some .int) 0 := ⟨lg_in (List.mem_of_getElem? (i := 1243) (by decide +kernel)) rfl, lg_in (List.mem_of_getElem? (i := 104) (by decide +kernel)) rfl, by decide +kernel⟩
theorem mi_X12_here : MI yX12_here := ⟨lg_in (List.mem_of_getElem? (i := 1242) (by decide +kernel)) rfl, lg_in (List.mem_of_getElem? (i := 36) (by decide +kernel)) rfl⟩
theorem mv_X12_holdsAny : MV yX12_holdsAny cX12_holdsAny 3 (some .boolean) 1 := ⟨lg_in (List.mem_of_getElem? (i := 1408) (by decide +kernel)) rfl, lg_in (List.mem_of_getElem? (i := 104) (by decide +kernel)) rfl, by decide +kernel⟩
theorem mi_X12_holdsAny : MI yX12_holdsAny := ⟨lg_in (List.mem_of_getElem? (i := 1407) (by decide +kernel)) rfl, lg_in (List.mem_of_getElem? (i := 70) (by decide +kernel)) rfl⟩
theorem mv_X12_in : MV yX12_in cX12_in 3 (some .boolean) 3 := ⟨lg_in (List.mem_of_getElem? (i := 1219) (by decide +kernel)) rfl, lg_in (List.mem_of_getElem? (i := 104) (by decide +kernel)) rfl, by decide +kernel⟩
theorem ms_X12_in : Cond.static yX12_in ∈ lw_g := lg_in (List.mem_of_getElem? (i := 1218) (by decide +kernel)) rfl
theorem mv_X12_isDigit : MV yX12_isDigit cX12_isDigit 1 (some .boolean) 0 := ⟨lg_in (List.mem_of_getElem? (i := 1264) (by decide +kernel)) rfl, lg_in (List.mem_of_getElem? (i := 104) (by decide +kernel)) rfl, by decide +kernel⟩
theorem mi_X12_isDigit : MI yX12_isDigit := ⟨lg_in (List.mem_of_getElem? (i := 1263) (by decide +kernel)) rfl, lg_in (List.mem_of_getElem? (i := 41) (by decide +kernel)) rfl⟩
theorem mv_X12_isDoor : MV yX12_isDoor cX12_isDoor 2 (some .boolean) 1 := ⟨lg_in (List.mem_of_getElem? (i := 1373) (by decide +kernel)) rfl, lg_in (List.mem_of_getElem? (i := 104) (by decide +kernel)) rfl, by decide +kernel⟩
theorem mi_X12_isDoor : MI yX12_isDoor := ⟨lg_in (List.mem_of_getElem? (i := 1372) (by decide +kernel)) rfl, lg_in (List.mem_of_getElem? (i := 63) (by decide +kernel)) rfl⟩
theorem mv_X12_isWoman : MV yX12_isWoman cX12_isWoman 2 (some .boolean) 1 := ⟨lg_in (List.mem_of_getElem? (i := 1322) (by decide +kernel)) rfl, lg_in (List.mem_of_getElem? (i := 104) (by decide +kernel)) rfl, by decide +kernel⟩
theorem mi_X12_isWoman : MI yX12_isWoman := ⟨lg_in (List.mem_of_getElem? (i := 1321) (by decide +kernel)) rfl, lg_in (List.mem_of_getElem? (i := 53) (by decide +kernel)) rfl⟩
theorem mv_X12_jumps : MV yX12_jumps cX12_jumps 2 none 1 := ⟨lg_in (List.mem_of_getElem? (i := 1310) (by decide +kernel)) rfl, lg_in (List.mem_of_getElem? (i := 104) (by decide +kernel)) rfl, by decide +kernel⟩
theorem mi_X12_jumps : MI yX12_jumps := ⟨lg_in (List.mem_of_getElem? (i := 1309) (by decide +kernel)) rfl, lg_in (List.mem_of_getElem? (i := 51) (by decide +kernel)) rfl⟩
theorem mv_X12_kindFor : MV yX12_kindFor cX12_kindFor 4 (some .int) 2 := ⟨lg_in (List.mem_of_getElem? (i := 1431) (by decide +kernel)) rfl, lg_in (List.mem_of_getElem? (i := 104) (by decide +kernel)) rfl, by decide +kernel⟩
theorem mi_X12_kindFor : MI yX12_kindFor := ⟨lg_in (List.mem_of_getElem? (i := 1430) (by decide +kernel)) rfl, lg_in (List.mem_of_getElem? (i := 75) (by decide +kernel)) rfl⟩
theorem mv_X12_lands : MV yX12_lands cX12_lands 3 none 1 := ⟨lg_in (List.mem_of_getElem? (i := 1306) (by decide +kernel)) rfl, lg_in (List.mem_of_getElem? (i := 104) (by decide +kernel)) rfl, by decide +kernel⟩
theorem mi_X12_lands : MI yX12_lands := ⟨lg_in (List.mem_of_getElem? (i := 1305) (by decide +kernel)) rfl, lg_in (List.mem_of_getElem? (i := 50) (by decide +kernel)) rfl⟩
theorem mv_X12_laysWays : MV yX12_laysWays cX12_laysWays 7 none 1 := ⟨lg_in (List.mem_of_getElem? (i := 1482) (by decide +kernel)) rfl, lg_in (List.mem_of_getElem? (i := 104) (by decide +kernel)) rfl, by decide +kernel⟩
theorem mi_X12_laysWays : MI yX12_laysWays := ⟨lg_in (List.mem_of_getElem? (i := 1481) (by decide +kernel)) rfl, lg_in (List.mem_of_getElem? (i := 81) (by decide +kernel)) rfl⟩
theorem mv_X12_min : MV yX12_min cX12_min 2 (some .int) 2 := ⟨lg_in (List.mem_of_getElem? (i := 1454) (by decide +kernel)) rfl, lg_in (List.mem_of_getElem? (i := 104) (by decide +kernel)) rfl, by decide +kernel⟩
theorem ms_X12_min : Cond.static yX12_min ∈ lw_g := lg_in (List.mem_of_getElem? (i := 1453) (by decide +kernel)) rfl
theorem mv_X12_notes : MV yX12_notes cX12_notes 3 none 2 := ⟨lg_in (List.mem_of_getElem? (i := 1272) (by decide +kernel)) rfl, lg_in (List.mem_of_getElem? (i := 104) (by decide +kernel)) rfl, by decide +kernel⟩
theorem mi_X12_notes : MI yX12_notes := ⟨lg_in (List.mem_of_getElem? (i := 1271) (by decide +kernel)) rfl, lg_in (List.mem_of_getElem? (i := 43) (by decide +kernel)) rfl⟩
theorem mv_X12_octet : MV yX12_octet cX12_octet 2 (some .int) 1 := ⟨lg_in (List.mem_of_getElem? (i := 1526) (by decide +kernel)) rfl, lg_in (List.mem_of_getElem? (i := 104) (by decide +kernel)) rfl, by decide +kernel⟩
theorem mi_X12_octet : MI yX12_octet := ⟨lg_in (List.mem_of_getElem? (i := 1525) (by decide +kernel)) rfl, lg_in (List.mem_of_getElem? (i := 85) (by decide +kernel)) rfl⟩
theorem mv_X12_opens : MV yX12_opens cX12_opens 2 (some .boolean) 1 := ⟨lg_in (List.mem_of_getElem? (i := 1259) (by decide +kernel)) rfl, lg_in (List.mem_of_getElem? (i := 104) (by decide +kernel)) rfl, by decide +kernel⟩
theorem mi_X12_opens : MI yX12_opens := ⟨lg_in (List.mem_of_getElem? (i := 1258) (by decide +kernel)) rfl, lg_in (List.mem_of_getElem? (i := 40) (by decide +kernel)) rfl⟩
theorem mv_X12_pinsOf : MV yX12_pinsOf cX12_pinsOf 4 (some .int) 1 := ⟨lg_in (List.mem_of_getElem? (i := 1404) (by decide +kernel)) rfl, lg_in (List.mem_of_getElem? (i := 104) (by decide +kernel)) rfl, by decide +kernel⟩
theorem mi_X12_pinsOf : MI yX12_pinsOf := ⟨lg_in (List.mem_of_getElem? (i := 1403) (by decide +kernel)) rfl, lg_in (List.mem_of_getElem? (i := 69) (by decide +kernel)) rfl⟩
theorem mv_X12_pinsOfAll : MV yX12_pinsOfAll cX12_pinsOfAll 3 (some .int) 0 := ⟨lg_in (List.mem_of_getElem? (i := 1605) (by decide +kernel)) rfl, lg_in (List.mem_of_getElem? (i := 104) (by decide +kernel)) rfl, by decide +kernel⟩
theorem mi_X12_pinsOfAll : MI yX12_pinsOfAll := ⟨lg_in (List.mem_of_getElem? (i := 1604) (by decide +kernel)) rfl, lg_in (List.mem_of_getElem? (i := 91) (by decide +kernel)) rfl⟩
theorem mv_X12_putsDoorsAside : MV yX12_putsDoorsAside cX12_putsDoorsAside 2 none 0 := ⟨lg_in (List.mem_of_getElem? (i := 1353) (by decide +kernel)) rfl, lg_in (List.mem_of_getElem? (i := 104) (by decide +kernel)) rfl, by decide +kernel⟩
theorem mi_X12_putsDoorsAside : MI yX12_putsDoorsAside := ⟨lg_in (List.mem_of_getElem? (i := 1352) (by decide +kernel)) rfl, lg_in (List.mem_of_getElem? (i := 58) (by decide +kernel)) rfl⟩
theorem mv_X12_putsDoorsBack : MV yX12_putsDoorsBack cX12_putsDoorsBack 2 none 0 := ⟨lg_in (List.mem_of_getElem? (i := 1384) (by decide +kernel)) rfl, lg_in (List.mem_of_getElem? (i := 104) (by decide +kernel)) rfl, by decide +kernel⟩
theorem mi_X12_putsDoorsBack : MI yX12_putsDoorsBack := ⟨lg_in (List.mem_of_getElem? (i := 1383) (by decide +kernel)) rfl, lg_in (List.mem_of_getElem? (i := 65) (by decide +kernel)) rfl⟩
theorem mv_X12_putsUp : MV yX12_putsUp cX12_putsUp 5 (some .int) 1 := ⟨lg_in (List.mem_of_getElem? (i := 1338) (by decide +kernel)) rfl, lg_in (List.mem_of_getElem? (i := 104) (by decide +kernel)) rfl, by decide +kernel⟩
theorem mi_X12_putsUp : MI yX12_putsUp := ⟨lg_in (List.mem_of_getElem? (i := 1337) (by decide +kernel)) rfl, lg_in (List.mem_of_getElem? (i := 57) (by decide +kernel)) rfl⟩
theorem mv_X12_readsCompared : MV yX12_readsCompared cX12_readsCompared 2 (some .boolean) 0 := ⟨lg_in (List.mem_of_getElem? (i := 1298) (by decide +kernel)) rfl, lg_in (List.mem_of_getElem? (i := 104) (by decide +kernel)) rfl, by decide +kernel⟩
theorem mi_X12_readsCompared : MI yX12_readsCompared := ⟨lg_in (List.mem_of_getElem? (i := 1297) (by decide +kernel)) rfl, lg_in (List.mem_of_getElem? (i := 48) (by decide +kernel)) rfl⟩
theorem mv_X12_readsCondition : MV yX12_readsCondition cX12_readsCondition 1 (some .boolean) 0 := ⟨lg_in (List.mem_of_getElem? (i := 1294) (by decide +kernel)) rfl, lg_in (List.mem_of_getElem? (i := 104) (by decide +kernel)) rfl, by decide +kernel⟩
theorem mi_X12_readsCondition : MI yX12_readsCondition := ⟨lg_in (List.mem_of_getElem? (i := 1293) (by decide +kernel)) rfl, lg_in (List.mem_of_getElem? (i := 47) (by decide +kernel)) rfl⟩
theorem mv_X12_readsDoor : MV yX12_readsDoor cX12_readsDoor 4 (some .boolean) 0 := ⟨lg_in (List.mem_of_getElem? (i := 1369) (by decide +kernel)) rfl, lg_in (List.mem_of_getElem? (i := 104) (by decide +kernel)) rfl, by decide +kernel⟩
theorem mi_X12_readsDoor : MI yX12_readsDoor := ⟨lg_in (List.mem_of_getElem? (i := 1368) (by decide +kernel)) rfl, lg_in (List.mem_of_getElem? (i := 62) (by decide +kernel)) rfl⟩
theorem mv_X12_readsFactor : MV yX12_readsFactor cX12_readsFactor 2 (some .boolean) 0 := ⟨lg_in (List.mem_of_getElem? (i := 1255) (by decide +kernel)) rfl, lg_in (List.mem_of_getElem? (i := 104) (by decide +kernel)) rfl, by decide +kernel⟩
theorem mi_X12_readsFactor : MI yX12_readsFactor := ⟨lg_in (List.mem_of_getElem? (i := 1254) (by decide +kernel)) rfl, lg_in (List.mem_of_getElem? (i := 39) (by decide +kernel)) rfl⟩
theorem mv_X12_readsKind : MV yX12_readsKind cX12_readsKind 2 (some .boolean) 0 := ⟨lg_in (List.mem_of_getElem? (i := 1361) (by decide +kernel)) rfl, lg_in (List.mem_of_getElem? (i := 104) (by decide +kernel)) rfl, by decide +kernel⟩
theorem mi_X12_readsKind : MI yX12_readsKind := ⟨lg_in (List.mem_of_getElem? (i := 1360) (by decide +kernel)) rfl, lg_in (List.mem_of_getElem? (i := 60) (by decide +kernel)) rfl⟩
theorem mv_X12_readsLine : MV yX12_readsLine cX12_readsLine 2 (some .boolean) 0 := ⟨lg_in (List.mem_of_getElem? (i := 1357) (by decide +kernel)) rfl, lg_in (List.mem_of_getElem? (i := 104) (by decide +kernel)) rfl, by decide +kernel⟩
theorem mi_X12_readsLine : MI yX12_readsLine := ⟨lg_in (List.mem_of_getElem? (i := 1356) (by decide +kernel)) rfl, lg_in (List.mem_of_getElem? (i := 59) (by decide +kernel)) rfl⟩
theorem mv_X12_readsNumber : MV yX12_readsNumber cX12_readsNumber 2 (some .boolean) 0 := ⟨lg_in (List.mem_of_getElem? (i := 1268) (by decide +kernel)) rfl, lg_in (List.mem_of_getElem? (i := 104) (by decide +kernel)) rfl, by decide +kernel⟩
theorem mi_X12_readsNumber : MI yX12_readsNumber := ⟨lg_in (List.mem_of_getElem? (i := 1267) (by decide +kernel)) rfl, lg_in (List.mem_of_getElem? (i := 42) (by decide +kernel)) rfl⟩
theorem mv_X12_readsPin : MV yX12_readsPin cX12_readsPin 3 (some .boolean) 0 := ⟨lg_in (List.mem_of_getElem? (i := 1326) (by decide +kernel)) rfl, lg_in (List.mem_of_getElem? (i := 104) (by decide +kernel)) rfl, by decide +kernel⟩
theorem mi_X12_readsPin : MI yX12_readsPin := ⟨lg_in (List.mem_of_getElem? (i := 1325) (by decide +kernel)) rfl, lg_in (List.mem_of_getElem? (i := 54) (by decide +kernel)) rfl⟩
theorem mv_X12_readsRooms : MV yX12_readsRooms cX12_readsRooms 5 (some .boolean) 1 := ⟨lg_in (List.mem_of_getElem? (i := 1380) (by decide +kernel)) rfl, lg_in (List.mem_of_getElem? (i := 104) (by decide +kernel)) rfl, by decide +kernel⟩
theorem mi_X12_readsRooms : MI yX12_readsRooms := ⟨lg_in (List.mem_of_getElem? (i := 1379) (by decide +kernel)) rfl, lg_in (List.mem_of_getElem? (i := 64) (by decide +kernel)) rfl⟩
theorem mv_X12_readsRule : MV yX12_readsRule cX12_readsRule 2 (some .boolean) 0 := ⟨lg_in (List.mem_of_getElem? (i := 1239) (by decide +kernel)) rfl, lg_in (List.mem_of_getElem? (i := 104) (by decide +kernel)) rfl, by decide +kernel⟩
theorem mi_X12_readsRule : MI yX12_readsRule := ⟨lg_in (List.mem_of_getElem? (i := 1238) (by decide +kernel)) rfl, lg_in (List.mem_of_getElem? (i := 35) (by decide +kernel)) rfl⟩
theorem mv_X12_readsSum : MV yX12_readsSum cX12_readsSum 3 (some .boolean) 0 := ⟨lg_in (List.mem_of_getElem? (i := 1251) (by decide +kernel)) rfl, lg_in (List.mem_of_getElem? (i := 104) (by decide +kernel)) rfl, by decide +kernel⟩
theorem mi_X12_readsSum : MI yX12_readsSum := ⟨lg_in (List.mem_of_getElem? (i := 1250) (by decide +kernel)) rfl, lg_in (List.mem_of_getElem? (i := 38) (by decide +kernel)) rfl⟩
theorem mv_X12_readsTimes : MV yX12_readsTimes cX12_readsTimes 1 none 0 := ⟨lg_in (List.mem_of_getElem? (i := 1330) (by decide +kernel)) rfl, lg_in (List.mem_of_getElem? (i := 104) (by decide +kernel)) rfl, by decide +kernel⟩
theorem mi_X12_readsTimes : MI yX12_readsTimes := ⟨lg_in (List.mem_of_getElem? (i := 1329) (by decide +kernel)) rfl, lg_in (List.mem_of_getElem? (i := 55) (by decide +kernel)) rfl⟩
theorem mv_X12_readsWithin : MV yX12_readsWithin cX12_readsWithin 3 (some .boolean) 1 := ⟨lg_in (List.mem_of_getElem? (i := 1365) (by decide +kernel)) rfl, lg_in (List.mem_of_getElem? (i := 104) (by decide +kernel)) rfl, by decide +kernel⟩
theorem mi_X12_readsWithin : MI yX12_readsWithin := ⟨lg_in (List.mem_of_getElem? (i := 1364) (by decide +kernel)) rfl, lg_in (List.mem_of_getElem? (i := 61) (by decide +kernel)) rfl⟩
theorem mv_X12_reckon : MV yX12_reckon cX12_reckon 3 (some .int) 3 := ⟨lg_in (List.mem_of_getElem? (i := 1415) (by decide +kernel)) rfl, lg_in (List.mem_of_getElem? (i := 104) (by decide +kernel)) rfl, by decide +kernel⟩
theorem ms_X12_reckon : Cond.static yX12_reckon ∈ lw_g := lg_in (List.mem_of_getElem? (i := 1414) (by decide +kernel)) rfl
theorem mv_X12_reckonsTo : MV yX12_reckonsTo cX12_reckonsTo 8 (some .int) 2 := ⟨lg_in (List.mem_of_getElem? (i := 1412) (by decide +kernel)) rfl, lg_in (List.mem_of_getElem? (i := 104) (by decide +kernel)) rfl, by decide +kernel⟩
theorem mi_X12_reckonsTo : MI yX12_reckonsTo := ⟨lg_in (List.mem_of_getElem? (i := 1411) (by decide +kernel)) rfl, lg_in (List.mem_of_getElem? (i := 71) (by decide +kernel)) rfl⟩
theorem mv_X12_repeats : MV yX12_repeats cX12_repeats 6 (some .boolean) 3 := ⟨lg_in (List.mem_of_getElem? (i := 1334) (by decide +kernel)) rfl, lg_in (List.mem_of_getElem? (i := 104) (by decide +kernel)) rfl, by decide +kernel⟩
theorem mi_X12_repeats : MI yX12_repeats := ⟨lg_in (List.mem_of_getElem? (i := 1333) (by decide +kernel)) rfl, lg_in (List.mem_of_getElem? (i := 56) (by decide +kernel)) rfl⟩
theorem mv_X12_roundsGo : MV yX12_roundsGo cX12_roundsGo 4 none 1 := ⟨lg_in (List.mem_of_getElem? (i := 1392) (by decide +kernel)) rfl, lg_in (List.mem_of_getElem? (i := 104) (by decide +kernel)) rfl, by decide +kernel⟩
theorem mi_X12_roundsGo : MI yX12_roundsGo := ⟨lg_in (List.mem_of_getElem? (i := 1391) (by decide +kernel)) rfl, lg_in (List.mem_of_getElem? (i := 66) (by decide +kernel)) rfl⟩
theorem mv_X12_sevenTo : MV yX12_sevenTo cX12_sevenTo 3 (some .int) 1 := ⟨lg_in (List.mem_of_getElem? (i := 1493) (by decide +kernel)) rfl, lg_in (List.mem_of_getElem? (i := 104) (by decide +kernel)) rfl, by decide +kernel⟩
theorem ms_X12_sevenTo : Cond.static yX12_sevenTo ∈ lw_g := lg_in (List.mem_of_getElem? (i := 1492) (by decide +kernel)) rfl
theorem mv_X12_size : MV yX12_size cX12_size 1 (some .int) 1 := ⟨lg_in (List.mem_of_getElem? (i := 1576) (by decide +kernel)) rfl, lg_in (List.mem_of_getElem? (i := 104) (by decide +kernel)) rfl, by decide +kernel⟩
theorem ms_X12_size : Cond.static yX12_size ∈ lw_g := lg_in (List.mem_of_getElem? (i := 1575) (by decide +kernel)) rfl
theorem mv_X12_sumSign : MV yX12_sumSign cX12_sumSign 1 (some .int) 1 := ⟨lg_in (List.mem_of_getElem? (i := 1278) (by decide +kernel)) rfl, lg_in (List.mem_of_getElem? (i := 104) (by decide +kernel)) rfl, by decide +kernel⟩
theorem ms_X12_sumSign : Cond.static yX12_sumSign ∈ lw_g := lg_in (List.mem_of_getElem? (i := 1277) (by decide +kernel)) rfl
theorem mv_X12_takes : MV yX12_takes cX12_takes 2 (some .boolean) 1 := ⟨lg_in (List.mem_of_getElem? (i := 1314) (by decide +kernel)) rfl, lg_in (List.mem_of_getElem? (i := 104) (by decide +kernel)) rfl, by decide +kernel⟩
theorem mi_X12_takes : MI yX12_takes := ⟨lg_in (List.mem_of_getElem? (i := 1313) (by decide +kernel)) rfl, lg_in (List.mem_of_getElem? (i := 52) (by decide +kernel)) rfl⟩
theorem mv_X12_toldWomen : MV yX12_toldWomen cX12_toldWomen 3 (some .int) 0 := ⟨lg_in (List.mem_of_getElem? (i := 1601) (by decide +kernel)) rfl, lg_in (List.mem_of_getElem? (i := 104) (by decide +kernel)) rfl, by decide +kernel⟩
theorem mi_X12_toldWomen : MI yX12_toldWomen := ⟨lg_in (List.mem_of_getElem? (i := 1600) (by decide +kernel)) rfl, lg_in (List.mem_of_getElem? (i := 90) (by decide +kernel)) rfl⟩
theorem mv_X12_turnOf : MV yX12_turnOf cX12_turnOf 5 none 1 := ⟨lg_in (List.mem_of_getElem? (i := 1396) (by decide +kernel)) rfl, lg_in (List.mem_of_getElem? (i := 104) (by decide +kernel)) rfl, by decide +kernel⟩
theorem mi_X12_turnOf : MI yX12_turnOf := ⟨lg_in (List.mem_of_getElem? (i := 1395) (by decide +kernel)) rfl, lg_in (List.mem_of_getElem? (i := 67) (by decide +kernel)) rfl⟩
theorem mv_X12_types : MV yX12_types cX12_types 3 none 1 := ⟨lg_in (List.mem_of_getElem? (i := 1227) (by decide +kernel)) rfl, lg_in (List.mem_of_getElem? (i := 104) (by decide +kernel)) rfl, by decide +kernel⟩
theorem mi_X12_types : MI yX12_types := ⟨lg_in (List.mem_of_getElem? (i := 1226) (by decide +kernel)) rfl, lg_in (List.mem_of_getElem? (i := 33) (by decide +kernel)) rfl⟩
theorem mv_X12_waitTop : MV yX12_waitTop cX12_waitTop 1 (some .int) 0 := ⟨lg_in (List.mem_of_getElem? (i := 1286) (by decide +kernel)) rfl, lg_in (List.mem_of_getElem? (i := 104) (by decide +kernel)) rfl, by decide +kernel⟩
theorem mi_X12_waitTop : MI yX12_waitTop := ⟨lg_in (List.mem_of_getElem? (i := 1285) (by decide +kernel)) rfl, lg_in (List.mem_of_getElem? (i := 45) (by decide +kernel)) rfl⟩
theorem mv_X12_womenIn : MV yX12_womenIn cX12_womenIn 4 (some .int) 1 := ⟨lg_in (List.mem_of_getElem? (i := 1443) (by decide +kernel)) rfl, lg_in (List.mem_of_getElem? (i := 104) (by decide +kernel)) rfl, by decide +kernel⟩
theorem mi_X12_womenIn : MI yX12_womenIn := ⟨lg_in (List.mem_of_getElem? (i := 1442) (by decide +kernel)) rfl, lg_in (List.mem_of_getElem? (i := 78) (by decide +kernel)) rfl⟩
theorem mv_X12_wrongAt : MV yX12_wrongAt cX12_wrongAt 3 (some .boolean) 2 := ⟨lg_in (List.mem_of_getElem? (i := 1247) (by decide +kernel)) rfl, lg_in (List.mem_of_getElem? (i := 104) (by decide +kernel)) rfl, by decide +kernel⟩
theorem mi_X12_wrongAt : MI yX12_wrongAt := ⟨lg_in (List.mem_of_getElem? (i := 1246) (by decide +kernel)) rfl, lg_in (List.mem_of_getElem? (i := 37) (by decide +kernel)) rfl⟩
theorem mv_X2_amountOf : MV yX2_amountOf cX2_amountOf 6 (some .int) 3 := ⟨lg_in (List.mem_of_getElem? (i := 747) (by decide +kernel)) rfl, lg_in (List.mem_of_getElem? (i := 102) (by decide +kernel)) rfl, by decide +kernel⟩
theorem mi_X2_amountOf : MI yX2_amountOf := ⟨lg_in (List.mem_of_getElem? (i := 745) (by decide +kernel)) rfl, lg_in (List.mem_of_getElem? (i := 746) (by decide +kernel)) rfl⟩
theorem mv_X2_isAnyTrue : MV yX2_isAnyTrue cX2_isAnyTrue 4 (some .boolean) 2 := ⟨lg_in (List.mem_of_getElem? (i := 690) (by decide +kernel)) rfl, lg_in (List.mem_of_getElem? (i := 102) (by decide +kernel)) rfl, by decide +kernel⟩
theorem mi_X2_isAnyTrue : MI yX2_isAnyTrue := ⟨lg_in (List.mem_of_getElem? (i := 688) (by decide +kernel)) rfl, lg_in (List.mem_of_getElem? (i := 689) (by decide +kernel)) rfl⟩
theorem mv_X2_joined : MV yX2_joined cX2_joined 3 (some .int) 3 := ⟨lg_in (List.mem_of_getElem? (i := 700) (by decide +kernel)) rfl, lg_in (List.mem_of_getElem? (i := 102) (by decide +kernel)) rfl, by decide +kernel⟩
theorem ms_X2_joined : Cond.static yX2_joined ∈ lw_g := lg_in (List.mem_of_getElem? (i := 699) (by decide +kernel)) rfl
theorem mv_X2_letterValue : MV yX2_letterValue cX2_letterValue 2 (some .int) 2 := ⟨lg_in (List.mem_of_getElem? (i := 697) (by decide +kernel)) rfl, lg_in (List.mem_of_getElem? (i := 102) (by decide +kernel)) rfl, by decide +kernel⟩
theorem ms_X2_letterValue : Cond.static yX2_letterValue ∈ lw_g := lg_in (List.mem_of_getElem? (i := 696) (by decide +kernel)) rfl
theorem mv_X2_reckon : MV yX2_reckon cX2_reckon 11 (some .int) 3 := ⟨lg_in (List.mem_of_getElem? (i := 694) (by decide +kernel)) rfl, lg_in (List.mem_of_getElem? (i := 102) (by decide +kernel)) rfl, by decide +kernel⟩
theorem mi_X2_reckon : MI yX2_reckon := ⟨lg_in (List.mem_of_getElem? (i := 693) (by decide +kernel)) rfl, lg_in (List.mem_of_getElem? (i := 19) (by decide +kernel)) rfl⟩
theorem mv_X4_carryOut : MV yX4_carryOut cX4_carryOut 5 none 2 := ⟨lg_in (List.mem_of_getElem? (i := 638) (by decide +kernel)) rfl, lg_in (List.mem_of_getElem? (i := 97) (by decide +kernel)) rfl, by decide +kernel⟩
theorem mi_X4_carryOut : MI yX4_carryOut := ⟨lg_in (List.mem_of_getElem? (i := 636) (by decide +kernel)) rfl, lg_in (List.mem_of_getElem? (i := 637) (by decide +kernel)) rfl⟩
theorem mv_X4_read : MV yX4_read cX4_read 3 none 1 := ⟨lg_in (List.mem_of_getElem? (i := 609) (by decide +kernel)) rfl, lg_in (List.mem_of_getElem? (i := 97) (by decide +kernel)) rfl, by decide +kernel⟩
theorem mi_X4_read : MI yX4_read := ⟨lg_in (List.mem_of_getElem? (i := 607) (by decide +kernel)) rfl, lg_in (List.mem_of_getElem? (i := 608) (by decide +kernel)) rfl⟩
theorem mv_X4_readDoor : MV yX4_readDoor cX4_readDoor 3 none 0 := ⟨lg_in (List.mem_of_getElem? (i := 628) (by decide +kernel)) rfl, lg_in (List.mem_of_getElem? (i := 97) (by decide +kernel)) rfl, by decide +kernel⟩
theorem mi_X4_readDoor : MI yX4_readDoor := ⟨lg_in (List.mem_of_getElem? (i := 627) (by decide +kernel)) rfl, lg_in (List.mem_of_getElem? (i := 15) (by decide +kernel)) rfl⟩
theorem mv_X4_readKind : MV yX4_readKind cX4_readKind 1 none 0 := ⟨lg_in (List.mem_of_getElem? (i := 621) (by decide +kernel)) rfl, lg_in (List.mem_of_getElem? (i := 97) (by decide +kernel)) rfl, by decide +kernel⟩
theorem mi_X4_readKind : MI yX4_readKind := ⟨lg_in (List.mem_of_getElem? (i := 620) (by decide +kernel)) rfl, lg_in (List.mem_of_getElem? (i := 14) (by decide +kernel)) rfl⟩
theorem mv_X4_readLine : MV yX4_readLine cX4_readLine 2 none 0 := ⟨lg_in (List.mem_of_getElem? (i := 614) (by decide +kernel)) rfl, lg_in (List.mem_of_getElem? (i := 97) (by decide +kernel)) rfl, by decide +kernel⟩
theorem mi_X4_readLine : MI yX4_readLine := ⟨lg_in (List.mem_of_getElem? (i := 613) (by decide +kernel)) rfl, lg_in (List.mem_of_getElem? (i := 13) (by decide +kernel)) rfl⟩
theorem mv_X4_readRooms : MV yX4_readRooms cX4_readRooms 2 none 0 := ⟨lg_in (List.mem_of_getElem? (i := 633) (by decide +kernel)) rfl, lg_in (List.mem_of_getElem? (i := 97) (by decide +kernel)) rfl, by decide +kernel⟩
theorem mi_X4_readRooms : MI yX4_readRooms := ⟨lg_in (List.mem_of_getElem? (i := 632) (by decide +kernel)) rfl, lg_in (List.mem_of_getElem? (i := 16) (by decide +kernel)) rfl⟩
theorem mv_X5_areColours : MV yX5_areColours cX5_areColours 4 (some .boolean) 2 := ⟨lg_in (List.mem_of_getElem? (i := 940) (by decide +kernel)) rfl, lg_in (List.mem_of_getElem? (i := 109) (by decide +kernel)) rfl, by decide +kernel⟩
theorem ms_X5_areColours : Cond.static yX5_areColours ∈ lw_g := lg_in (List.mem_of_getElem? (i := 939) (by decide +kernel)) rfl
theorem mv_X5_areDials : MV yX5_areDials cX5_areDials 3 (some .boolean) 2 := ⟨lg_in (List.mem_of_getElem? (i := 971) (by decide +kernel)) rfl, lg_in (List.mem_of_getElem? (i := 109) (by decide +kernel)) rfl, by decide +kernel⟩
theorem ms_X5_areDials : Cond.static yX5_areDials ∈ lw_g := lg_in (List.mem_of_getElem? (i := 970) (by decide +kernel)) rfl
theorem mv_X5_couldBe : MV yX5_couldBe cX5_couldBe 7 (some .boolean) 3 := ⟨lg_in (List.mem_of_getElem? (i := 947) (by decide +kernel)) rfl, lg_in (List.mem_of_getElem? (i := 109) (by decide +kernel)) rfl, by decide +kernel⟩
theorem ms_X5_couldBe : Cond.static yX5_couldBe ∈ lw_g := lg_in (List.mem_of_getElem? (i := 946) (by decide +kernel)) rfl
theorem mv_X5_dialTurns : MV yX5_dialTurns cX5_dialTurns 5 (some .int) 2 := ⟨lg_in (List.mem_of_getElem? (i := 974) (by decide +kernel)) rfl, lg_in (List.mem_of_getElem? (i := 109) (by decide +kernel)) rfl, by decide +kernel⟩
theorem ms_X5_dialTurns : Cond.static yX5_dialTurns ∈ lw_g := lg_in (List.mem_of_getElem? (i := 973) (by decide +kernel)) rfl
theorem mv_X5_firstOfAnother : MV yX5_firstOfAnother cX5_firstOfAnother 4 (some .int) 3 := ⟨lg_in (List.mem_of_getElem? (i := 994) (by decide +kernel)) rfl, lg_in (List.mem_of_getElem? (i := 109) (by decide +kernel)) rfl, by decide +kernel⟩
theorem ms_X5_firstOfAnother : Cond.static yX5_firstOfAnother ∈ lw_g := lg_in (List.mem_of_getElem? (i := 993) (by decide +kernel)) rfl
theorem mv_X5_howManyCurls : MV yX5_howManyCurls cX5_howManyCurls 4 (some .int) 2 := ⟨lg_in (List.mem_of_getElem? (i := 944) (by decide +kernel)) rfl, lg_in (List.mem_of_getElem? (i := 109) (by decide +kernel)) rfl, by decide +kernel⟩
theorem ms_X5_howManyCurls : Cond.static yX5_howManyCurls ∈ lw_g := lg_in (List.mem_of_getElem? (i := 943) (by decide +kernel)) rfl
theorem mv_X5_howManyWeigh : MV yX5_howManyWeigh cX5_howManyWeigh 5 (some .int) 3 := ⟨lg_in (List.mem_of_getElem? (i := 990) (by decide +kernel)) rfl, lg_in (List.mem_of_getElem? (i := 109) (by decide +kernel)) rfl, by decide +kernel⟩
theorem ms_X5_howManyWeigh : Cond.static yX5_howManyWeigh ∈ lw_g := lg_in (List.mem_of_getElem? (i := 989) (by decide +kernel)) rfl
theorem mv_X5_leastCurls : MV yX5_leastCurls cX5_leastCurls 3 (some .int) 2 := ⟨lg_in (List.mem_of_getElem? (i := 957) (by decide +kernel)) rfl, lg_in (List.mem_of_getElem? (i := 109) (by decide +kernel)) rfl, by decide +kernel⟩
theorem ms_X5_leastCurls : Cond.static yX5_leastCurls ∈ lw_g := lg_in (List.mem_of_getElem? (i := 956) (by decide +kernel)) rfl
theorem mv_X5_mostWeight : MV yX5_mostWeight cX5_mostWeight 7 (some .int) 2 := ⟨lg_in (List.mem_of_getElem? (i := 987) (by decide +kernel)) rfl, lg_in (List.mem_of_getElem? (i := 109) (by decide +kernel)) rfl, by decide +kernel⟩
theorem ms_X5_mostWeight : Cond.static yX5_mostWeight ∈ lw_g := lg_in (List.mem_of_getElem? (i := 986) (by decide +kernel)) rfl
theorem mv_X5_rightOnes : MV yX5_rightOnes cX5_rightOnes 6 (some .int) 3 := ⟨lg_in (List.mem_of_getElem? (i := 950) (by decide +kernel)) rfl, lg_in (List.mem_of_getElem? (i := 109) (by decide +kernel)) rfl, by decide +kernel⟩
theorem ms_X5_rightOnes : Cond.static yX5_rightOnes ∈ lw_g := lg_in (List.mem_of_getElem? (i := 949) (by decide +kernel)) rfl
theorem mv_X5_ringMoves : MV yX5_ringMoves cX5_ringMoves 3 (some .int) 1 := ⟨lg_in (List.mem_of_getElem? (i := 964) (by decide +kernel)) rfl, lg_in (List.mem_of_getElem? (i := 109) (by decide +kernel)) rfl, by decide +kernel⟩
theorem ms_X5_ringMoves : Cond.static yX5_ringMoves ∈ lw_g := lg_in (List.mem_of_getElem? (i := 963) (by decide +kernel)) rfl
theorem mv_X5_sharedOnes : MV yX5_sharedOnes cX5_sharedOnes 8 (some .int) 3 := ⟨lg_in (List.mem_of_getElem? (i := 953) (by decide +kernel)) rfl, lg_in (List.mem_of_getElem? (i := 109) (by decide +kernel)) rfl, by decide +kernel⟩
theorem ms_X5_sharedOnes : Cond.static yX5_sharedOnes ∈ lw_g := lg_in (List.mem_of_getElem? (i := 952) (by decide +kernel)) rfl
theorem mv_X5_stepsFrom : MV yX5_stepsFrom cX5_stepsFrom 6 (some .int) 3 := ⟨lg_in (List.mem_of_getElem? (i := 1004) (by decide +kernel)) rfl, lg_in (List.mem_of_getElem? (i := 109) (by decide +kernel)) rfl, by decide +kernel⟩
theorem ms_X5_stepsFrom : Cond.static yX5_stepsFrom ∈ lw_g := lg_in (List.mem_of_getElem? (i := 1003) (by decide +kernel)) rfl
theorem mv_X5_turnsFrom : MV yX5_turnsFrom cX5_turnsFrom 8 (some .int) 3 := ⟨lg_in (List.mem_of_getElem? (i := 977) (by decide +kernel)) rfl, lg_in (List.mem_of_getElem? (i := 109) (by decide +kernel)) rfl, by decide +kernel⟩
theorem ms_X5_turnsFrom : Cond.static yX5_turnsFrom ∈ lw_g := lg_in (List.mem_of_getElem? (i := 976) (by decide +kernel)) rfl
theorem mv_X5_weekSteps : MV yX5_weekSteps cX5_weekSteps 5 (some .int) 1 := ⟨lg_in (List.mem_of_getElem? (i := 1001) (by decide +kernel)) rfl, lg_in (List.mem_of_getElem? (i := 109) (by decide +kernel)) rfl, by decide +kernel⟩
theorem ms_X5_weekSteps : Cond.static yX5_weekSteps ∈ lw_g := lg_in (List.mem_of_getElem? (i := 1000) (by decide +kernel)) rfl
theorem mv_X6_allRooms : MV yX6_allRooms cX6_allRooms 3 (some .int) 0 := ⟨lg_in (List.mem_of_getElem? (i := 857) (by decide +kernel)) rfl, lg_in (List.mem_of_getElem? (i := 101) (by decide +kernel)) rfl, by decide +kernel⟩
theorem mi_X6_allRooms : MI yX6_allRooms := ⟨lg_in (List.mem_of_getElem? (i := 855) (by decide +kernel)) rfl, lg_in (List.mem_of_getElem? (i := 856) (by decide +kernel)) rfl⟩
theorem mv_X6_fewestTo : MV yX6_fewestTo cX6_fewestTo 3 (some .int) 1 := ⟨lg_in (List.mem_of_getElem? (i := 839) (by decide +kernel)) rfl, lg_in (List.mem_of_getElem? (i := 101) (by decide +kernel)) rfl, by decide +kernel⟩
theorem mi_X6_fewestTo : MI yX6_fewestTo := ⟨lg_in (List.mem_of_getElem? (i := 837) (by decide +kernel)) rfl, lg_in (List.mem_of_getElem? (i := 838) (by decide +kernel)) rfl⟩
theorem mv_X6_firstDoor : MV yX6_firstDoor cX6_firstDoor 7 (some .int) 3 := ⟨lg_in (List.mem_of_getElem? (i := 843) (by decide +kernel)) rfl, lg_in (List.mem_of_getElem? (i := 101) (by decide +kernel)) rfl, by decide +kernel⟩
theorem mi_X6_firstDoor : MI yX6_firstDoor := ⟨lg_in (List.mem_of_getElem? (i := 841) (by decide +kernel)) rfl, lg_in (List.mem_of_getElem? (i := 842) (by decide +kernel)) rfl⟩
theorem mv_X6_freeKinds : MV yX6_freeKinds cX6_freeKinds 4 (some .int) 1 := ⟨lg_in (List.mem_of_getElem? (i := 830) (by decide +kernel)) rfl, lg_in (List.mem_of_getElem? (i := 101) (by decide +kernel)) rfl, by decide +kernel⟩
theorem mi_X6_freeKinds : MI yX6_freeKinds := ⟨lg_in (List.mem_of_getElem? (i := 829) (by decide +kernel)) rfl, lg_in (List.mem_of_getElem? (i := 25) (by decide +kernel)) rfl⟩
theorem mv_X6_goOn : MV yX6_goOn cX6_goOn 8 none 1 := ⟨lg_in (List.mem_of_getElem? (i := 820) (by decide +kernel)) rfl, lg_in (List.mem_of_getElem? (i := 101) (by decide +kernel)) rfl, by decide +kernel⟩
theorem mi_X6_goOn : MI yX6_goOn := ⟨lg_in (List.mem_of_getElem? (i := 819) (by decide +kernel)) rfl, lg_in (List.mem_of_getElem? (i := 24) (by decide +kernel)) rfl⟩
theorem mv_X6_joinRooms : MV yX6_joinRooms cX6_joinRooms 5 none 1 := ⟨lg_in (List.mem_of_getElem? (i := 813) (by decide +kernel)) rfl, lg_in (List.mem_of_getElem? (i := 101) (by decide +kernel)) rfl, by decide +kernel⟩
theorem mi_X6_joinRooms : MI yX6_joinRooms := ⟨lg_in (List.mem_of_getElem? (i := 812) (by decide +kernel)) rfl, lg_in (List.mem_of_getElem? (i := 23) (by decide +kernel)) rfl⟩
theorem mv_X6_lowestDoor : MV yX6_lowestDoor cX6_lowestDoor 8 (some .int) 4 := ⟨lg_in (List.mem_of_getElem? (i := 848) (by decide +kernel)) rfl, lg_in (List.mem_of_getElem? (i := 101) (by decide +kernel)) rfl, by decide +kernel⟩
theorem mi_X6_lowestDoor : MI yX6_lowestDoor := ⟨lg_in (List.mem_of_getElem? (i := 847) (by decide +kernel)) rfl, lg_in (List.mem_of_getElem? (i := 27) (by decide +kernel)) rfl⟩
theorem mv_X6_placeOf : MV yX6_placeOf cX6_placeOf 5 (some .int) 1 := ⟨lg_in (List.mem_of_getElem? (i := 823) (by decide +kernel)) rfl, lg_in (List.mem_of_getElem? (i := 101) (by decide +kernel)) rfl, by decide +kernel⟩
theorem ms_X6_placeOf : Cond.static yX6_placeOf ∈ lw_g := lg_in (List.mem_of_getElem? (i := 822) (by decide +kernel)) rfl
theorem mv_X6_roomsNextTo : MV yX6_roomsNextTo cX6_roomsNextTo 5 (some .int) 2 := ⟨lg_in (List.mem_of_getElem? (i := 834) (by decide +kernel)) rfl, lg_in (List.mem_of_getElem? (i := 101) (by decide +kernel)) rfl, by decide +kernel⟩
theorem mi_X6_roomsNextTo : MI yX6_roomsNextTo := ⟨lg_in (List.mem_of_getElem? (i := 833) (by decide +kernel)) rfl, lg_in (List.mem_of_getElem? (i := 26) (by decide +kernel)) rfl⟩
theorem mv_X6_spread : MV yX6_spread cX6_spread 6 none 4 := ⟨lg_in (List.mem_of_getElem? (i := 809) (by decide +kernel)) rfl, lg_in (List.mem_of_getElem? (i := 101) (by decide +kernel)) rfl, by decide +kernel⟩
theorem mi_X6_spread : MI yX6_spread := ⟨lg_in (List.mem_of_getElem? (i := 807) (by decide +kernel)) rfl, lg_in (List.mem_of_getElem? (i := 808) (by decide +kernel)) rfl⟩
theorem mv_X7_fail : MV yX7_fail cX7_fail 3 none 2 := ⟨lg_in (List.mem_of_getElem? (i := 473) (by decide +kernel)) rfl, lg_in (List.mem_of_getElem? (i := 95) (by decide +kernel)) rfl, by decide +kernel⟩
theorem mi_X7_fail : MI yX7_fail := ⟨lg_in (List.mem_of_getElem? (i := 471) (by decide +kernel)) rfl, lg_in (List.mem_of_getElem? (i := 472) (by decide +kernel)) rfl⟩
theorem mv_X7_isAtEnd : MV yX7_isAtEnd cX7_isAtEnd 1 (some .boolean) 0 := ⟨lg_in (List.mem_of_getElem? (i := 542) (by decide +kernel)) rfl, lg_in (List.mem_of_getElem? (i := 95) (by decide +kernel)) rfl, by decide +kernel⟩
theorem mi_X7_isAtEnd : MI yX7_isAtEnd := ⟨lg_in (List.mem_of_getElem? (i := 540) (by decide +kernel)) rfl, lg_in (List.mem_of_getElem? (i := 541) (by decide +kernel)) rfl⟩
theorem mv_X7_isDigit : MV yX7_isDigit cX7_isDigit 1 (some .boolean) 0 := ⟨lg_in (List.mem_of_getElem? (i := 513) (by decide +kernel)) rfl, lg_in (List.mem_of_getElem? (i := 95) (by decide +kernel)) rfl, by decide +kernel⟩
theorem mi_X7_isDigit : MI yX7_isDigit := ⟨lg_in (List.mem_of_getElem? (i := 511) (by decide +kernel)) rfl, lg_in (List.mem_of_getElem? (i := 512) (by decide +kernel)) rfl⟩
theorem mv_X7_isSound : MV yX7_isSound cX7_isSound 1 (some .boolean) 0 := ⟨lg_in (List.mem_of_getElem? (i := 465) (by decide +kernel)) rfl, lg_in (List.mem_of_getElem? (i := 95) (by decide +kernel)) rfl, by decide +kernel⟩
theorem mi_X7_isSound : MI yX7_isSound := ⟨lg_in (List.mem_of_getElem? (i := 463) (by decide +kernel)) rfl, lg_in (List.mem_of_getElem? (i := 464) (by decide +kernel)) rfl⟩
theorem mv_X7_number : MV yX7_number cX7_number 6 (some .int) 2 := ⟨lg_in (List.mem_of_getElem? (i := 509) (by decide +kernel)) rfl, lg_in (List.mem_of_getElem? (i := 95) (by decide +kernel)) rfl, by decide +kernel⟩
theorem mi_X7_number : MI yX7_number := ⟨lg_in (List.mem_of_getElem? (i := 507) (by decide +kernel)) rfl, lg_in (List.mem_of_getElem? (i := 508) (by decide +kernel)) rfl⟩
theorem mv_X7_open : MV yX7_open cX7_open 2 none 1 := ⟨lg_in (List.mem_of_getElem? (i := 449) (by decide +kernel)) rfl, lg_in (List.mem_of_getElem? (i := 95) (by decide +kernel)) rfl, by decide +kernel⟩
theorem mi_X7_open : MI yX7_open := ⟨lg_in (List.mem_of_getElem? (i := 447) (by decide +kernel)) rfl, lg_in (List.mem_of_getElem? (i := 448) (by decide +kernel)) rfl⟩
theorem mv_X7_step : MV yX7_step cX7_step 2 none 0 := ⟨lg_in (List.mem_of_getElem? (i := 453) (by decide +kernel)) rfl, lg_in (List.mem_of_getElem? (i := 95) (by decide +kernel)) rfl, by decide +kernel⟩
theorem mi_X7_step : MI yX7_step := ⟨lg_in (List.mem_of_getElem? (i := 451) (by decide +kernel)) rfl, lg_in (List.mem_of_getElem? (i := 452) (by decide +kernel)) rfl⟩
theorem mv_X7_take : MV yX7_take cX7_take 2 (some .boolean) 1 := ⟨lg_in (List.mem_of_getElem? (i := 529) (by decide +kernel)) rfl, lg_in (List.mem_of_getElem? (i := 95) (by decide +kernel)) rfl, by decide +kernel⟩
theorem mi_X7_take : MI yX7_take := ⟨lg_in (List.mem_of_getElem? (i := 527) (by decide +kernel)) rfl, lg_in (List.mem_of_getElem? (i := 528) (by decide +kernel)) rfl⟩
theorem mv_X7_want : MV yX7_want cX7_want 2 none 1 := ⟨lg_in (List.mem_of_getElem? (i := 499) (by decide +kernel)) rfl, lg_in (List.mem_of_getElem? (i := 95) (by decide +kernel)) rfl, by decide +kernel⟩
theorem mi_X7_want : MI yX7_want := ⟨lg_in (List.mem_of_getElem? (i := 497) (by decide +kernel)) rfl, lg_in (List.mem_of_getElem? (i := 498) (by decide +kernel)) rfl⟩
theorem mv_X8_add : MV yX8_add cX8_add 3 none 1 := ⟨lg_in (List.mem_of_getElem? (i := 441) (by decide +kernel)) rfl, lg_in (List.mem_of_getElem? (i := 94) (by decide +kernel)) rfl, by decide +kernel⟩
theorem mi_X8_add : MI yX8_add := ⟨lg_in (List.mem_of_getElem? (i := 439) (by decide +kernel)) rfl, lg_in (List.mem_of_getElem? (i := 440) (by decide +kernel)) rfl⟩
theorem mv_X8_at : MV yX8_at cX8_at 2 (some .int) 1 := ⟨lg_in (List.mem_of_getElem? (i := 898) (by decide +kernel)) rfl, lg_in (List.mem_of_getElem? (i := 94) (by decide +kernel)) rfl, by decide +kernel⟩
theorem mi_X8_at : MI yX8_at := ⟨lg_in (List.mem_of_getElem? (i := 896) (by decide +kernel)) rfl, lg_in (List.mem_of_getElem? (i := 897) (by decide +kernel)) rfl⟩
theorem mv_X8_clear : MV yX8_clear cX8_clear 1 none 0 := ⟨lg_in (List.mem_of_getElem? (i := 546) (by decide +kernel)) rfl, lg_in (List.mem_of_getElem? (i := 94) (by decide +kernel)) rfl, by decide +kernel⟩
theorem mi_X8_clear : MI yX8_clear := ⟨lg_in (List.mem_of_getElem? (i := 544) (by decide +kernel)) rfl, lg_in (List.mem_of_getElem? (i := 545) (by decide +kernel)) rfl⟩
theorem mv_X9_copy : MV yX9_copy cX9_copy 2 none 1 := ⟨lg_in (List.mem_of_getElem? (i := 786) (by decide +kernel)) rfl, lg_in (List.mem_of_getElem? (i := 99) (by decide +kernel)) rfl, by decide +kernel⟩
theorem mi_X9_copy : MI yX9_copy := ⟨lg_in (List.mem_of_getElem? (i := 784) (by decide +kernel)) rfl, lg_in (List.mem_of_getElem? (i := 785) (by decide +kernel)) rfl⟩
theorem mv_X9_draw : MV yX9_draw cX9_draw 1 (some .int) 0 := ⟨lg_in (List.mem_of_getElem? (i := 763) (by decide +kernel)) rfl, lg_in (List.mem_of_getElem? (i := 99) (by decide +kernel)) rfl, by decide +kernel⟩
theorem mi_X9_draw : MI yX9_draw := ⟨lg_in (List.mem_of_getElem? (i := 761) (by decide +kernel)) rfl, lg_in (List.mem_of_getElem? (i := 762) (by decide +kernel)) rfl⟩
theorem mv_X9_inRoom : MV yX9_inRoom cX9_inRoom 4 (some .int) 1 := ⟨lg_in (List.mem_of_getElem? (i := 737) (by decide +kernel)) rfl, lg_in (List.mem_of_getElem? (i := 99) (by decide +kernel)) rfl, by decide +kernel⟩
theorem mi_X9_inRoom : MI yX9_inRoom := ⟨lg_in (List.mem_of_getElem? (i := 735) (by decide +kernel)) rfl, lg_in (List.mem_of_getElem? (i := 736) (by decide +kernel)) rfl⟩
theorem mv_X9_isTold : MV yX9_isTold cX9_isTold 2 (some .boolean) 1 := ⟨lg_in (List.mem_of_getElem? (i := 555) (by decide +kernel)) rfl, lg_in (List.mem_of_getElem? (i := 99) (by decide +kernel)) rfl, by decide +kernel⟩
theorem mi_X9_isTold : MI yX9_isTold := ⟨lg_in (List.mem_of_getElem? (i := 553) (by decide +kernel)) rfl, lg_in (List.mem_of_getElem? (i := 554) (by decide +kernel)) rfl⟩
theorem mv_X9_kindsLeft : MV yX9_kindsLeft cX9_kindsLeft 4 (some .int) 1 := ⟨lg_in (List.mem_of_getElem? (i := 708) (by decide +kernel)) rfl, lg_in (List.mem_of_getElem? (i := 99) (by decide +kernel)) rfl, by decide +kernel⟩
theorem mi_X9_kindsLeft : MI yX9_kindsLeft := ⟨lg_in (List.mem_of_getElem? (i := 706) (by decide +kernel)) rfl, lg_in (List.mem_of_getElem? (i := 707) (by decide +kernel)) rfl⟩
theorem mv_X9_pinsOf : MV yX9_pinsOf cX9_pinsOf 4 (some .int) 1 := ⟨lg_in (List.mem_of_getElem? (i := 601) (by decide +kernel)) rfl, lg_in (List.mem_of_getElem? (i := 99) (by decide +kernel)) rfl, by decide +kernel⟩
theorem mi_X9_pinsOf : MI yX9_pinsOf := ⟨lg_in (List.mem_of_getElem? (i := 599) (by decide +kernel)) rfl, lg_in (List.mem_of_getElem? (i := 600) (by decide +kernel)) rfl⟩
theorem mv_X9_pinsOfAll : MV yX9_pinsOfAll cX9_pinsOfAll 3 (some .int) 0 := ⟨lg_in (List.mem_of_getElem? (i := 773) (by decide +kernel)) rfl, lg_in (List.mem_of_getElem? (i := 99) (by decide +kernel)) rfl, by decide +kernel⟩
theorem mi_X9_pinsOfAll : MI yX9_pinsOfAll := ⟨lg_in (List.mem_of_getElem? (i := 771) (by decide +kernel)) rfl, lg_in (List.mem_of_getElem? (i := 772) (by decide +kernel)) rfl⟩
theorem mv_X9_pinsOfKind : MV yX9_pinsOfKind cX9_pinsOfKind 3 (some .int) 2 := ⟨lg_in (List.mem_of_getElem? (i := 733) (by decide +kernel)) rfl, lg_in (List.mem_of_getElem? (i := 99) (by decide +kernel)) rfl, by decide +kernel⟩
theorem mi_X9_pinsOfKind : MI yX9_pinsOfKind := ⟨lg_in (List.mem_of_getElem? (i := 731) (by decide +kernel)) rfl, lg_in (List.mem_of_getElem? (i := 732) (by decide +kernel)) rfl⟩
theorem mv_X9_put : MV yX9_put cX9_put 3 none 2 := ⟨lg_in (List.mem_of_getElem? (i := 432) (by decide +kernel)) rfl, lg_in (List.mem_of_getElem? (i := 99) (by decide +kernel)) rfl, by decide +kernel⟩
theorem mi_X9_put : MI yX9_put := ⟨lg_in (List.mem_of_getElem? (i := 430) (by decide +kernel)) rfl, lg_in (List.mem_of_getElem? (i := 431) (by decide +kernel)) rfl⟩
theorem mv_X9_roomOf : MV yX9_roomOf cX9_roomOf 2 (some .int) 1 := ⟨lg_in (List.mem_of_getElem? (i := 685) (by decide +kernel)) rfl, lg_in (List.mem_of_getElem? (i := 99) (by decide +kernel)) rfl, by decide +kernel⟩
theorem mi_X9_roomOf : MI yX9_roomOf := ⟨lg_in (List.mem_of_getElem? (i := 683) (by decide +kernel)) rfl, lg_in (List.mem_of_getElem? (i := 684) (by decide +kernel)) rfl⟩
theorem mv_X9_takePin : MV yX9_takePin cX9_takePin 3 none 2 := ⟨lg_in (List.mem_of_getElem? (i := 758) (by decide +kernel)) rfl, lg_in (List.mem_of_getElem? (i := 99) (by decide +kernel)) rfl, by decide +kernel⟩
theorem mi_X9_takePin : MI yX9_takePin := ⟨lg_in (List.mem_of_getElem? (i := 756) (by decide +kernel)) rfl, lg_in (List.mem_of_getElem? (i := 757) (by decide +kernel)) rfl⟩
theorem mv_X9_unrust : MV yX9_unrust cX9_unrust 2 none 1 := ⟨lg_in (List.mem_of_getElem? (i := 651) (by decide +kernel)) rfl, lg_in (List.mem_of_getElem? (i := 99) (by decide +kernel)) rfl, by decide +kernel⟩
theorem mi_X9_unrust : MI yX9_unrust := ⟨lg_in (List.mem_of_getElem? (i := 649) (by decide +kernel)) rfl, lg_in (List.mem_of_getElem? (i := 650) (by decide +kernel)) rfl⟩
theorem mv_X9_whoPutUp : MV yX9_whoPutUp cX9_whoPutUp 5 (some .int) 2 := ⟨lg_in (List.mem_of_getElem? (i := 910) (by decide +kernel)) rfl, lg_in (List.mem_of_getElem? (i := 99) (by decide +kernel)) rfl, by decide +kernel⟩
theorem mi_X9_whoPutUp : MI yX9_whoPutUp := ⟨lg_in (List.mem_of_getElem? (i := 908) (by decide +kernel)) rfl, lg_in (List.mem_of_getElem? (i := 909) (by decide +kernel)) rfl⟩
theorem ms_min : Cond.static Lib.Math.min.name ∈ lw_g := lg_in (List.mem_of_getElem? (i := 749) (by decide +kernel)) rfl
theorem mcode_min : Cond.code Lib.Math.min.name Lib.Math.min.code 2 (some .int) ∈ lw_g := lg_in (List.mem_of_getElem? (i := 750) (by decide +kernel)) rfl
theorem ms_max : Cond.static Lib.Math.max.name ∈ lw_g := lg_in (List.mem_of_getElem? (i := 752) (by decide +kernel)) rfl
theorem mcode_max : Cond.code Lib.Math.max.name Lib.Math.max.code 2 (some .int) ∈ lw_g := lg_in (List.mem_of_getElem? (i := 753) (by decide +kernel)) rfl
theorem mnat_copy : Cond.native arraycopyName ∈ lw_g := lg_in (List.mem_of_getElem? (i := 586) (by decide +kernel)) rfl
theorem ms_copy : Cond.static arraycopyName ∈ lw_g := lg_in (List.mem_of_getElem? (i := 585) (by decide +kernel)) rfl
theorem mini_Math : Cond.initialized "java/lang/Math" ∈ lw_g := lg_in (List.mem_of_getElem? (i := 108) (by decide +kernel)) rfl
theorem mini_System : Cond.initialized "java/lang/System" ∈ lw_g := lg_in (List.mem_of_getElem? (i := 106) (by decide +kernel)) rfl
