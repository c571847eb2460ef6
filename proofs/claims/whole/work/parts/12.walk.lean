abbrev W_X10_knowDoor (E : GE) (O_t : Nat) (a_t : Nat → Nat) (O_p1 : Nat) (a_p1 : Nat → Nat) (O_p2 : Nat) (a_p2 : Nat → Nat) (t_passed : Int32) (t_jammed : Int32) (t_known : (Nat → Int32)) (p1_told : Int32) (p1_round : Int32) (p1_x : Int32) (p1_rust : (Nat → Int32)) (p1_rooms : (Nat → Int32)) (p1_pins : (Nat → Int32)) (p2_told : Int32) (p2_barred : Int32) (p2_one : (Nat → Int32)) (p2_other : (Nat → Int32)) (p2_fits : (Nat → Int32)) : va_W := [(O_t, ob_X10 a_t t_passed t_jammed), (a_t 0, .inl (E.2.1, 10, .inl t_known)), (O_p1, ob_X9 a_p1 p1_told p1_round p1_x), (a_p1 0, .inl (E.2.1, 24, .inl p1_rust)), (a_p1 1, .inl (E.2.1, 10, .inl p1_rooms)), (a_p1 3, .inl (E.2.1, 60, .inl p1_pins)), (O_p2, ob_X0 a_p2 p2_told p2_barred), (a_p2 0, .inl (E.2.1, 24, .inl p2_one)), (a_p2 1, .inl (E.2.1, 24, .inl p2_other)), (a_p2 3, .inl (E.2.1, 24, .inl p2_fits))]
def f_X10_knowDoor (t_known : (Nat → Int32)) (p1_told : Int32) (p1_rust : (Nat → Int32)) (p1_rooms : (Nat → Int32)) (p1_pins : (Nat → Int32)) (p2_told : Int32) (p2_one : (Nat → Int32)) (p2_other : (Nat → Int32)) (p2_fits : (Nat → Int32)) (x3 : Int32) : Option ((Nat → Int32)) := rd t_known 10 (0 : Int32) fun v1 => rd p2_fits 24 x3 fun v2 => (f_X9_kindsLeft p1_told p1_pins v1).bind fun u3 => nm (v2 &&& u3) fun v4 => if v4 = 0 then (some t_known) else (f_J6_numberOfTrailingZeros_0f7a4 v4).bind fun u5 => wr t_known 10 (2 : Int32) x3 fun g6 => rd g6 10 (1 : Int32) fun v7 => (f_X0_behind p2_told p2_one p2_other x3 v7).bind fun u8 => wr g6 10 (3 : Int32) u8 fun g9 => rd p1_rust 24 x3 fun v10 => wr g9 10 (4 : Int32) v10 fun g11 => wr g11 10 (5 : Int32) u5 fun g12 => (f_X9_pinsOfKind p1_told p1_pins v1 u5).bind fun u13 => wr g12 10 (6 : Int32) u13 fun g14 => rd g14 10 (3 : Int32) fun v15 => (f_X9_inRoom p1_told p1_rooms v15).bind fun u16 => (f_J6_bitCount_0f7a4 u16).bind fun u17 => wr g14 10 (8 : Int32) u17 fun g18 => some g18
theorem dX10_knowDoor_0 : decode cX10_knowDoor 0 = .ok (.aload_n 0, 1) := by decide +kernel
theorem dX10_knowDoor_1 : decode cX10_knowDoor 1 = .ok (.getfield 9, 3) := by decide +kernel
theorem dX10_knowDoor_4 : decode cX10_knowDoor 4 = .ok (.iconst 0, 1) := by decide +kernel
theorem dX10_knowDoor_5 : decode cX10_knowDoor 5 = .ok (.iaload, 1) := by decide +kernel
theorem dX10_knowDoor_6 : decode cX10_knowDoor 6 = .ok (.istore 4, 2) := by decide +kernel
theorem dX10_knowDoor_8 : decode cX10_knowDoor 8 = .ok (.aload_n 2, 1) := by decide +kernel
theorem dX10_knowDoor_9 : decode cX10_knowDoor 9 = .ok (.getfield 93, 3) := by decide +kernel
theorem dX10_knowDoor_12 : decode cX10_knowDoor 12 = .ok (.iload_n 3, 1) := by decide +kernel
theorem dX10_knowDoor_13 : decode cX10_knowDoor 13 = .ok (.iaload, 1) := by decide +kernel
theorem dX10_knowDoor_14 : decode cX10_knowDoor 14 = .ok (.aload_n 1, 1) := by decide +kernel
theorem dX10_knowDoor_15 : decode cX10_knowDoor 15 = .ok (.iload 4, 2) := by decide +kernel
theorem dX10_knowDoor_17 : decode cX10_knowDoor 17 = .ok (.invokevirtual 80, 3) := by decide +kernel
theorem dX10_knowDoor_20 : decode cX10_knowDoor 20 = .ok (.iand, 1) := by decide +kernel
theorem dX10_knowDoor_21 : decode cX10_knowDoor 21 = .ok (.istore 5, 2) := by decide +kernel
theorem dX10_knowDoor_23 : decode cX10_knowDoor 23 = .ok (.iload 5, 2) := by decide +kernel
theorem dX10_knowDoor_25 : decode cX10_knowDoor 25 = .ok (.ifCond .ne 4, 3) := by decide +kernel
theorem dX10_knowDoor_28 : decode cX10_knowDoor 28 = .ok (.return_, 1) := by decide +kernel
theorem dX10_knowDoor_29 : decode cX10_knowDoor 29 = .ok (.iload 5, 2) := by decide +kernel
theorem dX10_knowDoor_31 : decode cX10_knowDoor 31 = .ok (.invokestatic 105, 3) := by decide +kernel
theorem dX10_knowDoor_34 : decode cX10_knowDoor 34 = .ok (.istore 6, 2) := by decide +kernel
theorem dX10_knowDoor_36 : decode cX10_knowDoor 36 = .ok (.aload_n 0, 1) := by decide +kernel
theorem dX10_knowDoor_37 : decode cX10_knowDoor 37 = .ok (.getfield 9, 3) := by decide +kernel
theorem dX10_knowDoor_40 : decode cX10_knowDoor 40 = .ok (.iconst 2, 1) := by decide +kernel
theorem dX10_knowDoor_41 : decode cX10_knowDoor 41 = .ok (.iload_n 3, 1) := by decide +kernel
theorem dX10_knowDoor_42 : decode cX10_knowDoor 42 = .ok (.iastore, 1) := by decide +kernel
theorem dX10_knowDoor_43 : decode cX10_knowDoor 43 = .ok (.aload_n 0, 1) := by decide +kernel
theorem dX10_knowDoor_44 : decode cX10_knowDoor 44 = .ok (.getfield 9, 3) := by decide +kernel
theorem dX10_knowDoor_47 : decode cX10_knowDoor 47 = .ok (.iconst 3, 1) := by decide +kernel
theorem dX10_knowDoor_48 : decode cX10_knowDoor 48 = .ok (.aload_n 2, 1) := by decide +kernel
theorem dX10_knowDoor_49 : decode cX10_knowDoor 49 = .ok (.iload_n 3, 1) := by decide +kernel
theorem dX10_knowDoor_50 : decode cX10_knowDoor 50 = .ok (.aload_n 0, 1) := by decide +kernel
theorem dX10_knowDoor_51 : decode cX10_knowDoor 51 = .ok (.getfield 9, 3) := by decide +kernel
theorem dX10_knowDoor_54 : decode cX10_knowDoor 54 = .ok (.iconst 1, 1) := by decide +kernel
theorem dX10_knowDoor_55 : decode cX10_knowDoor 55 = .ok (.iaload, 1) := by decide +kernel
theorem dX10_knowDoor_56 : decode cX10_knowDoor 56 = .ok (.invokevirtual 110, 3) := by decide +kernel
theorem dX10_knowDoor_59 : decode cX10_knowDoor 59 = .ok (.iastore, 1) := by decide +kernel
theorem dX10_knowDoor_60 : decode cX10_knowDoor 60 = .ok (.aload_n 0, 1) := by decide +kernel
theorem dX10_knowDoor_61 : decode cX10_knowDoor 61 = .ok (.getfield 9, 3) := by decide +kernel
theorem dX10_knowDoor_64 : decode cX10_knowDoor 64 = .ok (.iconst 4, 1) := by decide +kernel
theorem dX10_knowDoor_65 : decode cX10_knowDoor 65 = .ok (.aload_n 1, 1) := by decide +kernel
theorem dX10_knowDoor_66 : decode cX10_knowDoor 66 = .ok (.getfield 68, 3) := by decide +kernel
theorem dX10_knowDoor_69 : decode cX10_knowDoor 69 = .ok (.iload_n 3, 1) := by decide +kernel
theorem dX10_knowDoor_70 : decode cX10_knowDoor 70 = .ok (.iaload, 1) := by decide +kernel
theorem dX10_knowDoor_71 : decode cX10_knowDoor 71 = .ok (.iastore, 1) := by decide +kernel
theorem dX10_knowDoor_72 : decode cX10_knowDoor 72 = .ok (.aload_n 0, 1) := by decide +kernel
theorem dX10_knowDoor_73 : decode cX10_knowDoor 73 = .ok (.getfield 9, 3) := by decide +kernel
theorem dX10_knowDoor_76 : decode cX10_knowDoor 76 = .ok (.iconst 5, 1) := by decide +kernel
theorem dX10_knowDoor_77 : decode cX10_knowDoor 77 = .ok (.iload 6, 2) := by decide +kernel
theorem dX10_knowDoor_79 : decode cX10_knowDoor 79 = .ok (.iastore, 1) := by decide +kernel
theorem dX10_knowDoor_80 : decode cX10_knowDoor 80 = .ok (.aload_n 0, 1) := by decide +kernel
theorem dX10_knowDoor_81 : decode cX10_knowDoor 81 = .ok (.getfield 9, 3) := by decide +kernel
theorem dX10_knowDoor_84 : decode cX10_knowDoor 84 = .ok (.bipush 6, 2) := by decide +kernel
theorem dX10_knowDoor_86 : decode cX10_knowDoor 86 = .ok (.aload_n 1, 1) := by decide +kernel
theorem dX10_knowDoor_87 : decode cX10_knowDoor 87 = .ok (.iload 4, 2) := by decide +kernel
theorem dX10_knowDoor_89 : decode cX10_knowDoor 89 = .ok (.iload 6, 2) := by decide +kernel
theorem dX10_knowDoor_91 : decode cX10_knowDoor 91 = .ok (.invokevirtual 113, 3) := by decide +kernel
theorem dX10_knowDoor_94 : decode cX10_knowDoor 94 = .ok (.iastore, 1) := by decide +kernel
theorem dX10_knowDoor_95 : decode cX10_knowDoor 95 = .ok (.aload_n 0, 1) := by decide +kernel
theorem dX10_knowDoor_96 : decode cX10_knowDoor 96 = .ok (.getfield 9, 3) := by decide +kernel
theorem dX10_knowDoor_99 : decode cX10_knowDoor 99 = .ok (.bipush 8, 2) := by decide +kernel
theorem dX10_knowDoor_101 : decode cX10_knowDoor 101 = .ok (.aload_n 1, 1) := by decide +kernel
theorem dX10_knowDoor_102 : decode cX10_knowDoor 102 = .ok (.aload_n 0, 1) := by decide +kernel
theorem dX10_knowDoor_103 : decode cX10_knowDoor 103 = .ok (.getfield 9, 3) := by decide +kernel
theorem dX10_knowDoor_106 : decode cX10_knowDoor 106 = .ok (.iconst 3, 1) := by decide +kernel
theorem dX10_knowDoor_107 : decode cX10_knowDoor 107 = .ok (.iaload, 1) := by decide +kernel
theorem dX10_knowDoor_108 : decode cX10_knowDoor 108 = .ok (.invokevirtual 116, 3) := by decide +kernel
theorem dX10_knowDoor_111 : decode cX10_knowDoor 111 = .ok (.invokestatic 119, 3) := by decide +kernel
theorem dX10_knowDoor_114 : decode cX10_knowDoor 114 = .ok (.iastore, 1) := by decide +kernel
theorem dX10_knowDoor_115 : decode cX10_knowDoor 115 = .ok (.return_, 1) := by decide +kernel
set_option maxHeartbeats 4000000 in
set_option maxRecDepth 100000 in
theorem c_X10_knowDoor (l : Launch) (E : GE) (o_t : Nat) (a_t : Nat → Nat) (o_p1 : Nat) (a_p1 : Nat → Nat) (o_p2 : Nat) (a_p2 : Nat → Nat) (t_passed : Int32) (t_jammed : Int32) (t_known : (Nat → Int32)) (p1_told : Int32) (p1_round : Int32) (p1_x : Int32) (p1_rust : (Nat → Int32)) (p1_rooms : (Nat → Int32)) (p1_pins : (Nat → Int32)) (p2_told : Int32) (p2_barred : Int32) (p2_one : (Nat → Int32)) (p2_other : (Nat → Int32)) (p2_fits : (Nat → Int32)) (x3 : Int32) (r : (Nat → Int32)) (h : f_X10_knowDoor t_known p1_told p1_rust p1_rooms p1_pins p2_told p2_one p2_other p2_fits x3 = some r) : Cn l E yX10_knowDoor cX10_knowDoor 7 none 3 0 0 [.ref o_t, .ref o_p1, .ref o_p2, .int x3] (W_X10_knowDoor E o_t a_t o_p1 a_p1 o_p2 a_p2 t_passed t_jammed t_known p1_told p1_round p1_x p1_rust p1_rooms p1_pins p2_told p2_barred p2_one p2_other p2_fits) (fun w => w = (W_X10_knowDoor E o_t a_t o_p1 a_p1 o_p2 a_p2 t_passed t_jammed r p1_told p1_round p1_x p1_rust p1_rooms p1_pins p2_told p2_barred p2_one p2_other p2_fits)) none := by
  refine Cn.ofV (by decide +kernel) (Nat.le_of_ble_eq_true rfl) (fun X hX hR C hret => ?_)
  subst hX
  show Gx X E 0 0 (W_X10_knowDoor E o_t a_t o_p1 a_p1 o_p2 a_p2 t_passed t_jammed t_known p1_told p1_round p1_x p1_rust p1_rooms p1_pins p2_told p2_barred p2_one p2_other p2_fits) 0 [(0, .ref o_t), (1, .ref o_p1), (2, .ref o_p2), (3, .int x3)] []
  unfold f_X10_knowDoor at h
  refine g_aload_n (pc := 0) C dX10_knowDoor_0 rfl 0 rfl ?_
  refine g_get (pc := 1) C fl_X10_9 dX10_knowDoor_1 0 rfl rfl ?_
  refine g_iconst (pc := 4) (v := 0) C dX10_knowDoor_4 (by decide) ?_
  refine g_iald (pc := 5) C dX10_knowDoor_5 1 rfl h (fun v1 h => ?_)
  refine g_istore (pc := 6) (lv' := [(4, .int v1), (0, .ref o_t), (1, .ref o_p1), (2, .ref o_p2), (3, .int x3)]) C dX10_knowDoor_6 (by decide) rfl ?_
  refine g_aload_n (pc := 8) C dX10_knowDoor_8 rfl 3 rfl ?_
  refine g_get (pc := 9) C fl_X10_93 dX10_knowDoor_9 6 rfl rfl ?_
  refine g_iload_n (pc := 12) C dX10_knowDoor_12 rfl 4 rfl ?_
  refine g_iald (pc := 13) C dX10_knowDoor_13 9 rfl h (fun v2 h => ?_)
  refine g_aload_n (pc := 14) C dX10_knowDoor_14 rfl 2 rfl ?_
  refine g_iload (pc := 15) C dX10_knowDoor_15 0 rfl ?_
  obtain ⟨u3, hu3, h⟩ := bs h
  refine g_callV (pc := 17) (st := [.int v2]) (st1 := [.int u3, .int v2]) (ws' := (W_X10_knowDoor E o_t a_t o_p1 a_p1 o_p2 a_p2 t_passed t_jammed t_known p1_told p1_round p1_x p1_rust p1_rooms p1_pins p2_told p2_barred p2_one p2_other p2_fits)) C mv_X9_kindsLeft mi_X9_kindsLeft ml_X10_80 (c_X9_kindsLeft X.2.1 E o_p1 a_p1 p1_told p1_round p1_x p1_pins v1 u3 hu3) dX10_knowDoor_17 (by decide) rfl (Nat.le_of_ble_eq_true rfl) 2 8 rfl rfl [2, 5] rfl (by decide) rfl rfl rfl rfl ?_
  refine g_iand (pc := 20) C dX10_knowDoor_20 ?_
  refine g_nm h (fun v4 h => ?_)
  refine g_istore (pc := 21) (lv' := [(5, .int v4), (4, .int v1), (0, .ref o_t), (1, .ref o_p1), (2, .ref o_p2), (3, .int x3)]) C dX10_knowDoor_21 (by decide) rfl ?_
  refine g_iload (pc := 23) C dX10_knowDoor_23 0 rfl ?_
  refine g_if_ne (pc := 25) (tgt := 29) C dX10_knowDoor_25 (by decide) h (fun h => ?_) (fun h => ?_)
  · refine g_iload (pc := 29) C dX10_knowDoor_29 0 rfl ?_
    obtain ⟨u5, hu5, h⟩ := bs h
    refine g_callS (pc := 31) (st := []) (st1 := [.int u5]) (ws' := (W_X10_knowDoor E o_t a_t o_p1 a_p1 o_p2 a_p2 t_passed t_jammed t_known p1_told p1_round p1_x p1_rust p1_rooms p1_pins p2_told p2_barred p2_one p2_other p2_fits)) C mv_J6_numberOfTrailingZeros_0f7a4 ms_J6_numberOfTrailingZeros_0f7a4 ml_X10_105 (c_J6_numberOfTrailingZeros_0f7a4 X.2.1 E v4 u5 hu5) dX10_knowDoor_31 (by decide) rfl (Nat.le_of_ble_eq_true rfl) [] rfl (by decide) rfl rfl rfl rfl ?_
    refine g_istore (pc := 34) (lv' := [(6, .int u5), (5, .int v4), (4, .int v1), (0, .ref o_t), (1, .ref o_p1), (2, .ref o_p2), (3, .int x3)]) C dX10_knowDoor_34 (by decide) rfl ?_
    refine g_aload_n (pc := 36) C dX10_knowDoor_36 rfl 3 rfl ?_
    refine g_get (pc := 37) C fl_X10_9 dX10_knowDoor_37 0 rfl rfl ?_
    refine g_iconst (pc := 40) (v := 2) C dX10_knowDoor_40 (by decide) ?_
    refine g_iload_n (pc := 41) C dX10_knowDoor_41 rfl 6 rfl ?_
    refine g_iast (pc := 42) C dX10_knowDoor_42 1 rfl h (fun g6 h => ?_)
    refine g_ws (ws' := (W_X10_knowDoor E o_t a_t o_p1 a_p1 o_p2 a_p2 t_passed t_jammed g6 p1_told p1_round p1_x p1_rust p1_rooms p1_pins p2_told p2_barred p2_one p2_other p2_fits)) rfl ?_
    refine g_aload_n (pc := 43) C dX10_knowDoor_43 rfl 3 rfl ?_
    refine g_get (pc := 44) C fl_X10_9 dX10_knowDoor_44 0 rfl rfl ?_
    refine g_iconst (pc := 47) (v := 3) C dX10_knowDoor_47 (by decide) ?_
    refine g_aload_n (pc := 48) C dX10_knowDoor_48 rfl 5 rfl ?_
    refine g_iload_n (pc := 49) C dX10_knowDoor_49 rfl 6 rfl ?_
    refine g_aload_n (pc := 50) C dX10_knowDoor_50 rfl 3 rfl ?_
    refine g_get (pc := 51) C fl_X10_9 dX10_knowDoor_51 0 rfl rfl ?_
    refine g_iconst (pc := 54) (v := 1) C dX10_knowDoor_54 (by decide) ?_
    refine g_iald (pc := 55) C dX10_knowDoor_55 1 rfl h (fun v7 h => ?_)
    obtain ⟨u8, hu8, h⟩ := bs h
    refine g_callV (pc := 56) (st := [.int (3 : Int32), .ref (a_t 0)]) (st1 := [.int u8, .int (3 : Int32), .ref (a_t 0)]) (ws' := (W_X10_knowDoor E o_t a_t o_p1 a_p1 o_p2 a_p2 t_passed t_jammed g6 p1_told p1_round p1_x p1_rust p1_rooms p1_pins p2_told p2_barred p2_one p2_other p2_fits)) C mv_X0_behind mi_X0_behind ml_X10_110 (c_X0_behind X.2.1 E o_p2 a_p2 p2_told p2_barred p2_one p2_other x3 v7 u8 hu8) dX10_knowDoor_56 (by decide) rfl (Nat.le_of_ble_eq_true rfl) 6 0 rfl rfl [6, 7, 8] rfl (by decide) rfl rfl rfl rfl ?_
    refine g_iast (pc := 59) C dX10_knowDoor_59 1 rfl h (fun g9 h => ?_)
    refine g_ws (ws' := (W_X10_knowDoor E o_t a_t o_p1 a_p1 o_p2 a_p2 t_passed t_jammed g9 p1_told p1_round p1_x p1_rust p1_rooms p1_pins p2_told p2_barred p2_one p2_other p2_fits)) rfl ?_
    refine g_aload_n (pc := 60) C dX10_knowDoor_60 rfl 3 rfl ?_
    refine g_get (pc := 61) C fl_X10_9 dX10_knowDoor_61 0 rfl rfl ?_
    refine g_iconst (pc := 64) (v := 4) C dX10_knowDoor_64 (by decide) ?_
    refine g_aload_n (pc := 65) C dX10_knowDoor_65 rfl 4 rfl ?_
    refine g_get (pc := 66) C fl_X10_68 dX10_knowDoor_66 2 rfl rfl ?_
    refine g_iload_n (pc := 69) C dX10_knowDoor_69 rfl 6 rfl ?_
    refine g_iald (pc := 70) C dX10_knowDoor_70 3 rfl h (fun v10 h => ?_)
    refine g_iast (pc := 71) C dX10_knowDoor_71 1 rfl h (fun g11 h => ?_)
    refine g_ws (ws' := (W_X10_knowDoor E o_t a_t o_p1 a_p1 o_p2 a_p2 t_passed t_jammed g11 p1_told p1_round p1_x p1_rust p1_rooms p1_pins p2_told p2_barred p2_one p2_other p2_fits)) rfl ?_
    refine g_aload_n (pc := 72) C dX10_knowDoor_72 rfl 3 rfl ?_
    refine g_get (pc := 73) C fl_X10_9 dX10_knowDoor_73 0 rfl rfl ?_
    refine g_iconst (pc := 76) (v := 5) C dX10_knowDoor_76 (by decide) ?_
    refine g_iload (pc := 77) C dX10_knowDoor_77 0 rfl ?_
    refine g_iast (pc := 79) C dX10_knowDoor_79 1 rfl h (fun g12 h => ?_)
    refine g_ws (ws' := (W_X10_knowDoor E o_t a_t o_p1 a_p1 o_p2 a_p2 t_passed t_jammed g12 p1_told p1_round p1_x p1_rust p1_rooms p1_pins p2_told p2_barred p2_one p2_other p2_fits)) rfl ?_
    refine g_aload_n (pc := 80) C dX10_knowDoor_80 rfl 3 rfl ?_
    refine g_get (pc := 81) C fl_X10_9 dX10_knowDoor_81 0 rfl rfl ?_
    refine g_bipush (pc := 84) (v := 6) C dX10_knowDoor_84 (by decide) ?_
    refine g_aload_n (pc := 86) C dX10_knowDoor_86 rfl 4 rfl ?_
    refine g_iload (pc := 87) C dX10_knowDoor_87 2 rfl ?_
    refine g_iload (pc := 89) C dX10_knowDoor_89 0 rfl ?_
    obtain ⟨u13, hu13, h⟩ := bs h
    refine g_callV (pc := 91) (st := [.int (6 : Int32), .ref (a_t 0)]) (st1 := [.int u13, .int (6 : Int32), .ref (a_t 0)]) (ws' := (W_X10_knowDoor E o_t a_t o_p1 a_p1 o_p2 a_p2 t_passed t_jammed g12 p1_told p1_round p1_x p1_rust p1_rooms p1_pins p2_told p2_barred p2_one p2_other p2_fits)) C mv_X9_pinsOfKind mi_X9_pinsOfKind ml_X10_113 (c_X9_pinsOfKind X.2.1 E o_p1 a_p1 p1_told p1_round p1_x p1_pins v1 u5 u13 hu13) dX10_knowDoor_91 (by decide) rfl (Nat.le_of_ble_eq_true rfl) 2 8 rfl rfl [2, 5] rfl (by decide) rfl rfl rfl rfl ?_
    refine g_iast (pc := 94) C dX10_knowDoor_94 1 rfl h (fun g14 h => ?_)
    refine g_ws (ws' := (W_X10_knowDoor E o_t a_t o_p1 a_p1 o_p2 a_p2 t_passed t_jammed g14 p1_told p1_round p1_x p1_rust p1_rooms p1_pins p2_told p2_barred p2_one p2_other p2_fits)) rfl ?_
    refine g_aload_n (pc := 95) C dX10_knowDoor_95 rfl 3 rfl ?_
    refine g_get (pc := 96) C fl_X10_9 dX10_knowDoor_96 0 rfl rfl ?_
    refine g_bipush (pc := 99) (v := 8) C dX10_knowDoor_99 (by decide) ?_
    refine g_aload_n (pc := 101) C dX10_knowDoor_101 rfl 4 rfl ?_
    refine g_aload_n (pc := 102) C dX10_knowDoor_102 rfl 3 rfl ?_
    refine g_get (pc := 103) C fl_X10_9 dX10_knowDoor_103 0 rfl rfl ?_
    refine g_iconst (pc := 106) (v := 3) C dX10_knowDoor_106 (by decide) ?_
    refine g_iald (pc := 107) C dX10_knowDoor_107 1 rfl h (fun v15 h => ?_)
    obtain ⟨u16, hu16, h⟩ := bs h
    refine g_callV (pc := 108) (st := [.int (8 : Int32), .ref (a_t 0)]) (st1 := [.int u16, .int (8 : Int32), .ref (a_t 0)]) (ws' := (W_X10_knowDoor E o_t a_t o_p1 a_p1 o_p2 a_p2 t_passed t_jammed g14 p1_told p1_round p1_x p1_rust p1_rooms p1_pins p2_told p2_barred p2_one p2_other p2_fits)) C mv_X9_inRoom mi_X9_inRoom ml_X10_116 (c_X9_inRoom X.2.1 E o_p1 a_p1 p1_told p1_round p1_x p1_rooms v15 u16 hu16) dX10_knowDoor_108 (by decide) rfl (Nat.le_of_ble_eq_true rfl) 2 8 rfl rfl [2, 4] rfl (by decide) rfl rfl rfl rfl ?_
    obtain ⟨u17, hu17, h⟩ := bs h
    refine g_callS (pc := 111) (st := [.int (8 : Int32), .ref (a_t 0)]) (st1 := [.int u17, .int (8 : Int32), .ref (a_t 0)]) (ws' := (W_X10_knowDoor E o_t a_t o_p1 a_p1 o_p2 a_p2 t_passed t_jammed g14 p1_told p1_round p1_x p1_rust p1_rooms p1_pins p2_told p2_barred p2_one p2_other p2_fits)) C mv_J6_bitCount_0f7a4 ms_J6_bitCount_0f7a4 ml_X10_119 (c_J6_bitCount_0f7a4 X.2.1 E u16 u17 hu17) dX10_knowDoor_111 (by decide) rfl (Nat.le_of_ble_eq_true rfl) [] rfl (by decide) rfl rfl rfl rfl ?_
    refine g_iast (pc := 114) C dX10_knowDoor_114 1 rfl h (fun g18 h => ?_)
    refine g_ws (ws' := (W_X10_knowDoor E o_t a_t o_p1 a_p1 o_p2 a_p2 t_passed t_jammed g18 p1_told p1_round p1_x p1_rust p1_rooms p1_pins p2_told p2_barred p2_one p2_other p2_fits)) rfl ?_
    cases h
    exact hret _ _ _ dX10_knowDoor_115 rfl
  · cases h
    exact hret _ _ _ dX10_knowDoor_28 rfl
abbrev W_X10_knowWoman (E : GE) (O_t : Nat) (a_t : Nat → Nat) (O_p1 : Nat) (a_p1 : Nat → Nat) (t_passed : Int32) (t_jammed : Int32) (t_known : (Nat → Int32)) (p1_told : Int32) (p1_round : Int32) (p1_x : Int32) (p1_rooms : (Nat → Int32)) (p1_pins : (Nat → Int32)) : va_W := [(O_t, ob_X10 a_t t_passed t_jammed), (a_t 0, .inl (E.2.1, 10, .inl t_known)), (O_p1, ob_X9 a_p1 p1_told p1_round p1_x), (a_p1 1, .inl (E.2.1, 10, .inl p1_rooms)), (a_p1 3, .inl (E.2.1, 60, .inl p1_pins))]
def f_X10_knowWoman (t_known : (Nat → Int32)) (p1_told : Int32) (p1_round : Int32) (p1_rooms : (Nat → Int32)) (p1_pins : (Nat → Int32)) (x2 : Int32) : Option ((Nat → Int32)) := (f_J7_fill_53178 10 t_known (0 : Int32)).bind fun u1 => wr u1 10 (0 : Int32) x2 fun g2 => (f_X9_roomOf p1_told p1_rooms x2).bind fun u3 => wr g2 10 (1 : Int32) u3 fun g4 => (f_X9_pinsOf p1_told p1_pins x2).bind fun u5 => wr g4 10 (7 : Int32) u5 fun g6 => rm p1_round (100 : Int32) fun v7 => wr g6 10 (9 : Int32) v7 fun g8 => some g8
theorem dX10_knowWoman_0 : decode cX10_knowWoman 0 = .ok (.aload_n 0, 1) := by decide +kernel
theorem dX10_knowWoman_1 : decode cX10_knowWoman 1 = .ok (.getfield 9, 3) := by decide +kernel
theorem dX10_knowWoman_4 : decode cX10_knowWoman 4 = .ok (.iconst 0, 1) := by decide +kernel
theorem dX10_knowWoman_5 : decode cX10_knowWoman 5 = .ok (.invokestatic 96, 3) := by decide +kernel
theorem dX10_knowWoman_8 : decode cX10_knowWoman 8 = .ok (.aload_n 0, 1) := by decide +kernel
theorem dX10_knowWoman_9 : decode cX10_knowWoman 9 = .ok (.getfield 9, 3) := by decide +kernel
theorem dX10_knowWoman_12 : decode cX10_knowWoman 12 = .ok (.iconst 0, 1) := by decide +kernel
theorem dX10_knowWoman_13 : decode cX10_knowWoman 13 = .ok (.iload_n 2, 1) := by decide +kernel
theorem dX10_knowWoman_14 : decode cX10_knowWoman 14 = .ok (.iastore, 1) := by decide +kernel
theorem dX10_knowWoman_15 : decode cX10_knowWoman 15 = .ok (.aload_n 0, 1) := by decide +kernel
theorem dX10_knowWoman_16 : decode cX10_knowWoman 16 = .ok (.getfield 9, 3) := by decide +kernel
theorem dX10_knowWoman_19 : decode cX10_knowWoman 19 = .ok (.iconst 1, 1) := by decide +kernel
theorem dX10_knowWoman_20 : decode cX10_knowWoman 20 = .ok (.aload_n 1, 1) := by decide +kernel
theorem dX10_knowWoman_21 : decode cX10_knowWoman 21 = .ok (.iload_n 2, 1) := by decide +kernel
theorem dX10_knowWoman_22 : decode cX10_knowWoman 22 = .ok (.invokevirtual 87, 3) := by decide +kernel
theorem dX10_knowWoman_25 : decode cX10_knowWoman 25 = .ok (.iastore, 1) := by decide +kernel
theorem dX10_knowWoman_26 : decode cX10_knowWoman 26 = .ok (.aload_n 0, 1) := by decide +kernel
theorem dX10_knowWoman_27 : decode cX10_knowWoman 27 = .ok (.getfield 9, 3) := by decide +kernel
theorem dX10_knowWoman_30 : decode cX10_knowWoman 30 = .ok (.bipush 7, 2) := by decide +kernel
theorem dX10_knowWoman_32 : decode cX10_knowWoman 32 = .ok (.aload_n 1, 1) := by decide +kernel
theorem dX10_knowWoman_33 : decode cX10_knowWoman 33 = .ok (.iload_n 2, 1) := by decide +kernel
theorem dX10_knowWoman_34 : decode cX10_knowWoman 34 = .ok (.invokevirtual 102, 3) := by decide +kernel
theorem dX10_knowWoman_37 : decode cX10_knowWoman 37 = .ok (.iastore, 1) := by decide +kernel
theorem dX10_knowWoman_38 : decode cX10_knowWoman 38 = .ok (.aload_n 0, 1) := by decide +kernel
theorem dX10_knowWoman_39 : decode cX10_knowWoman 39 = .ok (.getfield 9, 3) := by decide +kernel
theorem dX10_knowWoman_42 : decode cX10_knowWoman 42 = .ok (.bipush 9, 2) := by decide +kernel
theorem dX10_knowWoman_44 : decode cX10_knowWoman 44 = .ok (.aload_n 1, 1) := by decide +kernel
theorem dX10_knowWoman_45 : decode cX10_knowWoman 45 = .ok (.getfield 22, 3) := by decide +kernel
theorem dX10_knowWoman_48 : decode cX10_knowWoman 48 = .ok (.bipush 100, 2) := by decide +kernel
theorem dX10_knowWoman_50 : decode cX10_knowWoman 50 = .ok (.irem, 1) := by decide +kernel
theorem dX10_knowWoman_51 : decode cX10_knowWoman 51 = .ok (.iastore, 1) := by decide +kernel
theorem dX10_knowWoman_52 : decode cX10_knowWoman 52 = .ok (.return_, 1) := by decide +kernel
set_option maxHeartbeats 4000000 in
set_option maxRecDepth 100000 in
theorem c_X10_knowWoman (l : Launch) (E : GE) (o_t : Nat) (a_t : Nat → Nat) (o_p1 : Nat) (a_p1 : Nat → Nat) (t_passed : Int32) (t_jammed : Int32) (t_known : (Nat → Int32)) (p1_told : Int32) (p1_round : Int32) (p1_x : Int32) (p1_rooms : (Nat → Int32)) (p1_pins : (Nat → Int32)) (x2 : Int32) (r : (Nat → Int32)) (h : f_X10_knowWoman t_known p1_told p1_round p1_rooms p1_pins x2 = some r) : Cn l E yX10_knowWoman cX10_knowWoman 3 none 3 0 0 [.ref o_t, .ref o_p1, .int x2] (W_X10_knowWoman E o_t a_t o_p1 a_p1 t_passed t_jammed t_known p1_told p1_round p1_x p1_rooms p1_pins) (fun w => w = (W_X10_knowWoman E o_t a_t o_p1 a_p1 t_passed t_jammed r p1_told p1_round p1_x p1_rooms p1_pins)) none := by
  refine Cn.ofV (by decide +kernel) (Nat.le_of_ble_eq_true rfl) (fun X hX hR C hret => ?_)
  subst hX
  show Gx X E 0 0 (W_X10_knowWoman E o_t a_t o_p1 a_p1 t_passed t_jammed t_known p1_told p1_round p1_x p1_rooms p1_pins) 0 [(0, .ref o_t), (1, .ref o_p1), (2, .int x2)] []
  unfold f_X10_knowWoman at h
  refine g_aload_n (pc := 0) C dX10_knowWoman_0 rfl 0 rfl ?_
  refine g_get (pc := 1) C fl_X10_9 dX10_knowWoman_1 0 rfl rfl ?_
  refine g_iconst (pc := 4) (v := 0) C dX10_knowWoman_4 (by decide) ?_
  obtain ⟨u1, hu1, h⟩ := bs h
  refine g_callS (pc := 5) (st := []) (st1 := []) (ws' := (W_X10_knowWoman E o_t a_t o_p1 a_p1 t_passed t_jammed u1 p1_told p1_round p1_x p1_rooms p1_pins)) C mv_J7_fill_53178 ms_J7_fill_53178 ml_X10_96 (c_J7_fill_53178 X.2.1 E (a_t 0) 10 t_known (0 : Int32) u1 hu1) dX10_knowWoman_5 (by decide) rfl (Nat.le_of_ble_eq_true rfl) [1] rfl (by decide) rfl rfl rfl rfl ?_
  refine g_aload_n (pc := 8) C dX10_knowWoman_8 rfl 0 rfl ?_
  refine g_get (pc := 9) C fl_X10_9 dX10_knowWoman_9 0 rfl rfl ?_
  refine g_iconst (pc := 12) (v := 0) C dX10_knowWoman_12 (by decide) ?_
  refine g_iload_n (pc := 13) C dX10_knowWoman_13 rfl 2 rfl ?_
  refine g_iast (pc := 14) C dX10_knowWoman_14 1 rfl h (fun g2 h => ?_)
  refine g_ws (ws' := (W_X10_knowWoman E o_t a_t o_p1 a_p1 t_passed t_jammed g2 p1_told p1_round p1_x p1_rooms p1_pins)) rfl ?_
  refine g_aload_n (pc := 15) C dX10_knowWoman_15 rfl 0 rfl ?_
  refine g_get (pc := 16) C fl_X10_9 dX10_knowWoman_16 0 rfl rfl ?_
  refine g_iconst (pc := 19) (v := 1) C dX10_knowWoman_19 (by decide) ?_
  refine g_aload_n (pc := 20) C dX10_knowWoman_20 rfl 1 rfl ?_
  refine g_iload_n (pc := 21) C dX10_knowWoman_21 rfl 2 rfl ?_
  obtain ⟨u3, hu3, h⟩ := bs h
  refine g_callV (pc := 22) (st := [.int (1 : Int32), .ref (a_t 0)]) (st1 := [.int u3, .int (1 : Int32), .ref (a_t 0)]) (ws' := (W_X10_knowWoman E o_t a_t o_p1 a_p1 t_passed t_jammed g2 p1_told p1_round p1_x p1_rooms p1_pins)) C mv_X9_roomOf mi_X9_roomOf ml_X10_87 (c_X9_roomOf X.2.1 E o_p1 a_p1 p1_told p1_round p1_x p1_rooms x2 u3 hu3) dX10_knowWoman_22 (by decide) rfl (Nat.le_of_ble_eq_true rfl) 2 8 rfl rfl [2, 3] rfl (by decide) rfl rfl rfl rfl ?_
  refine g_iast (pc := 25) C dX10_knowWoman_25 1 rfl h (fun g4 h => ?_)
  refine g_ws (ws' := (W_X10_knowWoman E o_t a_t o_p1 a_p1 t_passed t_jammed g4 p1_told p1_round p1_x p1_rooms p1_pins)) rfl ?_
  refine g_aload_n (pc := 26) C dX10_knowWoman_26 rfl 0 rfl ?_
  refine g_get (pc := 27) C fl_X10_9 dX10_knowWoman_27 0 rfl rfl ?_
  refine g_bipush (pc := 30) (v := 7) C dX10_knowWoman_30 (by decide) ?_
  refine g_aload_n (pc := 32) C dX10_knowWoman_32 rfl 1 rfl ?_
  refine g_iload_n (pc := 33) C dX10_knowWoman_33 rfl 2 rfl ?_
  obtain ⟨u5, hu5, h⟩ := bs h
  refine g_callV (pc := 34) (st := [.int (7 : Int32), .ref (a_t 0)]) (st1 := [.int u5, .int (7 : Int32), .ref (a_t 0)]) (ws' := (W_X10_knowWoman E o_t a_t o_p1 a_p1 t_passed t_jammed g4 p1_told p1_round p1_x p1_rooms p1_pins)) C mv_X9_pinsOf mi_X9_pinsOf ml_X10_102 (c_X9_pinsOf X.2.1 E o_p1 a_p1 p1_told p1_round p1_x p1_pins x2 u5 hu5) dX10_knowWoman_34 (by decide) rfl (Nat.le_of_ble_eq_true rfl) 2 8 rfl rfl [2, 4] rfl (by decide) rfl rfl rfl rfl ?_
  refine g_iast (pc := 37) C dX10_knowWoman_37 1 rfl h (fun g6 h => ?_)
  refine g_ws (ws' := (W_X10_knowWoman E o_t a_t o_p1 a_p1 t_passed t_jammed g6 p1_told p1_round p1_x p1_rooms p1_pins)) rfl ?_
  refine g_aload_n (pc := 38) C dX10_knowWoman_38 rfl 0 rfl ?_
  refine g_get (pc := 39) C fl_X10_9 dX10_knowWoman_39 0 rfl rfl ?_
  refine g_bipush (pc := 42) (v := 9) C dX10_knowWoman_42 (by decide) ?_
  refine g_aload_n (pc := 44) C dX10_knowWoman_44 rfl 1 rfl ?_
  refine g_get (pc := 45) C fl_X10_22 dX10_knowWoman_45 2 rfl rfl ?_
  refine g_bipush (pc := 48) (v := 100) C dX10_knowWoman_48 (by decide) ?_
  refine g_irem (pc := 50) C dX10_knowWoman_50 h (fun v7 h => ?_)
  refine g_iast (pc := 51) C dX10_knowWoman_51 1 rfl h (fun g8 h => ?_)
  refine g_ws (ws' := (W_X10_knowWoman E o_t a_t o_p1 a_p1 t_passed t_jammed g8 p1_told p1_round p1_x p1_rooms p1_pins)) rfl ?_
  cases h
  exact hret _ _ _ dX10_knowWoman_52 rfl
abbrev W_X10_chooseDoor (E : GE) (O_t : Nat) (a_t : Nat → Nat) (O_p1 : Nat) (a_p1 : Nat → Nat) (O_p2 : Nat) (a_p2 : Nat → Nat) (O_p3 : Nat) (a_p3 : Nat → Nat) (t_passed : Int32) (t_jammed : Int32) (t_known : (Nat → Int32)) (p1_told : Int32) (p1_round : Int32) (p1_x : Int32) (p1_rust : (Nat → Int32)) (p1_rooms : (Nat → Int32)) (p1_pins : (Nat → Int32)) (p2_told : Int32) (p2_barred : Int32) (p2_one : (Nat → Int32)) (p2_other : (Nat → Int32)) (p2_fits : (Nat → Int32)) (p3_size : Int32) (p3_rules : Int32) (p3_signs : (Nat → Int32)) (p3_values : (Nat → Int32)) (p3_stack : (Nat → Int32)) (p3_letters : (Nat → Int32)) (p3_amounts : (Nat → Int32)) (p3_conditions : (Nat → Int32)) (p3_ends : (Nat → Int32)) : va_W := [(O_t, ob_X10 a_t t_passed t_jammed), (a_t 0, .inl (E.2.1, 10, .inl t_known)), (O_p1, ob_X9 a_p1 p1_told p1_round p1_x), (a_p1 0, .inl (E.2.1, 24, .inl p1_rust)), (a_p1 1, .inl (E.2.1, 10, .inl p1_rooms)), (a_p1 3, .inl (E.2.1, 60, .inl p1_pins)), (O_p2, ob_X0 a_p2 p2_told p2_barred), (a_p2 0, .inl (E.2.1, 24, .inl p2_one)), (a_p2 1, .inl (E.2.1, 24, .inl p2_other)), (a_p2 3, .inl (E.2.1, 24, .inl p2_fits)), (O_p3, ob_X2 a_p3 p3_size p3_rules), (a_p3 0, .inl (E.2.1, 256, .inl p3_signs)), (a_p3 1, .inl (E.2.1, 256, .inl p3_values)), (a_p3 2, .inl (E.2.1, 64, .inl p3_stack)), (a_p3 3, .inl (E.2.1, 16, .inl p3_letters)), (a_p3 4, .inl (E.2.1, 16, .inl p3_amounts)), (a_p3 5, .inl (E.2.1, 16, .inl p3_conditions)), (a_p3 6, .inl (E.2.1, 16, .inl p3_ends))]
def L_X10_chooseDoor_34 (p1_told : Int32) (p1_rust : (Nat → Int32)) (p1_rooms : (Nat → Int32)) (p1_pins : (Nat → Int32)) (p2_told : Int32) (p2_barred : Int32) (p2_one : (Nat → Int32)) (p2_other : (Nat → Int32)) (p2_fits : (Nat → Int32)) (p3_rules : Int32) (p3_signs : (Nat → Int32)) (p3_values : (Nat → Int32)) (p3_letters : (Nat → Int32)) (p3_amounts : (Nat → Int32)) (p3_conditions : (Nat → Int32)) (p3_ends : (Nat → Int32)) (x5 : Int32) (x6 : Int32) : Nat → Int32 × Int32 × Int32 × (Nat → Int32) × (Nat → Int32) → Option (Int32 × (Nat → Int32) × (Nat → Int32)) := lp fun go s => if (24 : Int32) ≤ s.2.2.1 then (some (s.1, s.2.2.2.1, s.2.2.2.2)) else if ((x6 >>> (s.2.2.1 &&& 31)) &&& (1 : Int32)) = 0 then (nm (s.2.2.1 + (1 : Int32)) fun v6 => go (s.1, s.2.1, v6, s.2.2.2.1, s.2.2.2.2)) else rd p2_fits 24 s.2.2.1 fun v7 => if (v7 &&& x5) = 0 then (nm (s.2.2.1 + (1 : Int32)) fun v8 => go (s.1, s.2.1, v8, s.2.2.2.1, s.2.2.2.2)) else (f_X10_knowDoor s.2.2.2.1 p1_told p1_rust p1_rooms p1_pins p2_told p2_one p2_other p2_fits s.2.2.1).bind fun u9 => (f_X2_amountOf 10 p3_rules p3_signs p3_values s.2.2.2.2 p3_letters p3_amounts p3_conditions p3_ends u9 (101 : Int32) (9999 : Int32)).bind fun u10 => if u10.1 ≤ s.2.1 then (nm (s.2.2.1 + (1 : Int32)) fun v11 => go (s.1, s.2.1, v11, u9, u10.2)) else nm (s.2.2.1 + (1 : Int32)) fun v12 => go (s.2.2.1, u10.1, v12, u9, u10.2)
def f_X10_chooseDoor (t_known : (Nat → Int32)) (p1_told : Int32) (p1_rust : (Nat → Int32)) (p1_rooms : (Nat → Int32)) (p1_pins : (Nat → Int32)) (p2_told : Int32) (p2_barred : Int32) (p2_one : (Nat → Int32)) (p2_other : (Nat → Int32)) (p2_fits : (Nat → Int32)) (p3_rules : Int32) (p3_signs : (Nat → Int32)) (p3_values : (Nat → Int32)) (p3_stack : (Nat → Int32)) (p3_letters : (Nat → Int32)) (p3_amounts : (Nat → Int32)) (p3_conditions : (Nat → Int32)) (p3_ends : (Nat → Int32)) (x4 : Int32) : Option (Int32 × (Nat → Int32) × (Nat → Int32)) := (f_X9_kindsLeft p1_told p1_pins x4).bind fun u1 => (f_X0_unbarred p2_told p2_barred).bind fun u2 => (f_X9_roomOf p1_told p1_rooms x4).bind fun u3 => (f_X0_ofRoom p2_told p2_one p2_other u3).bind fun u4 => nm (u2 &&& u4) fun v5 => L_X10_chooseDoor_34 p1_told p1_rust p1_rooms p1_pins p2_told p2_barred p2_one p2_other p2_fits p3_rules p3_signs p3_values p3_letters p3_amounts p3_conditions p3_ends u1 v5 fu ((-1 : Int32), (0 : Int32), (0 : Int32), t_known, p3_stack)
theorem dX10_chooseDoor_0 : decode cX10_chooseDoor 0 = .ok (.aload_n 1, 1) := by decide +kernel
theorem dX10_chooseDoor_1 : decode cX10_chooseDoor 1 = .ok (.iload 4, 2) := by decide +kernel
theorem dX10_chooseDoor_3 : decode cX10_chooseDoor 3 = .ok (.invokevirtual 80, 3) := by decide +kernel
theorem dX10_chooseDoor_6 : decode cX10_chooseDoor 6 = .ok (.istore 5, 2) := by decide +kernel
theorem dX10_chooseDoor_8 : decode cX10_chooseDoor 8 = .ok (.aload_n 2, 1) := by decide +kernel
theorem dX10_chooseDoor_9 : decode cX10_chooseDoor 9 = .ok (.invokevirtual 84, 3) := by decide +kernel
theorem dX10_chooseDoor_12 : decode cX10_chooseDoor 12 = .ok (.aload_n 2, 1) := by decide +kernel
theorem dX10_chooseDoor_13 : decode cX10_chooseDoor 13 = .ok (.aload_n 1, 1) := by decide +kernel
theorem dX10_chooseDoor_14 : decode cX10_chooseDoor 14 = .ok (.iload 4, 2) := by decide +kernel
theorem dX10_chooseDoor_16 : decode cX10_chooseDoor 16 = .ok (.invokevirtual 87, 3) := by decide +kernel
theorem dX10_chooseDoor_19 : decode cX10_chooseDoor 19 = .ok (.invokevirtual 90, 3) := by decide +kernel
theorem dX10_chooseDoor_22 : decode cX10_chooseDoor 22 = .ok (.iand, 1) := by decide +kernel
theorem dX10_chooseDoor_23 : decode cX10_chooseDoor 23 = .ok (.istore 6, 2) := by decide +kernel
theorem dX10_chooseDoor_25 : decode cX10_chooseDoor 25 = .ok (.iconst (-1), 1) := by decide +kernel
theorem dX10_chooseDoor_26 : decode cX10_chooseDoor 26 = .ok (.istore 7, 2) := by decide +kernel
theorem dX10_chooseDoor_28 : decode cX10_chooseDoor 28 = .ok (.iconst 0, 1) := by decide +kernel
theorem dX10_chooseDoor_29 : decode cX10_chooseDoor 29 = .ok (.istore 8, 2) := by decide +kernel
theorem dX10_chooseDoor_31 : decode cX10_chooseDoor 31 = .ok (.iconst 0, 1) := by decide +kernel
theorem dX10_chooseDoor_32 : decode cX10_chooseDoor 32 = .ok (.istore 9, 2) := by decide +kernel
theorem dX10_chooseDoor_34 : decode cX10_chooseDoor 34 = .ok (.iload 9, 2) := by decide +kernel
theorem dX10_chooseDoor_36 : decode cX10_chooseDoor 36 = .ok (.bipush 24, 2) := by decide +kernel
theorem dX10_chooseDoor_38 : decode cX10_chooseDoor 38 = .ok (.if_icmp .ge 70, 3) := by decide +kernel
theorem dX10_chooseDoor_41 : decode cX10_chooseDoor 41 = .ok (.iload 6, 2) := by decide +kernel
theorem dX10_chooseDoor_43 : decode cX10_chooseDoor 43 = .ok (.iload 9, 2) := by decide +kernel
theorem dX10_chooseDoor_45 : decode cX10_chooseDoor 45 = .ok (.ishr, 1) := by decide +kernel
theorem dX10_chooseDoor_46 : decode cX10_chooseDoor 46 = .ok (.iconst 1, 1) := by decide +kernel
theorem dX10_chooseDoor_47 : decode cX10_chooseDoor 47 = .ok (.iand, 1) := by decide +kernel
theorem dX10_chooseDoor_48 : decode cX10_chooseDoor 48 = .ok (.ifCond .eq 54, 3) := by decide +kernel
theorem dX10_chooseDoor_51 : decode cX10_chooseDoor 51 = .ok (.aload_n 2, 1) := by decide +kernel
theorem dX10_chooseDoor_52 : decode cX10_chooseDoor 52 = .ok (.getfield 93, 3) := by decide +kernel
theorem dX10_chooseDoor_55 : decode cX10_chooseDoor 55 = .ok (.iload 9, 2) := by decide +kernel
theorem dX10_chooseDoor_57 : decode cX10_chooseDoor 57 = .ok (.iaload, 1) := by decide +kernel
theorem dX10_chooseDoor_58 : decode cX10_chooseDoor 58 = .ok (.iload 5, 2) := by decide +kernel
theorem dX10_chooseDoor_60 : decode cX10_chooseDoor 60 = .ok (.iand, 1) := by decide +kernel
theorem dX10_chooseDoor_61 : decode cX10_chooseDoor 61 = .ok (.ifCond .eq 41, 3) := by decide +kernel
theorem dX10_chooseDoor_64 : decode cX10_chooseDoor 64 = .ok (.aload_n 0, 1) := by decide +kernel
theorem dX10_chooseDoor_65 : decode cX10_chooseDoor 65 = .ok (.aload_n 1, 1) := by decide +kernel
theorem dX10_chooseDoor_66 : decode cX10_chooseDoor 66 = .ok (.aload_n 2, 1) := by decide +kernel
theorem dX10_chooseDoor_67 : decode cX10_chooseDoor 67 = .ok (.iload 9, 2) := by decide +kernel
theorem dX10_chooseDoor_69 : decode cX10_chooseDoor 69 = .ok (.invokevirtual 52, 3) := by decide +kernel
theorem dX10_chooseDoor_72 : decode cX10_chooseDoor 72 = .ok (.aload_n 3, 1) := by decide +kernel
theorem dX10_chooseDoor_73 : decode cX10_chooseDoor 73 = .ok (.bipush 101, 2) := by decide +kernel
theorem dX10_chooseDoor_75 : decode cX10_chooseDoor 75 = .ok (.sipush 9999, 3) := by decide +kernel
theorem dX10_chooseDoor_78 : decode cX10_chooseDoor 78 = .ok (.aload_n 0, 1) := by decide +kernel
theorem dX10_chooseDoor_79 : decode cX10_chooseDoor 79 = .ok (.getfield 9, 3) := by decide +kernel
theorem dX10_chooseDoor_82 : decode cX10_chooseDoor 82 = .ok (.invokevirtual 56, 3) := by decide +kernel
theorem dX10_chooseDoor_85 : decode cX10_chooseDoor 85 = .ok (.istore 10, 2) := by decide +kernel
theorem dX10_chooseDoor_87 : decode cX10_chooseDoor 87 = .ok (.iload 10, 2) := by decide +kernel
theorem dX10_chooseDoor_89 : decode cX10_chooseDoor 89 = .ok (.iload 8, 2) := by decide +kernel
theorem dX10_chooseDoor_91 : decode cX10_chooseDoor 91 = .ok (.if_icmp .le 11, 3) := by decide +kernel
theorem dX10_chooseDoor_94 : decode cX10_chooseDoor 94 = .ok (.iload 10, 2) := by decide +kernel
theorem dX10_chooseDoor_96 : decode cX10_chooseDoor 96 = .ok (.istore 8, 2) := by decide +kernel
theorem dX10_chooseDoor_98 : decode cX10_chooseDoor 98 = .ok (.iload 9, 2) := by decide +kernel
theorem dX10_chooseDoor_100 : decode cX10_chooseDoor 100 = .ok (.istore 7, 2) := by decide +kernel
theorem dX10_chooseDoor_102 : decode cX10_chooseDoor 102 = .ok (.iinc 9 1, 3) := by decide +kernel
theorem dX10_chooseDoor_105 : decode cX10_chooseDoor 105 = .ok (.goto (-71), 3) := by decide +kernel
theorem dX10_chooseDoor_108 : decode cX10_chooseDoor 108 = .ok (.iload 7, 2) := by decide +kernel
theorem dX10_chooseDoor_110 : decode cX10_chooseDoor 110 = .ok (.ireturn, 1) := by decide +kernel
set_option maxHeartbeats 4000000 in
set_option maxRecDepth 100000 in
theorem kL_X10_chooseDoor_34 {X : GC} {E : GE} (C : Cx X E cX10_chooseDoor RX10 4 11) (o_t : Nat) (a_t : Nat → Nat) (o_p1 : Nat) (a_p1 : Nat → Nat) (o_p2 : Nat) (a_p2 : Nat → Nat) (o_p3 : Nat) (a_p3 : Nat → Nat) (t_passed : Int32) (t_jammed : Int32) (p1_round : Int32) (p1_x : Int32) (p3_size : Int32) (p1_told : Int32) (p1_rust : (Nat → Int32)) (p1_rooms : (Nat → Int32)) (p1_pins : (Nat → Int32)) (p2_told : Int32) (p2_barred : Int32) (p2_one : (Nat → Int32)) (p2_other : (Nat → Int32)) (p2_fits : (Nat → Int32)) (p3_rules : Int32) (p3_signs : (Nat → Int32)) (p3_values : (Nat → Int32)) (p3_letters : (Nat → Int32)) (p3_amounts : (Nat → Int32)) (p3_conditions : (Nat → Int32)) (p3_ends : (Nat → Int32)) (x5 : Int32) (x6 : Int32) {r : Int32 × (Nat → Int32) × (Nat → Int32)} (hret : RtI X E cX10_chooseDoor .int 0 0 (fun w => w = (W_X10_chooseDoor E o_t a_t o_p1 a_p1 o_p2 a_p2 o_p3 a_p3 t_passed t_jammed r.2.1 p1_told p1_round p1_x p1_rust p1_rooms p1_pins p2_told p2_barred p2_one p2_other p2_fits p3_size p3_rules p3_signs p3_values r.2.2 p3_letters p3_amounts p3_conditions p3_ends)) r.1) : ∀ (n : Nat) (s : Int32 × Int32 × Int32 × (Nat → Int32) × (Nat → Int32)), L_X10_chooseDoor_34 p1_told p1_rust p1_rooms p1_pins p2_told p2_barred p2_one p2_other p2_fits p3_rules p3_signs p3_values p3_letters p3_amounts p3_conditions p3_ends x5 x6 n s = some r → Gx X E 0 0 (W_X10_chooseDoor E o_t a_t o_p1 a_p1 o_p2 a_p2 o_p3 a_p3 t_passed t_jammed s.2.2.2.1 p1_told p1_round p1_x p1_rust p1_rooms p1_pins p2_told p2_barred p2_one p2_other p2_fits p3_size p3_rules p3_signs p3_values s.2.2.2.2 p3_letters p3_amounts p3_conditions p3_ends) 34 [(0, .ref o_t), (1, .ref o_p1), (2, .ref o_p2), (3, .ref o_p3), (5, .int x5), (6, .int x6), (7, .int s.1), (8, .int s.2.1), (9, .int s.2.2.1)] [] := by
  unfold L_X10_chooseDoor_34
  refine lp_ind _ (fun go ih s h => ?_)
  refine g_iload (pc := 34) C dX10_chooseDoor_34 8 rfl ?_
  refine g_bipush (pc := 36) (v := 24) C dX10_chooseDoor_36 (by decide) ?_
  refine g_icmp_ge (pc := 38) (tgt := 108) C dX10_chooseDoor_38 (by decide) h (fun h => ?_) (fun h => ?_)
  · refine g_iload (pc := 108) C dX10_chooseDoor_108 6 rfl ?_
    cases h
    exact hret _ _ _ dX10_chooseDoor_110 rfl rfl
  · refine g_iload (pc := 41) C dX10_chooseDoor_41 5 rfl ?_
    refine g_iload (pc := 43) C dX10_chooseDoor_43 8 rfl ?_
    refine g_ishr (pc := 45) C dX10_chooseDoor_45 ?_
    refine g_iconst (pc := 46) (v := 1) C dX10_chooseDoor_46 (by decide) ?_
    refine g_iand (pc := 47) C dX10_chooseDoor_47 ?_
    refine g_if_eq (pc := 48) (tgt := 102) C dX10_chooseDoor_48 (by decide) h (fun h => ?_) (fun h => ?_)
    · refine g_iincn (pc := 102) (j := 8) (d := 1) (lv' := fun v6 => [(9, .int v6), (0, .ref o_t), (1, .ref o_p1), (2, .ref o_p2), (3, .ref o_p3), (5, .int x5), (6, .int x6), (7, .int s.1), (8, .int s.2.1)]) C dX10_chooseDoor_102 rfl (by decide) (by decide) (fun _ => rfl) h (fun v6 h => ?_)
      refine g_goto (pc := 105) (tgt := 34) C dX10_chooseDoor_105 (by decide) ?_
      refine g_sub [1, 2, 3, 4, 5, 6, 7, 8, 0] rfl ?_
      exact ih _ h
    · refine g_aload_n (pc := 51) C dX10_chooseDoor_51 rfl 2 rfl ?_
      refine g_get (pc := 52) C fl_X10_93 dX10_chooseDoor_52 6 rfl rfl ?_
      refine g_iload (pc := 55) C dX10_chooseDoor_55 8 rfl ?_
      refine g_iald (pc := 57) C dX10_chooseDoor_57 9 rfl h (fun v7 h => ?_)
      refine g_iload (pc := 58) C dX10_chooseDoor_58 4 rfl ?_
      refine g_iand (pc := 60) C dX10_chooseDoor_60 ?_
      refine g_if_eq (pc := 61) (tgt := 102) C dX10_chooseDoor_61 (by decide) h (fun h => ?_) (fun h => ?_)
      · refine g_iincn (pc := 102) (j := 8) (d := 1) (lv' := fun v8 => [(9, .int v8), (0, .ref o_t), (1, .ref o_p1), (2, .ref o_p2), (3, .ref o_p3), (5, .int x5), (6, .int x6), (7, .int s.1), (8, .int s.2.1)]) C dX10_chooseDoor_102 rfl (by decide) (by decide) (fun _ => rfl) h (fun v8 h => ?_)
        refine g_goto (pc := 105) (tgt := 34) C dX10_chooseDoor_105 (by decide) ?_
        refine g_sub [1, 2, 3, 4, 5, 6, 7, 8, 0] rfl ?_
        exact ih _ h
      · refine g_aload_n (pc := 64) C dX10_chooseDoor_64 rfl 0 rfl ?_
        refine g_aload_n (pc := 65) C dX10_chooseDoor_65 rfl 1 rfl ?_
        refine g_aload_n (pc := 66) C dX10_chooseDoor_66 rfl 2 rfl ?_
        refine g_iload (pc := 67) C dX10_chooseDoor_67 8 rfl ?_
        obtain ⟨u9, hu9, h⟩ := bs h
        refine g_callV (pc := 69) (st := []) (st1 := []) (ws' := (W_X10_chooseDoor E o_t a_t o_p1 a_p1 o_p2 a_p2 o_p3 a_p3 t_passed t_jammed u9 p1_told p1_round p1_x p1_rust p1_rooms p1_pins p2_told p2_barred p2_one p2_other p2_fits p3_size p3_rules p3_signs p3_values s.2.2.2.2 p3_letters p3_amounts p3_conditions p3_ends)) C mv_X10_knowDoor mi_X10_knowDoor ml_X10_52 (c_X10_knowDoor X.2.1 E o_t a_t o_p1 a_p1 o_p2 a_p2 t_passed t_jammed s.2.2.2.1 p1_told p1_round p1_x p1_rust p1_rooms p1_pins p2_told p2_barred p2_one p2_other p2_fits s.2.2.1 u9 hu9) dX10_chooseDoor_69 (by decide) rfl (Nat.le_of_ble_eq_true rfl) 0 9 rfl rfl [0, 1, 2, 3, 4, 5, 6, 7, 8, 9] rfl (by decide) rfl rfl rfl rfl ?_
        refine g_aload_n (pc := 72) C dX10_chooseDoor_72 rfl 3 rfl ?_
        refine g_bipush (pc := 73) (v := 101) C dX10_chooseDoor_73 (by decide) ?_
        refine g_sipush (pc := 75) (v := 9999) C dX10_chooseDoor_75 (by decide) ?_
        refine g_aload_n (pc := 78) C dX10_chooseDoor_78 rfl 0 rfl ?_
        refine g_get (pc := 79) C fl_X10_9 dX10_chooseDoor_79 0 rfl rfl ?_
        obtain ⟨u10, hu10, h⟩ := bs h
        refine g_callV (pc := 82) (st := []) (st1 := [.int u10.1]) (ws' := (W_X10_chooseDoor E o_t a_t o_p1 a_p1 o_p2 a_p2 o_p3 a_p3 t_passed t_jammed u9 p1_told p1_round p1_x p1_rust p1_rooms p1_pins p2_told p2_barred p2_one p2_other p2_fits p3_size p3_rules p3_signs p3_values u10.2 p3_letters p3_amounts p3_conditions p3_ends)) C mv_X2_amountOf mi_X2_amountOf ml_X10_56 (c_X2_amountOf X.2.1 E o_p3 a_p3 (a_t 0) 10 p3_size p3_rules p3_signs p3_values s.2.2.2.2 p3_letters p3_amounts p3_conditions p3_ends u9 (101 : Int32) (9999 : Int32) u10 hu10) dX10_chooseDoor_82 (by decide) rfl (Nat.le_of_ble_eq_true rfl) 10 2 rfl rfl [10, 11, 12, 13, 14, 15, 16, 17, 1] rfl (by decide) rfl rfl rfl rfl ?_
        refine g_istore (pc := 85) (lv' := [(10, .int u10.1), (0, .ref o_t), (1, .ref o_p1), (2, .ref o_p2), (3, .ref o_p3), (5, .int x5), (6, .int x6), (7, .int s.1), (8, .int s.2.1), (9, .int s.2.2.1)]) C dX10_chooseDoor_85 (by decide) rfl ?_
        refine g_iload (pc := 87) C dX10_chooseDoor_87 0 rfl ?_
        refine g_iload (pc := 89) C dX10_chooseDoor_89 8 rfl ?_
        refine g_icmp_le (pc := 91) (tgt := 102) C dX10_chooseDoor_91 (by decide) h (fun h => ?_) (fun h => ?_)
        · refine g_iincn (pc := 102) (j := 9) (d := 1) (lv' := fun v11 => [(9, .int v11), (10, .int u10.1), (0, .ref o_t), (1, .ref o_p1), (2, .ref o_p2), (3, .ref o_p3), (5, .int x5), (6, .int x6), (7, .int s.1), (8, .int s.2.1)]) C dX10_chooseDoor_102 rfl (by decide) (by decide) (fun _ => rfl) h (fun v11 h => ?_)
          refine g_goto (pc := 105) (tgt := 34) C dX10_chooseDoor_105 (by decide) ?_
          refine g_sub [2, 3, 4, 5, 6, 7, 8, 9, 0] rfl ?_
          exact ih _ h
        · refine g_iload (pc := 94) C dX10_chooseDoor_94 0 rfl ?_
          refine g_istore (pc := 96) (lv' := [(8, .int u10.1), (10, .int u10.1), (0, .ref o_t), (1, .ref o_p1), (2, .ref o_p2), (3, .ref o_p3), (5, .int x5), (6, .int x6), (7, .int s.1), (9, .int s.2.2.1)]) C dX10_chooseDoor_96 (by decide) rfl ?_
          refine g_iload (pc := 98) C dX10_chooseDoor_98 9 rfl ?_
          refine g_istore (pc := 100) (lv' := [(7, .int s.2.2.1), (8, .int u10.1), (10, .int u10.1), (0, .ref o_t), (1, .ref o_p1), (2, .ref o_p2), (3, .ref o_p3), (5, .int x5), (6, .int x6), (9, .int s.2.2.1)]) C dX10_chooseDoor_100 (by decide) rfl ?_
          refine g_iincn (pc := 102) (j := 9) (d := 1) (lv' := fun v12 => [(9, .int v12), (7, .int s.2.2.1), (8, .int u10.1), (10, .int u10.1), (0, .ref o_t), (1, .ref o_p1), (2, .ref o_p2), (3, .ref o_p3), (5, .int x5), (6, .int x6)]) C dX10_chooseDoor_102 rfl (by decide) (by decide) (fun _ => rfl) h (fun v12 h => ?_)
          refine g_goto (pc := 105) (tgt := 34) C dX10_chooseDoor_105 (by decide) ?_
          refine g_sub [4, 5, 6, 7, 8, 9, 1, 2, 0] rfl ?_
          exact ih _ h
set_option maxHeartbeats 4000000 in
set_option maxRecDepth 100000 in
theorem c_X10_chooseDoor (l : Launch) (E : GE) (o_t : Nat) (a_t : Nat → Nat) (o_p1 : Nat) (a_p1 : Nat → Nat) (o_p2 : Nat) (a_p2 : Nat → Nat) (o_p3 : Nat) (a_p3 : Nat → Nat) (t_passed : Int32) (t_jammed : Int32) (t_known : (Nat → Int32)) (p1_told : Int32) (p1_round : Int32) (p1_x : Int32) (p1_rust : (Nat → Int32)) (p1_rooms : (Nat → Int32)) (p1_pins : (Nat → Int32)) (p2_told : Int32) (p2_barred : Int32) (p2_one : (Nat → Int32)) (p2_other : (Nat → Int32)) (p2_fits : (Nat → Int32)) (p3_size : Int32) (p3_rules : Int32) (p3_signs : (Nat → Int32)) (p3_values : (Nat → Int32)) (p3_stack : (Nat → Int32)) (p3_letters : (Nat → Int32)) (p3_amounts : (Nat → Int32)) (p3_conditions : (Nat → Int32)) (p3_ends : (Nat → Int32)) (x4 : Int32) (r : Int32 × (Nat → Int32) × (Nat → Int32)) (h : f_X10_chooseDoor t_known p1_told p1_rust p1_rooms p1_pins p2_told p2_barred p2_one p2_other p2_fits p3_rules p3_signs p3_values p3_stack p3_letters p3_amounts p3_conditions p3_ends x4 = some r) : Cn l E yX10_chooseDoor cX10_chooseDoor 11 (some .int) 4 0 0 [.ref o_t, .ref o_p1, .ref o_p2, .ref o_p3, .int x4] (W_X10_chooseDoor E o_t a_t o_p1 a_p1 o_p2 a_p2 o_p3 a_p3 t_passed t_jammed t_known p1_told p1_round p1_x p1_rust p1_rooms p1_pins p2_told p2_barred p2_one p2_other p2_fits p3_size p3_rules p3_signs p3_values p3_stack p3_letters p3_amounts p3_conditions p3_ends) (fun w => w = (W_X10_chooseDoor E o_t a_t o_p1 a_p1 o_p2 a_p2 o_p3 a_p3 t_passed t_jammed r.2.1 p1_told p1_round p1_x p1_rust p1_rooms p1_pins p2_told p2_barred p2_one p2_other p2_fits p3_size p3_rules p3_signs p3_values r.2.2 p3_letters p3_amounts p3_conditions p3_ends)) (some (.int r.1)) := by
  refine Cn.ofI (by decide +kernel) (Nat.le_of_ble_eq_true rfl) (fun X hX hR C hret => ?_)
  subst hX
  show Gx X E 0 0 (W_X10_chooseDoor E o_t a_t o_p1 a_p1 o_p2 a_p2 o_p3 a_p3 t_passed t_jammed t_known p1_told p1_round p1_x p1_rust p1_rooms p1_pins p2_told p2_barred p2_one p2_other p2_fits p3_size p3_rules p3_signs p3_values p3_stack p3_letters p3_amounts p3_conditions p3_ends) 0 [(0, .ref o_t), (1, .ref o_p1), (2, .ref o_p2), (3, .ref o_p3), (4, .int x4)] []
  unfold f_X10_chooseDoor at h
  refine g_aload_n (pc := 0) C dX10_chooseDoor_0 rfl 1 rfl ?_
  refine g_iload (pc := 1) C dX10_chooseDoor_1 4 rfl ?_
  obtain ⟨u1, hu1, h⟩ := bs h
  refine g_callV (pc := 3) (st := []) (st1 := [.int u1]) (ws' := (W_X10_chooseDoor E o_t a_t o_p1 a_p1 o_p2 a_p2 o_p3 a_p3 t_passed t_jammed t_known p1_told p1_round p1_x p1_rust p1_rooms p1_pins p2_told p2_barred p2_one p2_other p2_fits p3_size p3_rules p3_signs p3_values p3_stack p3_letters p3_amounts p3_conditions p3_ends)) C mv_X9_kindsLeft mi_X9_kindsLeft ml_X10_80 (c_X9_kindsLeft X.2.1 E o_p1 a_p1 p1_told p1_round p1_x p1_pins x4 u1 hu1) dX10_chooseDoor_3 (by decide) rfl (Nat.le_of_ble_eq_true rfl) 2 8 rfl rfl [2, 5] rfl (by decide) rfl rfl rfl rfl ?_
  refine g_istore (pc := 6) (lv' := [(5, .int u1), (0, .ref o_t), (1, .ref o_p1), (2, .ref o_p2), (3, .ref o_p3), (4, .int x4)]) C dX10_chooseDoor_6 (by decide) rfl ?_
  refine g_aload_n (pc := 8) C dX10_chooseDoor_8 rfl 3 rfl ?_
  obtain ⟨u2, hu2, h⟩ := bs h
  refine g_callV (pc := 9) (st := []) (st1 := [.int u2]) (ws' := (W_X10_chooseDoor E o_t a_t o_p1 a_p1 o_p2 a_p2 o_p3 a_p3 t_passed t_jammed t_known p1_told p1_round p1_x p1_rust p1_rooms p1_pins p2_told p2_barred p2_one p2_other p2_fits p3_size p3_rules p3_signs p3_values p3_stack p3_letters p3_amounts p3_conditions p3_ends)) C mv_X0_unbarred mi_X0_unbarred ml_X10_84 (c_X0_unbarred X.2.1 E o_p2 a_p2 p2_told p2_barred u2 hu2) dX10_chooseDoor_9 (by decide) rfl (Nat.le_of_ble_eq_true rfl) 6 0 rfl rfl [6] rfl (by decide) rfl rfl rfl rfl ?_
  refine g_aload_n (pc := 12) C dX10_chooseDoor_12 rfl 3 rfl ?_
  refine g_aload_n (pc := 13) C dX10_chooseDoor_13 rfl 2 rfl ?_
  refine g_iload (pc := 14) C dX10_chooseDoor_14 5 rfl ?_
  obtain ⟨u3, hu3, h⟩ := bs h
  refine g_callV (pc := 16) (st := [.ref o_p2, .int u2]) (st1 := [.int u3, .ref o_p2, .int u2]) (ws' := (W_X10_chooseDoor E o_t a_t o_p1 a_p1 o_p2 a_p2 o_p3 a_p3 t_passed t_jammed t_known p1_told p1_round p1_x p1_rust p1_rooms p1_pins p2_told p2_barred p2_one p2_other p2_fits p3_size p3_rules p3_signs p3_values p3_stack p3_letters p3_amounts p3_conditions p3_ends)) C mv_X9_roomOf mi_X9_roomOf ml_X10_87 (c_X9_roomOf X.2.1 E o_p1 a_p1 p1_told p1_round p1_x p1_rooms x4 u3 hu3) dX10_chooseDoor_16 (by decide) rfl (Nat.le_of_ble_eq_true rfl) 2 8 rfl rfl [2, 4] rfl (by decide) rfl rfl rfl rfl ?_
  obtain ⟨u4, hu4, h⟩ := bs h
  refine g_callV (pc := 19) (st := [.int u2]) (st1 := [.int u4, .int u2]) (ws' := (W_X10_chooseDoor E o_t a_t o_p1 a_p1 o_p2 a_p2 o_p3 a_p3 t_passed t_jammed t_known p1_told p1_round p1_x p1_rust p1_rooms p1_pins p2_told p2_barred p2_one p2_other p2_fits p3_size p3_rules p3_signs p3_values p3_stack p3_letters p3_amounts p3_conditions p3_ends)) C mv_X0_ofRoom mi_X0_ofRoom ml_X10_90 (c_X0_ofRoom X.2.1 E o_p2 a_p2 p2_told p2_barred p2_one p2_other u3 u4 hu4) dX10_chooseDoor_19 (by decide) rfl (Nat.le_of_ble_eq_true rfl) 6 0 rfl rfl [6, 7, 8] rfl (by decide) rfl rfl rfl rfl ?_
  refine g_iand (pc := 22) C dX10_chooseDoor_22 ?_
  refine g_nm h (fun v5 h => ?_)
  refine g_istore (pc := 23) (lv' := [(6, .int v5), (5, .int u1), (0, .ref o_t), (1, .ref o_p1), (2, .ref o_p2), (3, .ref o_p3), (4, .int x4)]) C dX10_chooseDoor_23 (by decide) rfl ?_
  refine g_iconst (pc := 25) (v := -1) C dX10_chooseDoor_25 (by decide) ?_
  refine g_istore (pc := 26) (lv' := [(7, .int (-1 : Int32)), (6, .int v5), (5, .int u1), (0, .ref o_t), (1, .ref o_p1), (2, .ref o_p2), (3, .ref o_p3), (4, .int x4)]) C dX10_chooseDoor_26 (by decide) rfl ?_
  refine g_iconst (pc := 28) (v := 0) C dX10_chooseDoor_28 (by decide) ?_
  refine g_istore (pc := 29) (lv' := [(8, .int (0 : Int32)), (7, .int (-1 : Int32)), (6, .int v5), (5, .int u1), (0, .ref o_t), (1, .ref o_p1), (2, .ref o_p2), (3, .ref o_p3), (4, .int x4)]) C dX10_chooseDoor_29 (by decide) rfl ?_
  refine g_iconst (pc := 31) (v := 0) C dX10_chooseDoor_31 (by decide) ?_
  refine g_istore (pc := 32) (lv' := [(9, .int (0 : Int32)), (8, .int (0 : Int32)), (7, .int (-1 : Int32)), (6, .int v5), (5, .int u1), (0, .ref o_t), (1, .ref o_p1), (2, .ref o_p2), (3, .ref o_p3), (4, .int x4)]) C dX10_chooseDoor_32 (by decide) rfl ?_
  refine g_sub [5, 6, 7, 8, 4, 3, 2, 1, 0] rfl ?_
  refine kL_X10_chooseDoor_34 C o_t a_t o_p1 a_p1 o_p2 a_p2 o_p3 a_p3 t_passed t_jammed p1_round p1_x p3_size p1_told p1_rust p1_rooms p1_pins p2_told p2_barred p2_one p2_other p2_fits p3_rules p3_signs p3_values p3_letters p3_amounts p3_conditions p3_ends u1 v5 hret  _ _ h
abbrev W_X10_step (E : GE) (O_t : Nat) (a_t : Nat → Nat) (O_p1 : Nat) (a_p1 : Nat → Nat) (O_p2 : Nat) (a_p2 : Nat → Nat) (O_p3 : Nat) (a_p3 : Nat → Nat) (t_passed : Int32) (t_jammed : Int32) (t_known : (Nat → Int32)) (p1_told : Int32) (p1_round : Int32) (p1_x : Int32) (p1_rust : (Nat → Int32)) (p1_rooms : (Nat → Int32)) (p1_pins : (Nat → Int32)) (p2_told : Int32) (p2_barred : Int32) (p2_one : (Nat → Int32)) (p2_other : (Nat → Int32)) (p2_fits : (Nat → Int32)) (p3_size : Int32) (p3_rules : Int32) (p3_signs : (Nat → Int32)) (p3_values : (Nat → Int32)) (p3_stack : (Nat → Int32)) (p3_letters : (Nat → Int32)) (p3_amounts : (Nat → Int32)) (p3_conditions : (Nat → Int32)) (p3_ends : (Nat → Int32)) : va_W := [(O_t, ob_X10 a_t t_passed t_jammed), (a_t 0, .inl (E.2.1, 10, .inl t_known)), (O_p1, ob_X9 a_p1 p1_told p1_round p1_x), (a_p1 0, .inl (E.2.1, 24, .inl p1_rust)), (a_p1 1, .inl (E.2.1, 10, .inl p1_rooms)), (a_p1 3, .inl (E.2.1, 60, .inl p1_pins)), (O_p2, ob_X0 a_p2 p2_told p2_barred), (a_p2 0, .inl (E.2.1, 24, .inl p2_one)), (a_p2 1, .inl (E.2.1, 24, .inl p2_other)), (a_p2 3, .inl (E.2.1, 24, .inl p2_fits)), (O_p3, ob_X2 a_p3 p3_size p3_rules), (a_p3 0, .inl (E.2.1, 256, .inl p3_signs)), (a_p3 1, .inl (E.2.1, 256, .inl p3_values)), (a_p3 2, .inl (E.2.1, 64, .inl p3_stack)), (a_p3 3, .inl (E.2.1, 16, .inl p3_letters)), (a_p3 4, .inl (E.2.1, 16, .inl p3_amounts)), (a_p3 5, .inl (E.2.1, 16, .inl p3_conditions)), (a_p3 6, .inl (E.2.1, 16, .inl p3_ends))]
def f_X10_step (t_passed : Int32) (t_jammed : Int32) (t_known : (Nat → Int32)) (p1_told : Int32) (p1_round : Int32) (p1_x : Int32) (p1_rust : (Nat → Int32)) (p1_rooms : (Nat → Int32)) (p1_pins : (Nat → Int32)) (p2_told : Int32) (p2_barred : Int32) (p2_one : (Nat → Int32)) (p2_other : (Nat → Int32)) (p2_fits : (Nat → Int32)) (p3_rules : Int32) (p3_signs : (Nat → Int32)) (p3_values : (Nat → Int32)) (p3_stack : (Nat → Int32)) (p3_letters : (Nat → Int32)) (p3_amounts : (Nat → Int32)) (p3_conditions : (Nat → Int32)) (p3_ends : (Nat → Int32)) (x4 : Int32) : Option (Int32 × Int32 × (Nat → Int32) × Int32 × (Nat → Int32) × (Nat → Int32) × (Nat → Int32) × (Nat → Int32)) := (f_X10_knowWoman t_known p1_told p1_round p1_rooms p1_pins x4).bind fun u1 => (f_X2_isAnyTrue 10 p3_rules p3_signs p3_values p3_stack p3_letters p3_conditions p3_ends u1 (120 : Int32)).bind fun u2 => if u2.1 = 0 then ((f_X10_chooseDoor u1 p1_told p1_rust p1_rooms p1_pins p2_told p2_barred p2_one p2_other p2_fits p3_rules p3_signs p3_values u2.2 p3_letters p3_amounts p3_conditions p3_ends x4).bind fun u3 => (f_X0_isTold p2_told u3.1).bind fun u4 => if u4 = 0 then (some (t_passed, t_jammed, u3.2.1, p1_x, p1_rust, p1_rooms, p1_pins, u3.2.2)) else (f_X10_knowDoor u3.2.1 p1_told p1_rust p1_rooms p1_pins p2_told p2_one p2_other p2_fits u3.1).bind fun u5 => (f_X2_amountOf 10 p3_rules p3_signs p3_values u3.2.2 p3_letters p3_amounts p3_conditions p3_ends u5 (106 : Int32) (10 : Int32)).bind fun u6 => rd u5 10 (5 : Int32) fun v7 => (f_X9_takePin p1_told p1_pins x4 v7).bind fun u8 => (f_X9_draw p1_x).bind fun u9 => if u6.1 ≤ u9.1 then (rd u5 10 (3 : Int32) fun v10 => wr p1_rooms 10 x4 v10 fun g11 => nm (t_passed + (1 : Int32)) fun v12 => some (v12, t_jammed, u5, u9.2, p1_rust, g11, u8, u6.2)) else rd p1_rust 24 u3.1 fun v13 => wr p1_rust 24 u3.1 (imin (99 : Int32) (v13 + (1 : Int32))) fun g14 => nm (t_jammed + (1 : Int32)) fun v15 => some (t_passed, v15, u5, u9.2, g14, p1_rooms, u8, u6.2)) else some (t_passed, t_jammed, u1, p1_x, p1_rust, p1_rooms, p1_pins, u2.2)
theorem dX10_step_0 : decode cX10_step 0 = .ok (.aload_n 0, 1) := by decide +kernel
theorem dX10_step_1 : decode cX10_step 1 = .ok (.aload_n 1, 1) := by decide +kernel
theorem dX10_step_2 : decode cX10_step 2 = .ok (.iload 4, 2) := by decide +kernel
theorem dX10_step_4 : decode cX10_step 4 = .ok (.invokevirtual 35, 3) := by decide +kernel
theorem dX10_step_7 : decode cX10_step 7 = .ok (.aload_n 3, 1) := by decide +kernel
theorem dX10_step_8 : decode cX10_step 8 = .ok (.bipush 120, 2) := by decide +kernel
theorem dX10_step_10 : decode cX10_step 10 = .ok (.aload_n 0, 1) := by decide +kernel
theorem dX10_step_11 : decode cX10_step 11 = .ok (.getfield 9, 3) := by decide +kernel
theorem dX10_step_14 : decode cX10_step 14 = .ok (.invokevirtual 39, 3) := by decide +kernel
theorem dX10_step_17 : decode cX10_step 17 = .ok (.ifCond .eq 4, 3) := by decide +kernel
theorem dX10_step_20 : decode cX10_step 20 = .ok (.return_, 1) := by decide +kernel
theorem dX10_step_21 : decode cX10_step 21 = .ok (.aload_n 0, 1) := by decide +kernel
theorem dX10_step_22 : decode cX10_step 22 = .ok (.aload_n 1, 1) := by decide +kernel
theorem dX10_step_23 : decode cX10_step 23 = .ok (.aload_n 2, 1) := by decide +kernel
theorem dX10_step_24 : decode cX10_step 24 = .ok (.aload_n 3, 1) := by decide +kernel
theorem dX10_step_25 : decode cX10_step 25 = .ok (.iload 4, 2) := by decide +kernel
theorem dX10_step_27 : decode cX10_step 27 = .ok (.invokevirtual 45, 3) := by decide +kernel
theorem dX10_step_30 : decode cX10_step 30 = .ok (.istore 5, 2) := by decide +kernel
theorem dX10_step_32 : decode cX10_step 32 = .ok (.aload_n 2, 1) := by decide +kernel
theorem dX10_step_33 : decode cX10_step 33 = .ok (.iload 5, 2) := by decide +kernel
theorem dX10_step_35 : decode cX10_step 35 = .ok (.invokevirtual 49, 3) := by decide +kernel
theorem dX10_step_38 : decode cX10_step 38 = .ok (.ifCond .ne 4, 3) := by decide +kernel
theorem dX10_step_41 : decode cX10_step 41 = .ok (.return_, 1) := by decide +kernel
theorem dX10_step_42 : decode cX10_step 42 = .ok (.aload_n 0, 1) := by decide +kernel
theorem dX10_step_43 : decode cX10_step 43 = .ok (.aload_n 1, 1) := by decide +kernel
theorem dX10_step_44 : decode cX10_step 44 = .ok (.aload_n 2, 1) := by decide +kernel
theorem dX10_step_45 : decode cX10_step 45 = .ok (.iload 5, 2) := by decide +kernel
theorem dX10_step_47 : decode cX10_step 47 = .ok (.invokevirtual 52, 3) := by decide +kernel
theorem dX10_step_50 : decode cX10_step 50 = .ok (.aload_n 3, 1) := by decide +kernel
theorem dX10_step_51 : decode cX10_step 51 = .ok (.bipush 106, 2) := by decide +kernel
theorem dX10_step_53 : decode cX10_step 53 = .ok (.bipush 10, 2) := by decide +kernel
theorem dX10_step_55 : decode cX10_step 55 = .ok (.aload_n 0, 1) := by decide +kernel
theorem dX10_step_56 : decode cX10_step 56 = .ok (.getfield 9, 3) := by decide +kernel
theorem dX10_step_59 : decode cX10_step 59 = .ok (.invokevirtual 56, 3) := by decide +kernel
theorem dX10_step_62 : decode cX10_step 62 = .ok (.istore 6, 2) := by decide +kernel
theorem dX10_step_64 : decode cX10_step 64 = .ok (.aload_n 1, 1) := by decide +kernel
theorem dX10_step_65 : decode cX10_step 65 = .ok (.iload 4, 2) := by decide +kernel
theorem dX10_step_67 : decode cX10_step 67 = .ok (.aload_n 0, 1) := by decide +kernel
theorem dX10_step_68 : decode cX10_step 68 = .ok (.getfield 9, 3) := by decide +kernel
theorem dX10_step_71 : decode cX10_step 71 = .ok (.iconst 5, 1) := by decide +kernel
theorem dX10_step_72 : decode cX10_step 72 = .ok (.iaload, 1) := by decide +kernel
theorem dX10_step_73 : decode cX10_step 73 = .ok (.invokevirtual 60, 3) := by decide +kernel
theorem dX10_step_76 : decode cX10_step 76 = .ok (.aload_n 1, 1) := by decide +kernel
theorem dX10_step_77 : decode cX10_step 77 = .ok (.invokevirtual 64, 3) := by decide +kernel
theorem dX10_step_80 : decode cX10_step 80 = .ok (.iload 6, 2) := by decide +kernel
theorem dX10_step_82 : decode cX10_step 82 = .ok (.if_icmp .ge 37, 3) := by decide +kernel
theorem dX10_step_85 : decode cX10_step 85 = .ok (.aload_n 1, 1) := by decide +kernel
theorem dX10_step_86 : decode cX10_step 86 = .ok (.getfield 68, 3) := by decide +kernel
theorem dX10_step_89 : decode cX10_step 89 = .ok (.iload 5, 2) := by decide +kernel
theorem dX10_step_91 : decode cX10_step 91 = .ok (.bipush 99, 2) := by decide +kernel
theorem dX10_step_93 : decode cX10_step 93 = .ok (.aload_n 1, 1) := by decide +kernel
theorem dX10_step_94 : decode cX10_step 94 = .ok (.getfield 68, 3) := by decide +kernel
theorem dX10_step_97 : decode cX10_step 97 = .ok (.iload 5, 2) := by decide +kernel
theorem dX10_step_99 : decode cX10_step 99 = .ok (.iaload, 1) := by decide +kernel
theorem dX10_step_100 : decode cX10_step 100 = .ok (.iconst 1, 1) := by decide +kernel
theorem dX10_step_101 : decode cX10_step 101 = .ok (.iadd, 1) := by decide +kernel
theorem dX10_step_102 : decode cX10_step 102 = .ok (.invokestatic 71, 3) := by decide +kernel
theorem dX10_step_105 : decode cX10_step 105 = .ok (.iastore, 1) := by decide +kernel
theorem dX10_step_106 : decode cX10_step 106 = .ok (.aload_n 0, 1) := by decide +kernel
theorem dX10_step_107 : decode cX10_step 107 = .ok (.dup, 1) := by decide +kernel
theorem dX10_step_108 : decode cX10_step 108 = .ok (.getfield 19, 3) := by decide +kernel
theorem dX10_step_111 : decode cX10_step 111 = .ok (.iconst 1, 1) := by decide +kernel
theorem dX10_step_112 : decode cX10_step 112 = .ok (.iadd, 1) := by decide +kernel
theorem dX10_step_113 : decode cX10_step 113 = .ok (.putfield 19, 3) := by decide +kernel
theorem dX10_step_116 : decode cX10_step 116 = .ok (.goto 26, 3) := by decide +kernel
theorem dX10_step_119 : decode cX10_step 119 = .ok (.aload_n 1, 1) := by decide +kernel
theorem dX10_step_120 : decode cX10_step 120 = .ok (.getfield 77, 3) := by decide +kernel
theorem dX10_step_123 : decode cX10_step 123 = .ok (.iload 4, 2) := by decide +kernel
theorem dX10_step_125 : decode cX10_step 125 = .ok (.aload_n 0, 1) := by decide +kernel
theorem dX10_step_126 : decode cX10_step 126 = .ok (.getfield 9, 3) := by decide +kernel
theorem dX10_step_129 : decode cX10_step 129 = .ok (.iconst 3, 1) := by decide +kernel
theorem dX10_step_130 : decode cX10_step 130 = .ok (.iaload, 1) := by decide +kernel
theorem dX10_step_131 : decode cX10_step 131 = .ok (.iastore, 1) := by decide +kernel
theorem dX10_step_132 : decode cX10_step 132 = .ok (.aload_n 0, 1) := by decide +kernel
theorem dX10_step_133 : decode cX10_step 133 = .ok (.dup, 1) := by decide +kernel
theorem dX10_step_134 : decode cX10_step 134 = .ok (.getfield 15, 3) := by decide +kernel
theorem dX10_step_137 : decode cX10_step 137 = .ok (.iconst 1, 1) := by decide +kernel
theorem dX10_step_138 : decode cX10_step 138 = .ok (.iadd, 1) := by decide +kernel
theorem dX10_step_139 : decode cX10_step 139 = .ok (.putfield 15, 3) := by decide +kernel
theorem dX10_step_142 : decode cX10_step 142 = .ok (.return_, 1) := by decide +kernel
set_option maxHeartbeats 4000000 in
set_option maxRecDepth 100000 in
theorem c_X10_step (l : Launch) (E : GE) (o_t : Nat) (a_t : Nat → Nat) (o_p1 : Nat) (a_p1 : Nat → Nat) (o_p2 : Nat) (a_p2 : Nat → Nat) (o_p3 : Nat) (a_p3 : Nat → Nat) (t_passed : Int32) (t_jammed : Int32) (t_known : (Nat → Int32)) (p1_told : Int32) (p1_round : Int32) (p1_x : Int32) (p1_rust : (Nat → Int32)) (p1_rooms : (Nat → Int32)) (p1_pins : (Nat → Int32)) (p2_told : Int32) (p2_barred : Int32) (p2_one : (Nat → Int32)) (p2_other : (Nat → Int32)) (p2_fits : (Nat → Int32)) (p3_size : Int32) (p3_rules : Int32) (p3_signs : (Nat → Int32)) (p3_values : (Nat → Int32)) (p3_stack : (Nat → Int32)) (p3_letters : (Nat → Int32)) (p3_amounts : (Nat → Int32)) (p3_conditions : (Nat → Int32)) (p3_ends : (Nat → Int32)) (x4 : Int32) (r : Int32 × Int32 × (Nat → Int32) × Int32 × (Nat → Int32) × (Nat → Int32) × (Nat → Int32) × (Nat → Int32)) (h : f_X10_step t_passed t_jammed t_known p1_told p1_round p1_x p1_rust p1_rooms p1_pins p2_told p2_barred p2_one p2_other p2_fits p3_rules p3_signs p3_values p3_stack p3_letters p3_amounts p3_conditions p3_ends x4 = some r) : Cn l E yX10_step cX10_step 7 none 5 0 0 [.ref o_t, .ref o_p1, .ref o_p2, .ref o_p3, .int x4] (W_X10_step E o_t a_t o_p1 a_p1 o_p2 a_p2 o_p3 a_p3 t_passed t_jammed t_known p1_told p1_round p1_x p1_rust p1_rooms p1_pins p2_told p2_barred p2_one p2_other p2_fits p3_size p3_rules p3_signs p3_values p3_stack p3_letters p3_amounts p3_conditions p3_ends) (fun w => w = (W_X10_step E o_t a_t o_p1 a_p1 o_p2 a_p2 o_p3 a_p3 r.1 r.2.1 r.2.2.1 p1_told p1_round r.2.2.2.1 r.2.2.2.2.1 r.2.2.2.2.2.1 r.2.2.2.2.2.2.1 p2_told p2_barred p2_one p2_other p2_fits p3_size p3_rules p3_signs p3_values r.2.2.2.2.2.2.2 p3_letters p3_amounts p3_conditions p3_ends)) none := by
  refine Cn.ofV (by decide +kernel) (Nat.le_of_ble_eq_true rfl) (fun X hX hR C hret => ?_)
  subst hX
  show Gx X E 0 0 (W_X10_step E o_t a_t o_p1 a_p1 o_p2 a_p2 o_p3 a_p3 t_passed t_jammed t_known p1_told p1_round p1_x p1_rust p1_rooms p1_pins p2_told p2_barred p2_one p2_other p2_fits p3_size p3_rules p3_signs p3_values p3_stack p3_letters p3_amounts p3_conditions p3_ends) 0 [(0, .ref o_t), (1, .ref o_p1), (2, .ref o_p2), (3, .ref o_p3), (4, .int x4)] []
  unfold f_X10_step at h
  refine g_aload_n (pc := 0) C dX10_step_0 rfl 0 rfl ?_
  refine g_aload_n (pc := 1) C dX10_step_1 rfl 1 rfl ?_
  refine g_iload (pc := 2) C dX10_step_2 4 rfl ?_
  obtain ⟨u1, hu1, h⟩ := bs h
  refine g_callV (pc := 4) (st := []) (st1 := []) (ws' := (W_X10_step E o_t a_t o_p1 a_p1 o_p2 a_p2 o_p3 a_p3 t_passed t_jammed u1 p1_told p1_round p1_x p1_rust p1_rooms p1_pins p2_told p2_barred p2_one p2_other p2_fits p3_size p3_rules p3_signs p3_values p3_stack p3_letters p3_amounts p3_conditions p3_ends)) C mv_X10_knowWoman mi_X10_knowWoman ml_X10_35 (c_X10_knowWoman X.2.1 E o_t a_t o_p1 a_p1 t_passed t_jammed t_known p1_told p1_round p1_x p1_rooms p1_pins x4 u1 hu1) dX10_step_4 (by decide) rfl (Nat.le_of_ble_eq_true rfl) 0 9 rfl rfl [0, 1, 2, 4, 5] rfl (by decide) rfl rfl rfl rfl ?_
  refine g_aload_n (pc := 7) C dX10_step_7 rfl 3 rfl ?_
  refine g_bipush (pc := 8) (v := 120) C dX10_step_8 (by decide) ?_
  refine g_aload_n (pc := 10) C dX10_step_10 rfl 0 rfl ?_
  refine g_get (pc := 11) C fl_X10_9 dX10_step_11 0 rfl rfl ?_
  obtain ⟨u2, hu2, h⟩ := bs h
  refine g_callV (pc := 14) (st := []) (st1 := [.int u2.1]) (ws' := (W_X10_step E o_t a_t o_p1 a_p1 o_p2 a_p2 o_p3 a_p3 t_passed t_jammed u1 p1_told p1_round p1_x p1_rust p1_rooms p1_pins p2_told p2_barred p2_one p2_other p2_fits p3_size p3_rules p3_signs p3_values u2.2 p3_letters p3_amounts p3_conditions p3_ends)) C mv_X2_isAnyTrue mi_X2_isAnyTrue ml_X10_39 (c_X2_isAnyTrue X.2.1 E o_p3 a_p3 (a_t 0) 10 p3_size p3_rules p3_signs p3_values p3_stack p3_letters p3_conditions p3_ends u1 (120 : Int32) u2 hu2) dX10_step_14 (by decide) rfl (Nat.le_of_ble_eq_true rfl) 10 2 rfl rfl [10, 11, 12, 13, 14, 16, 17, 1] rfl (by decide) rfl rfl rfl rfl ?_
  refine g_if_eq (pc := 17) (tgt := 21) C dX10_step_17 (by decide) h (fun h => ?_) (fun h => ?_)
  · refine g_aload_n (pc := 21) C dX10_step_21 rfl 0 rfl ?_
    refine g_aload_n (pc := 22) C dX10_step_22 rfl 1 rfl ?_
    refine g_aload_n (pc := 23) C dX10_step_23 rfl 2 rfl ?_
    refine g_aload_n (pc := 24) C dX10_step_24 rfl 3 rfl ?_
    refine g_iload (pc := 25) C dX10_step_25 4 rfl ?_
    obtain ⟨u3, hu3, h⟩ := bs h
    refine g_callV (pc := 27) (st := []) (st1 := [.int u3.1]) (ws' := (W_X10_step E o_t a_t o_p1 a_p1 o_p2 a_p2 o_p3 a_p3 t_passed t_jammed u3.2.1 p1_told p1_round p1_x p1_rust p1_rooms p1_pins p2_told p2_barred p2_one p2_other p2_fits p3_size p3_rules p3_signs p3_values u3.2.2 p3_letters p3_amounts p3_conditions p3_ends)) C mv_X10_chooseDoor mi_X10_chooseDoor ml_X10_45 (c_X10_chooseDoor X.2.1 E o_t a_t o_p1 a_p1 o_p2 a_p2 o_p3 a_p3 t_passed t_jammed u1 p1_told p1_round p1_x p1_rust p1_rooms p1_pins p2_told p2_barred p2_one p2_other p2_fits p3_size p3_rules p3_signs p3_values u2.2 p3_letters p3_amounts p3_conditions p3_ends x4 u3 hu3) dX10_step_27 (by decide) rfl (Nat.le_of_ble_eq_true rfl) 0 9 rfl rfl [0, 1, 2, 3, 4, 5, 6, 7, 8, 9, 10, 11, 12, 13, 14, 15, 16, 17] rfl (by decide) rfl rfl rfl rfl ?_
    refine g_istore (pc := 30) (lv' := [(5, .int u3.1), (0, .ref o_t), (1, .ref o_p1), (2, .ref o_p2), (3, .ref o_p3), (4, .int x4)]) C dX10_step_30 (by decide) rfl ?_
    refine g_aload_n (pc := 32) C dX10_step_32 rfl 3 rfl ?_
    refine g_iload (pc := 33) C dX10_step_33 0 rfl ?_
    obtain ⟨u4, hu4, h⟩ := bs h
    refine g_callV (pc := 35) (st := []) (st1 := [.int u4]) (ws' := (W_X10_step E o_t a_t o_p1 a_p1 o_p2 a_p2 o_p3 a_p3 t_passed t_jammed u3.2.1 p1_told p1_round p1_x p1_rust p1_rooms p1_pins p2_told p2_barred p2_one p2_other p2_fits p3_size p3_rules p3_signs p3_values u3.2.2 p3_letters p3_amounts p3_conditions p3_ends)) C mv_X0_isTold mi_X0_isTold ml_X10_49 (c_X0_isTold X.2.1 E o_p2 a_p2 p2_told p2_barred u3.1 u4 hu4) dX10_step_35 (by decide) rfl (Nat.le_of_ble_eq_true rfl) 6 0 rfl rfl [6] rfl (by decide) rfl rfl rfl rfl ?_
    refine g_if_ne (pc := 38) (tgt := 42) C dX10_step_38 (by decide) h (fun h => ?_) (fun h => ?_)
    · refine g_aload_n (pc := 42) C dX10_step_42 rfl 1 rfl ?_
      refine g_aload_n (pc := 43) C dX10_step_43 rfl 2 rfl ?_
      refine g_aload_n (pc := 44) C dX10_step_44 rfl 3 rfl ?_
      refine g_iload (pc := 45) C dX10_step_45 0 rfl ?_
      obtain ⟨u5, hu5, h⟩ := bs h
      refine g_callV (pc := 47) (st := []) (st1 := []) (ws' := (W_X10_step E o_t a_t o_p1 a_p1 o_p2 a_p2 o_p3 a_p3 t_passed t_jammed u5 p1_told p1_round p1_x p1_rust p1_rooms p1_pins p2_told p2_barred p2_one p2_other p2_fits p3_size p3_rules p3_signs p3_values u3.2.2 p3_letters p3_amounts p3_conditions p3_ends)) C mv_X10_knowDoor mi_X10_knowDoor ml_X10_52 (c_X10_knowDoor X.2.1 E o_t a_t o_p1 a_p1 o_p2 a_p2 t_passed t_jammed u3.2.1 p1_told p1_round p1_x p1_rust p1_rooms p1_pins p2_told p2_barred p2_one p2_other p2_fits u3.1 u5 hu5) dX10_step_47 (by decide) rfl (Nat.le_of_ble_eq_true rfl) 0 9 rfl rfl [0, 1, 2, 3, 4, 5, 6, 7, 8, 9] rfl (by decide) rfl rfl rfl rfl ?_
      refine g_aload_n (pc := 50) C dX10_step_50 rfl 4 rfl ?_
      refine g_bipush (pc := 51) (v := 106) C dX10_step_51 (by decide) ?_
      refine g_bipush (pc := 53) (v := 10) C dX10_step_53 (by decide) ?_
      refine g_aload_n (pc := 55) C dX10_step_55 rfl 1 rfl ?_
      refine g_get (pc := 56) C fl_X10_9 dX10_step_56 0 rfl rfl ?_
      obtain ⟨u6, hu6, h⟩ := bs h
      refine g_callV (pc := 59) (st := []) (st1 := [.int u6.1]) (ws' := (W_X10_step E o_t a_t o_p1 a_p1 o_p2 a_p2 o_p3 a_p3 t_passed t_jammed u5 p1_told p1_round p1_x p1_rust p1_rooms p1_pins p2_told p2_barred p2_one p2_other p2_fits p3_size p3_rules p3_signs p3_values u6.2 p3_letters p3_amounts p3_conditions p3_ends)) C mv_X2_amountOf mi_X2_amountOf ml_X10_56 (c_X2_amountOf X.2.1 E o_p3 a_p3 (a_t 0) 10 p3_size p3_rules p3_signs p3_values u3.2.2 p3_letters p3_amounts p3_conditions p3_ends u5 (106 : Int32) (10 : Int32) u6 hu6) dX10_step_59 (by decide) rfl (Nat.le_of_ble_eq_true rfl) 10 2 rfl rfl [10, 11, 12, 13, 14, 15, 16, 17, 1] rfl (by decide) rfl rfl rfl rfl ?_
      refine g_istore (pc := 62) (lv' := [(6, .int u6.1), (5, .int u3.1), (0, .ref o_t), (1, .ref o_p1), (2, .ref o_p2), (3, .ref o_p3), (4, .int x4)]) C dX10_step_62 (by decide) rfl ?_
      refine g_aload_n (pc := 64) C dX10_step_64 rfl 3 rfl ?_
      refine g_iload (pc := 65) C dX10_step_65 6 rfl ?_
      refine g_aload_n (pc := 67) C dX10_step_67 rfl 2 rfl ?_
      refine g_get (pc := 68) C fl_X10_9 dX10_step_68 0 rfl rfl ?_
      refine g_iconst (pc := 71) (v := 5) C dX10_step_71 (by decide) ?_
      refine g_iald (pc := 72) C dX10_step_72 1 rfl h (fun v7 h => ?_)
      obtain ⟨u8, hu8, h⟩ := bs h
      refine g_callV (pc := 73) (st := []) (st1 := []) (ws' := (W_X10_step E o_t a_t o_p1 a_p1 o_p2 a_p2 o_p3 a_p3 t_passed t_jammed u5 p1_told p1_round p1_x p1_rust p1_rooms u8 p2_told p2_barred p2_one p2_other p2_fits p3_size p3_rules p3_signs p3_values u6.2 p3_letters p3_amounts p3_conditions p3_ends)) C mv_X9_takePin mi_X9_takePin ml_X10_60 (c_X9_takePin X.2.1 E o_p1 a_p1 p1_told p1_round p1_x p1_pins x4 v7 u8 hu8) dX10_step_73 (by decide) rfl (Nat.le_of_ble_eq_true rfl) 2 8 rfl rfl [2, 5] rfl (by decide) rfl rfl rfl rfl ?_
      refine g_aload_n (pc := 76) C dX10_step_76 rfl 3 rfl ?_
      obtain ⟨u9, hu9, h⟩ := bs h
      refine g_callV (pc := 77) (st := []) (st1 := [.int u9.1]) (ws' := (W_X10_step E o_t a_t o_p1 a_p1 o_p2 a_p2 o_p3 a_p3 t_passed t_jammed u5 p1_told p1_round u9.2 p1_rust p1_rooms u8 p2_told p2_barred p2_one p2_other p2_fits p3_size p3_rules p3_signs p3_values u6.2 p3_letters p3_amounts p3_conditions p3_ends)) C mv_X9_draw mi_X9_draw ml_X10_64 (c_X9_draw X.2.1 E o_p1 a_p1 p1_told p1_round p1_x u9 hu9) dX10_step_77 (by decide) rfl (Nat.le_of_ble_eq_true rfl) 2 8 rfl rfl [2] rfl (by decide) rfl rfl rfl rfl ?_
      refine g_iload (pc := 80) C dX10_step_80 0 rfl ?_
      refine g_icmp_ge (pc := 82) (tgt := 119) C dX10_step_82 (by decide) h (fun h => ?_) (fun h => ?_)
      · refine g_aload_n (pc := 119) C dX10_step_119 rfl 3 rfl ?_
        refine g_get (pc := 120) C fl_X10_77 dX10_step_120 2 rfl rfl ?_
        refine g_iload (pc := 123) C dX10_step_123 6 rfl ?_
        refine g_aload_n (pc := 125) C dX10_step_125 rfl 2 rfl ?_
        refine g_get (pc := 126) C fl_X10_9 dX10_step_126 0 rfl rfl ?_
        refine g_iconst (pc := 129) (v := 3) C dX10_step_129 (by decide) ?_
        refine g_iald (pc := 130) C dX10_step_130 1 rfl h (fun v10 h => ?_)
        refine g_iast (pc := 131) C dX10_step_131 4 rfl h (fun g11 h => ?_)
        refine g_ws (ws' := (W_X10_step E o_t a_t o_p1 a_p1 o_p2 a_p2 o_p3 a_p3 t_passed t_jammed u5 p1_told p1_round u9.2 p1_rust g11 u8 p2_told p2_barred p2_one p2_other p2_fits p3_size p3_rules p3_signs p3_values u6.2 p3_letters p3_amounts p3_conditions p3_ends)) rfl ?_
        refine g_aload_n (pc := 132) C dX10_step_132 rfl 2 rfl ?_
        refine g_dup (pc := 133) C dX10_step_133 rfl ?_
        refine g_get (pc := 134) C fl_X10_15 dX10_step_134 0 rfl rfl ?_
        refine g_iconst (pc := 137) (v := 1) C dX10_step_137 (by decide) ?_
        refine g_iadd (pc := 138) C dX10_step_138 ?_
        refine g_nm h (fun v12 h => ?_)
        refine g_put (pc := 139) (ws' := (W_X10_step E o_t a_t o_p1 a_p1 o_p2 a_p2 o_p3 a_p3 v12 t_jammed u5 p1_told p1_round u9.2 p1_rust g11 u8 p2_told p2_barred p2_one p2_other p2_fits p3_size p3_rules p3_signs p3_values u6.2 p3_letters p3_amounts p3_conditions p3_ends)) C .int fl_X10_15 dX10_step_139 0 rfl (by decide +kernel) rfl rfl (Nat.le_of_ble_eq_true rfl) rfl ?_
        cases h
        exact hret _ _ _ dX10_step_142 rfl
      · refine g_aload_n (pc := 85) C dX10_step_85 rfl 3 rfl ?_
        refine g_get (pc := 86) C fl_X10_68 dX10_step_86 2 rfl rfl ?_
        refine g_iload (pc := 89) C dX10_step_89 1 rfl ?_
        refine g_bipush (pc := 91) (v := 99) C dX10_step_91 (by decide) ?_
        refine g_aload_n (pc := 93) C dX10_step_93 rfl 3 rfl ?_
        refine g_get (pc := 94) C fl_X10_68 dX10_step_94 2 rfl rfl ?_
        refine g_iload (pc := 97) C dX10_step_97 1 rfl ?_
        refine g_iald (pc := 99) C dX10_step_99 3 rfl h (fun v13 h => ?_)
        refine g_iconst (pc := 100) (v := 1) C dX10_step_100 (by decide) ?_
        refine g_iadd (pc := 101) C dX10_step_101 ?_
        refine g_mmin (pc := 102) C ml_X10_71 ms_min mini_Math mcode_min (Nat.le_of_ble_eq_true rfl) ⟨Nat.zero_le _, Nat.zero_le _⟩ dX10_step_102 ?_
        refine g_iast (pc := 105) C dX10_step_105 3 rfl h (fun g14 h => ?_)
        refine g_ws (ws' := (W_X10_step E o_t a_t o_p1 a_p1 o_p2 a_p2 o_p3 a_p3 t_passed t_jammed u5 p1_told p1_round u9.2 g14 p1_rooms u8 p2_told p2_barred p2_one p2_other p2_fits p3_size p3_rules p3_signs p3_values u6.2 p3_letters p3_amounts p3_conditions p3_ends)) rfl ?_
        refine g_aload_n (pc := 106) C dX10_step_106 rfl 2 rfl ?_
        refine g_dup (pc := 107) C dX10_step_107 rfl ?_
        refine g_get (pc := 108) C fl_X10_19 dX10_step_108 0 rfl rfl ?_
        refine g_iconst (pc := 111) (v := 1) C dX10_step_111 (by decide) ?_
        refine g_iadd (pc := 112) C dX10_step_112 ?_
        refine g_nm h (fun v15 h => ?_)
        refine g_put (pc := 113) (ws' := (W_X10_step E o_t a_t o_p1 a_p1 o_p2 a_p2 o_p3 a_p3 t_passed v15 u5 p1_told p1_round u9.2 g14 p1_rooms u8 p2_told p2_barred p2_one p2_other p2_fits p3_size p3_rules p3_signs p3_values u6.2 p3_letters p3_amounts p3_conditions p3_ends)) C .int fl_X10_19 dX10_step_113 0 rfl (by decide +kernel) rfl rfl (Nat.le_of_ble_eq_true rfl) rfl ?_
        refine g_goto (pc := 116) (tgt := 142) C dX10_step_116 (by decide) ?_
        cases h
        exact hret _ _ _ dX10_step_142 rfl
    · cases h
      exact hret _ _ _ dX10_step_41 rfl
  · cases h
    exact hret _ _ _ dX10_step_20 rfl
abbrev W_X10_go (E : GE) (O_t : Nat) (a_t : Nat → Nat) (O_p1 : Nat) (a_p1 : Nat → Nat) (O_p2 : Nat) (a_p2 : Nat → Nat) (O_p3 : Nat) (a_p3 : Nat → Nat) (t_passed : Int32) (t_jammed : Int32) (t_known : (Nat → Int32)) (p1_told : Int32) (p1_round : Int32) (p1_x : Int32) (p1_rust : (Nat → Int32)) (p1_rooms : (Nat → Int32)) (p1_pins : (Nat → Int32)) (p2_told : Int32) (p2_barred : Int32) (p2_one : (Nat → Int32)) (p2_other : (Nat → Int32)) (p2_fits : (Nat → Int32)) (p3_size : Int32) (p3_rules : Int32) (p3_signs : (Nat → Int32)) (p3_values : (Nat → Int32)) (p3_stack : (Nat → Int32)) (p3_letters : (Nat → Int32)) (p3_amounts : (Nat → Int32)) (p3_conditions : (Nat → Int32)) (p3_ends : (Nat → Int32)) : va_W := [(O_t, ob_X10 a_t t_passed t_jammed), (a_t 0, .inl (E.2.1, 10, .inl t_known)), (O_p1, ob_X9 a_p1 p1_told p1_round p1_x), (a_p1 0, .inl (E.2.1, 24, .inl p1_rust)), (a_p1 1, .inl (E.2.1, 10, .inl p1_rooms)), (a_p1 3, .inl (E.2.1, 60, .inl p1_pins)), (O_p2, ob_X0 a_p2 p2_told p2_barred), (a_p2 0, .inl (E.2.1, 24, .inl p2_one)), (a_p2 1, .inl (E.2.1, 24, .inl p2_other)), (a_p2 3, .inl (E.2.1, 24, .inl p2_fits)), (O_p3, ob_X2 a_p3 p3_size p3_rules), (a_p3 0, .inl (E.2.1, 256, .inl p3_signs)), (a_p3 1, .inl (E.2.1, 256, .inl p3_values)), (a_p3 2, .inl (E.2.1, 64, .inl p3_stack)), (a_p3 3, .inl (E.2.1, 16, .inl p3_letters)), (a_p3 4, .inl (E.2.1, 16, .inl p3_amounts)), (a_p3 5, .inl (E.2.1, 16, .inl p3_conditions)), (a_p3 6, .inl (E.2.1, 16, .inl p3_ends))]
def L_X10_go_33 (p1_told : Int32) (p1_round : Int32) (p2_told : Int32) (p2_barred : Int32) (p2_one : (Nat → Int32)) (p2_other : (Nat → Int32)) (p2_fits : (Nat → Int32)) (p3_rules : Int32) (p3_signs : (Nat → Int32)) (p3_values : (Nat → Int32)) (p3_letters : (Nat → Int32)) (p3_amounts : (Nat → Int32)) (p3_conditions : (Nat → Int32)) (p3_ends : (Nat → Int32)) (x4 : Int32) (x5 : Int32) (k0 : Int32 × Int32 × (Nat → Int32) × Int32 × (Nat → Int32) × (Nat → Int32) × (Nat → Int32) × (Nat → Int32) → Option (Int32 × Int32 × (Nat → Int32) × Int32 × Int32 × (Nat → Int32) × (Nat → Int32) × (Nat → Int32) × (Nat → Int32))) : Nat → Int32 × Int32 × Int32 × (Nat → Int32) × Int32 × (Nat → Int32) × (Nat → Int32) × (Nat → Int32) × (Nat → Int32) → Option (Int32 × Int32 × (Nat → Int32) × Int32 × Int32 × (Nat → Int32) × (Nat → Int32) × (Nat → Int32) × (Nat → Int32)) := lp fun go s => if (10 : Int32) ≤ s.1 then (k0 (s.2.1, s.2.2.1, s.2.2.2.1, s.2.2.2.2.1, s.2.2.2.2.2.1, s.2.2.2.2.2.2.1, s.2.2.2.2.2.2.2.1, s.2.2.2.2.2.2.2.2)) else (f_X9_isTold p1_told s.1).bind fun u1 => if u1 = 0 then (nm (s.1 + (1 : Int32)) fun v2 => go (v2, s.2.1, s.2.2.1, s.2.2.2.1, s.2.2.2.2.1, s.2.2.2.2.2.1, s.2.2.2.2.2.2.1, s.2.2.2.2.2.2.2.1, s.2.2.2.2.2.2.2.2)) else (f_X10_step s.2.1 s.2.2.1 s.2.2.2.1 p1_told p1_round s.2.2.2.2.1 s.2.2.2.2.2.1 s.2.2.2.2.2.2.1 s.2.2.2.2.2.2.2.1 p2_told p2_barred p2_one p2_other p2_fits p3_rules p3_signs p3_values s.2.2.2.2.2.2.2.2 p3_letters p3_amounts p3_conditions p3_ends s.1).bind fun u3 => nm (s.1 + (1 : Int32)) fun v4 => go (v4, u3.1, u3.2.1, u3.2.2.1, u3.2.2.2.1, u3.2.2.2.2.1, u3.2.2.2.2.2.1, u3.2.2.2.2.2.2.1, u3.2.2.2.2.2.2.2)
def L_X10_go_13 (p1_told : Int32) (p2_told : Int32) (p2_barred : Int32) (p2_one : (Nat → Int32)) (p2_other : (Nat → Int32)) (p2_fits : (Nat → Int32)) (p3_rules : Int32) (p3_signs : (Nat → Int32)) (p3_values : (Nat → Int32)) (p3_letters : (Nat → Int32)) (p3_amounts : (Nat → Int32)) (p3_conditions : (Nat → Int32)) (p3_ends : (Nat → Int32)) (x4 : Int32) : Nat → Int32 × Int32 × Int32 × (Nat → Int32) × Int32 × Int32 × (Nat → Int32) × (Nat → Int32) × (Nat → Int32) × (Nat → Int32) → Option (Int32 × Int32 × (Nat → Int32) × Int32 × Int32 × (Nat → Int32) × (Nat → Int32) × (Nat → Int32) × (Nat → Int32)) := lp fun go s => if x4 ≤ s.1 then (some (s.2.1, s.2.2.1, s.2.2.2.1, s.2.2.2.2.1, s.2.2.2.2.2.1, s.2.2.2.2.2.2.1, s.2.2.2.2.2.2.2.1, s.2.2.2.2.2.2.2.2.1, s.2.2.2.2.2.2.2.2.2)) else if (9999 : Int32) ≤ s.2.2.2.2.1 then (some (s.2.1, s.2.2.1, s.2.2.2.1, s.2.2.2.2.1, s.2.2.2.2.2.1, s.2.2.2.2.2.2.1, s.2.2.2.2.2.2.2.1, s.2.2.2.2.2.2.2.2.1, s.2.2.2.2.2.2.2.2.2)) else L_X10_go_33 p1_told s.2.2.2.2.1 p2_told p2_barred p2_one p2_other p2_fits p3_rules p3_signs p3_values p3_letters p3_amounts p3_conditions p3_ends x4 s.1 (fun s5 => nm (s.2.2.2.2.1 + (1 : Int32)) fun v6 => nm (s.1 + (1 : Int32)) fun v7 => go (v7, s5.1, s5.2.1, s5.2.2.1, v6, s5.2.2.2.1, s5.2.2.2.2.1, s5.2.2.2.2.2.1, s5.2.2.2.2.2.2.1, s5.2.2.2.2.2.2.2)) fu ((0 : Int32), s.2.1, s.2.2.1, s.2.2.2.1, s.2.2.2.2.2.1, s.2.2.2.2.2.2.1, s.2.2.2.2.2.2.2.1, s.2.2.2.2.2.2.2.2.1, s.2.2.2.2.2.2.2.2.2)
def f_X10_go (t_passed : Int32) (t_jammed : Int32) (t_known : (Nat → Int32)) (p1_told : Int32) (p1_round : Int32) (p1_x : Int32) (p1_rust : (Nat → Int32)) (p1_rooms : (Nat → Int32)) (p1_pins : (Nat → Int32)) (p2_told : Int32) (p2_barred : Int32) (p2_one : (Nat → Int32)) (p2_other : (Nat → Int32)) (p2_fits : (Nat → Int32)) (p3_rules : Int32) (p3_signs : (Nat → Int32)) (p3_values : (Nat → Int32)) (p3_stack : (Nat → Int32)) (p3_letters : (Nat → Int32)) (p3_amounts : (Nat → Int32)) (p3_conditions : (Nat → Int32)) (p3_ends : (Nat → Int32)) (x4 : Int32) : Option (Int32 × Int32 × (Nat → Int32) × Int32 × Int32 × (Nat → Int32) × (Nat → Int32) × (Nat → Int32) × (Nat → Int32)) := L_X10_go_13 p1_told p2_told p2_barred p2_one p2_other p2_fits p3_rules p3_signs p3_values p3_letters p3_amounts p3_conditions p3_ends x4 fu ((0 : Int32), (0 : Int32), (0 : Int32), t_known, p1_round, p1_x, p1_rust, p1_rooms, p1_pins, p3_stack)
theorem dX10_go_0 : decode cX10_go 0 = .ok (.aload_n 0, 1) := by decide +kernel
theorem dX10_go_1 : decode cX10_go 1 = .ok (.iconst 0, 1) := by decide +kernel
theorem dX10_go_2 : decode cX10_go 2 = .ok (.putfield 15, 3) := by decide +kernel
theorem dX10_go_5 : decode cX10_go 5 = .ok (.aload_n 0, 1) := by decide +kernel
theorem dX10_go_6 : decode cX10_go 6 = .ok (.iconst 0, 1) := by decide +kernel
theorem dX10_go_7 : decode cX10_go 7 = .ok (.putfield 19, 3) := by decide +kernel
theorem dX10_go_10 : decode cX10_go 10 = .ok (.iconst 0, 1) := by decide +kernel
theorem dX10_go_11 : decode cX10_go 11 = .ok (.istore 5, 2) := by decide +kernel
theorem dX10_go_13 : decode cX10_go 13 = .ok (.iload 5, 2) := by decide +kernel
theorem dX10_go_15 : decode cX10_go 15 = .ok (.iload 4, 2) := by decide +kernel
theorem dX10_go_17 : decode cX10_go 17 = .ok (.if_icmp .ge 63, 3) := by decide +kernel
theorem dX10_go_20 : decode cX10_go 20 = .ok (.aload_n 1, 1) := by decide +kernel
theorem dX10_go_21 : decode cX10_go 21 = .ok (.getfield 22, 3) := by decide +kernel
theorem dX10_go_24 : decode cX10_go 24 = .ok (.sipush 9999, 3) := by decide +kernel
theorem dX10_go_27 : decode cX10_go 27 = .ok (.if_icmp .ge 53, 3) := by decide +kernel
theorem dX10_go_30 : decode cX10_go 30 = .ok (.iconst 0, 1) := by decide +kernel
theorem dX10_go_31 : decode cX10_go 31 = .ok (.istore 6, 2) := by decide +kernel
theorem dX10_go_33 : decode cX10_go 33 = .ok (.iload 6, 2) := by decide +kernel
theorem dX10_go_35 : decode cX10_go 35 = .ok (.bipush 10, 2) := by decide +kernel
theorem dX10_go_37 : decode cX10_go 37 = .ok (.if_icmp .ge 27, 3) := by decide +kernel
theorem dX10_go_40 : decode cX10_go 40 = .ok (.aload_n 1, 1) := by decide +kernel
theorem dX10_go_41 : decode cX10_go 41 = .ok (.iload 6, 2) := by decide +kernel
theorem dX10_go_43 : decode cX10_go 43 = .ok (.invokevirtual 27, 3) := by decide +kernel
theorem dX10_go_46 : decode cX10_go 46 = .ok (.ifCond .eq 12, 3) := by decide +kernel
theorem dX10_go_49 : decode cX10_go 49 = .ok (.aload_n 0, 1) := by decide +kernel
theorem dX10_go_50 : decode cX10_go 50 = .ok (.aload_n 1, 1) := by decide +kernel
theorem dX10_go_51 : decode cX10_go 51 = .ok (.aload_n 2, 1) := by decide +kernel
theorem dX10_go_52 : decode cX10_go 52 = .ok (.aload_n 3, 1) := by decide +kernel
theorem dX10_go_53 : decode cX10_go 53 = .ok (.iload 6, 2) := by decide +kernel
theorem dX10_go_55 : decode cX10_go 55 = .ok (.invokevirtual 31, 3) := by decide +kernel
theorem dX10_go_58 : decode cX10_go 58 = .ok (.iinc 6 1, 3) := by decide +kernel
theorem dX10_go_61 : decode cX10_go 61 = .ok (.goto (-28), 3) := by decide +kernel
theorem dX10_go_64 : decode cX10_go 64 = .ok (.aload_n 1, 1) := by decide +kernel
theorem dX10_go_65 : decode cX10_go 65 = .ok (.dup, 1) := by decide +kernel
theorem dX10_go_66 : decode cX10_go 66 = .ok (.getfield 22, 3) := by decide +kernel
theorem dX10_go_69 : decode cX10_go 69 = .ok (.iconst 1, 1) := by decide +kernel
theorem dX10_go_70 : decode cX10_go 70 = .ok (.iadd, 1) := by decide +kernel
theorem dX10_go_71 : decode cX10_go 71 = .ok (.putfield 22, 3) := by decide +kernel
theorem dX10_go_74 : decode cX10_go 74 = .ok (.iinc 5 1, 3) := by decide +kernel
theorem dX10_go_77 : decode cX10_go 77 = .ok (.goto (-64), 3) := by decide +kernel
theorem dX10_go_80 : decode cX10_go 80 = .ok (.return_, 1) := by decide +kernel
set_option maxHeartbeats 4000000 in
set_option maxRecDepth 100000 in
theorem kL_X10_go_33 {X : GC} {E : GE} (C : Cx X E cX10_go RX10 6 7) (o_t : Nat) (a_t : Nat → Nat) (o_p1 : Nat) (a_p1 : Nat → Nat) (o_p2 : Nat) (a_p2 : Nat → Nat) (o_p3 : Nat) (a_p3 : Nat → Nat) (p3_size : Int32) (p1_told : Int32) (p1_round : Int32) (p2_told : Int32) (p2_barred : Int32) (p2_one : (Nat → Int32)) (p2_other : (Nat → Int32)) (p2_fits : (Nat → Int32)) (p3_rules : Int32) (p3_signs : (Nat → Int32)) (p3_values : (Nat → Int32)) (p3_letters : (Nat → Int32)) (p3_amounts : (Nat → Int32)) (p3_conditions : (Nat → Int32)) (p3_ends : (Nat → Int32)) (x4 : Int32) (x5 : Int32) (k0 : Int32 × Int32 × (Nat → Int32) × Int32 × (Nat → Int32) × (Nat → Int32) × (Nat → Int32) × (Nat → Int32) → Option (Int32 × Int32 × (Nat → Int32) × Int32 × Int32 × (Nat → Int32) × (Nat → Int32) × (Nat → Int32) × (Nat → Int32))) {r : Int32 × Int32 × (Nat → Int32) × Int32 × Int32 × (Nat → Int32) × (Nat → Int32) × (Nat → Int32) × (Nat → Int32)} (hret : RtV X E cX10_go 0 0 (fun w => w = (W_X10_go E o_t a_t o_p1 a_p1 o_p2 a_p2 o_p3 a_p3 r.1 r.2.1 r.2.2.1 p1_told r.2.2.2.1 r.2.2.2.2.1 r.2.2.2.2.2.1 r.2.2.2.2.2.2.1 r.2.2.2.2.2.2.2.1 p2_told p2_barred p2_one p2_other p2_fits p3_size p3_rules p3_signs p3_values r.2.2.2.2.2.2.2.2 p3_letters p3_amounts p3_conditions p3_ends))) (hk0 : ∀ u, k0 u = some r → Gx X E 0 0 (W_X10_go E o_t a_t o_p1 a_p1 o_p2 a_p2 o_p3 a_p3 u.1 u.2.1 u.2.2.1 p1_told p1_round u.2.2.2.1 u.2.2.2.2.1 u.2.2.2.2.2.1 u.2.2.2.2.2.2.1 p2_told p2_barred p2_one p2_other p2_fits p3_size p3_rules p3_signs p3_values u.2.2.2.2.2.2.2 p3_letters p3_amounts p3_conditions p3_ends) 64 [(0, .ref o_t), (1, .ref o_p1), (2, .ref o_p2), (3, .ref o_p3), (4, .int x4), (5, .int x5)] []) : ∀ (n : Nat) (s : Int32 × Int32 × Int32 × (Nat → Int32) × Int32 × (Nat → Int32) × (Nat → Int32) × (Nat → Int32) × (Nat → Int32)), L_X10_go_33 p1_told p1_round p2_told p2_barred p2_one p2_other p2_fits p3_rules p3_signs p3_values p3_letters p3_amounts p3_conditions p3_ends x4 x5 k0 n s = some r → Gx X E 0 0 (W_X10_go E o_t a_t o_p1 a_p1 o_p2 a_p2 o_p3 a_p3 s.2.1 s.2.2.1 s.2.2.2.1 p1_told p1_round s.2.2.2.2.1 s.2.2.2.2.2.1 s.2.2.2.2.2.2.1 s.2.2.2.2.2.2.2.1 p2_told p2_barred p2_one p2_other p2_fits p3_size p3_rules p3_signs p3_values s.2.2.2.2.2.2.2.2 p3_letters p3_amounts p3_conditions p3_ends) 33 [(0, .ref o_t), (1, .ref o_p1), (2, .ref o_p2), (3, .ref o_p3), (4, .int x4), (5, .int x5), (6, .int s.1)] [] := by
  unfold L_X10_go_33
  refine lp_ind _ (fun go ih s h => ?_)
  refine g_iload (pc := 33) C dX10_go_33 6 rfl ?_
  refine g_bipush (pc := 35) (v := 10) C dX10_go_35 (by decide) ?_
  refine g_icmp_ge (pc := 37) (tgt := 64) C dX10_go_37 (by decide) h (fun h => ?_) (fun h => ?_)
  · refine g_sub [0, 1, 2, 3, 4, 5] rfl ?_
    exact hk0 _ h
  · refine g_aload_n (pc := 40) C dX10_go_40 rfl 1 rfl ?_
    refine g_iload (pc := 41) C dX10_go_41 6 rfl ?_
    obtain ⟨u1, hu1, h⟩ := bs h
    refine g_callV (pc := 43) (st := []) (st1 := [.int u1]) (ws' := (W_X10_go E o_t a_t o_p1 a_p1 o_p2 a_p2 o_p3 a_p3 s.2.1 s.2.2.1 s.2.2.2.1 p1_told p1_round s.2.2.2.2.1 s.2.2.2.2.2.1 s.2.2.2.2.2.2.1 s.2.2.2.2.2.2.2.1 p2_told p2_barred p2_one p2_other p2_fits p3_size p3_rules p3_signs p3_values s.2.2.2.2.2.2.2.2 p3_letters p3_amounts p3_conditions p3_ends)) C mv_X9_isTold mi_X9_isTold ml_X10_27 (c_X9_isTold X.2.1 E o_p1 a_p1 p1_told p1_round s.2.2.2.2.1 s.1 u1 hu1) dX10_go_43 (by decide) rfl (Nat.le_of_ble_eq_true rfl) 2 8 rfl rfl [2] rfl (by decide) rfl rfl rfl rfl ?_
    refine g_if_eq (pc := 46) (tgt := 58) C dX10_go_46 (by decide) h (fun h => ?_) (fun h => ?_)
    · refine g_iincn (pc := 58) (j := 6) (d := 1) (lv' := fun v2 => [(6, .int v2), (0, .ref o_t), (1, .ref o_p1), (2, .ref o_p2), (3, .ref o_p3), (4, .int x4), (5, .int x5)]) C dX10_go_58 rfl (by decide) (by decide) (fun _ => rfl) h (fun v2 h => ?_)
      refine g_goto (pc := 61) (tgt := 33) C dX10_go_61 (by decide) ?_
      refine g_sub [1, 2, 3, 4, 5, 6, 0] rfl ?_
      exact ih _ h
    · refine g_aload_n (pc := 49) C dX10_go_49 rfl 0 rfl ?_
      refine g_aload_n (pc := 50) C dX10_go_50 rfl 1 rfl ?_
      refine g_aload_n (pc := 51) C dX10_go_51 rfl 2 rfl ?_
      refine g_aload_n (pc := 52) C dX10_go_52 rfl 3 rfl ?_
      refine g_iload (pc := 53) C dX10_go_53 6 rfl ?_
      obtain ⟨u3, hu3, h⟩ := bs h
      refine g_callV (pc := 55) (st := []) (st1 := []) (ws' := (W_X10_go E o_t a_t o_p1 a_p1 o_p2 a_p2 o_p3 a_p3 u3.1 u3.2.1 u3.2.2.1 p1_told p1_round u3.2.2.2.1 u3.2.2.2.2.1 u3.2.2.2.2.2.1 u3.2.2.2.2.2.2.1 p2_told p2_barred p2_one p2_other p2_fits p3_size p3_rules p3_signs p3_values u3.2.2.2.2.2.2.2 p3_letters p3_amounts p3_conditions p3_ends)) C mv_X10_step mi_X10_step ml_X10_31 (c_X10_step X.2.1 E o_t a_t o_p1 a_p1 o_p2 a_p2 o_p3 a_p3 s.2.1 s.2.2.1 s.2.2.2.1 p1_told p1_round s.2.2.2.2.1 s.2.2.2.2.2.1 s.2.2.2.2.2.2.1 s.2.2.2.2.2.2.2.1 p2_told p2_barred p2_one p2_other p2_fits p3_size p3_rules p3_signs p3_values s.2.2.2.2.2.2.2.2 p3_letters p3_amounts p3_conditions p3_ends s.1 u3 hu3) dX10_go_55 (by decide) rfl (Nat.le_of_ble_eq_true rfl) 0 9 rfl rfl [0, 1, 2, 3, 4, 5, 6, 7, 8, 9, 10, 11, 12, 13, 14, 15, 16, 17] rfl (by decide) rfl rfl rfl rfl ?_
      refine g_iincn (pc := 58) (j := 6) (d := 1) (lv' := fun v4 => [(6, .int v4), (0, .ref o_t), (1, .ref o_p1), (2, .ref o_p2), (3, .ref o_p3), (4, .int x4), (5, .int x5)]) C dX10_go_58 rfl (by decide) (by decide) (fun _ => rfl) h (fun v4 h => ?_)
      refine g_goto (pc := 61) (tgt := 33) C dX10_go_61 (by decide) ?_
      refine g_sub [1, 2, 3, 4, 5, 6, 0] rfl ?_
      exact ih _ h
set_option maxHeartbeats 4000000 in
set_option maxRecDepth 100000 in
theorem kL_X10_go_13 {X : GC} {E : GE} (C : Cx X E cX10_go RX10 6 7) (o_t : Nat) (a_t : Nat → Nat) (o_p1 : Nat) (a_p1 : Nat → Nat) (o_p2 : Nat) (a_p2 : Nat → Nat) (o_p3 : Nat) (a_p3 : Nat → Nat) (p3_size : Int32) (p1_told : Int32) (p2_told : Int32) (p2_barred : Int32) (p2_one : (Nat → Int32)) (p2_other : (Nat → Int32)) (p2_fits : (Nat → Int32)) (p3_rules : Int32) (p3_signs : (Nat → Int32)) (p3_values : (Nat → Int32)) (p3_letters : (Nat → Int32)) (p3_amounts : (Nat → Int32)) (p3_conditions : (Nat → Int32)) (p3_ends : (Nat → Int32)) (x4 : Int32) {r : Int32 × Int32 × (Nat → Int32) × Int32 × Int32 × (Nat → Int32) × (Nat → Int32) × (Nat → Int32) × (Nat → Int32)} (hret : RtV X E cX10_go 0 0 (fun w => w = (W_X10_go E o_t a_t o_p1 a_p1 o_p2 a_p2 o_p3 a_p3 r.1 r.2.1 r.2.2.1 p1_told r.2.2.2.1 r.2.2.2.2.1 r.2.2.2.2.2.1 r.2.2.2.2.2.2.1 r.2.2.2.2.2.2.2.1 p2_told p2_barred p2_one p2_other p2_fits p3_size p3_rules p3_signs p3_values r.2.2.2.2.2.2.2.2 p3_letters p3_amounts p3_conditions p3_ends))) : ∀ (n : Nat) (s : Int32 × Int32 × Int32 × (Nat → Int32) × Int32 × Int32 × (Nat → Int32) × (Nat → Int32) × (Nat → Int32) × (Nat → Int32)), L_X10_go_13 p1_told p2_told p2_barred p2_one p2_other p2_fits p3_rules p3_signs p3_values p3_letters p3_amounts p3_conditions p3_ends x4 n s = some r → Gx X E 0 0 (W_X10_go E o_t a_t o_p1 a_p1 o_p2 a_p2 o_p3 a_p3 s.2.1 s.2.2.1 s.2.2.2.1 p1_told s.2.2.2.2.1 s.2.2.2.2.2.1 s.2.2.2.2.2.2.1 s.2.2.2.2.2.2.2.1 s.2.2.2.2.2.2.2.2.1 p2_told p2_barred p2_one p2_other p2_fits p3_size p3_rules p3_signs p3_values s.2.2.2.2.2.2.2.2.2 p3_letters p3_amounts p3_conditions p3_ends) 13 [(0, .ref o_t), (1, .ref o_p1), (2, .ref o_p2), (3, .ref o_p3), (4, .int x4), (5, .int s.1)] [] := by
  unfold L_X10_go_13
  refine lp_ind _ (fun go ih s h => ?_)
  refine g_iload (pc := 13) C dX10_go_13 5 rfl ?_
  refine g_iload (pc := 15) C dX10_go_15 4 rfl ?_
  refine g_icmp_ge (pc := 17) (tgt := 80) C dX10_go_17 (by decide) h (fun h => ?_) (fun h => ?_)
  · cases h
    exact hret _ _ _ dX10_go_80 rfl
  · refine g_aload_n (pc := 20) C dX10_go_20 rfl 1 rfl ?_
    refine g_get (pc := 21) C fl_X10_22 dX10_go_21 2 rfl rfl ?_
    refine g_sipush (pc := 24) (v := 9999) C dX10_go_24 (by decide) ?_
    refine g_icmp_ge (pc := 27) (tgt := 80) C dX10_go_27 (by decide) h (fun h => ?_) (fun h => ?_)
    · cases h
      exact hret _ _ _ dX10_go_80 rfl
    · refine g_iconst (pc := 30) (v := 0) C dX10_go_30 (by decide) ?_
      refine g_istore (pc := 31) (lv' := [(6, .int (0 : Int32)), (0, .ref o_t), (1, .ref o_p1), (2, .ref o_p2), (3, .ref o_p3), (4, .int x4), (5, .int s.1)]) C dX10_go_31 (by decide) rfl ?_
      refine g_sub [1, 2, 3, 4, 5, 6, 0] rfl ?_
      refine kL_X10_go_33 C o_t a_t o_p1 a_p1 o_p2 a_p2 o_p3 a_p3 p3_size p1_told s.2.2.2.2.1 p2_told p2_barred p2_one p2_other p2_fits p3_rules p3_signs p3_values p3_letters p3_amounts p3_conditions p3_ends x4 s.1 _ hret (fun s5 h => ?_) _ _ h
      refine g_aload_n (pc := 64) C dX10_go_64 rfl 1 rfl ?_
      refine g_dup (pc := 65) C dX10_go_65 rfl ?_
      refine g_get (pc := 66) C fl_X10_22 dX10_go_66 2 rfl rfl ?_
      refine g_iconst (pc := 69) (v := 1) C dX10_go_69 (by decide) ?_
      refine g_iadd (pc := 70) C dX10_go_70 ?_
      refine g_nm h (fun v6 h => ?_)
      refine g_put (pc := 71) (ws' := (W_X10_go E o_t a_t o_p1 a_p1 o_p2 a_p2 o_p3 a_p3 s5.1 s5.2.1 s5.2.2.1 p1_told v6 s5.2.2.2.1 s5.2.2.2.2.1 s5.2.2.2.2.2.1 s5.2.2.2.2.2.2.1 p2_told p2_barred p2_one p2_other p2_fits p3_size p3_rules p3_signs p3_values s5.2.2.2.2.2.2.2 p3_letters p3_amounts p3_conditions p3_ends)) C .int fl_X10_22 dX10_go_71 2 rfl (by decide +kernel) rfl rfl (Nat.le_of_ble_eq_true rfl) rfl ?_
      refine g_iincn (pc := 74) (j := 5) (d := 1) (lv' := fun v7 => [(5, .int v7), (0, .ref o_t), (1, .ref o_p1), (2, .ref o_p2), (3, .ref o_p3), (4, .int x4)]) C dX10_go_74 rfl (by decide) (by decide) (fun _ => rfl) h (fun v7 h => ?_)
      refine g_goto (pc := 77) (tgt := 13) C dX10_go_77 (by decide) ?_
      refine g_sub [1, 2, 3, 4, 5, 0] rfl ?_
      exact ih _ h
set_option maxHeartbeats 4000000 in
set_option maxRecDepth 100000 in
theorem c_X10_go (l : Launch) (E : GE) (o_t : Nat) (a_t : Nat → Nat) (o_p1 : Nat) (a_p1 : Nat → Nat) (o_p2 : Nat) (a_p2 : Nat → Nat) (o_p3 : Nat) (a_p3 : Nat → Nat) (t_passed : Int32) (t_jammed : Int32) (t_known : (Nat → Int32)) (p1_told : Int32) (p1_round : Int32) (p1_x : Int32) (p1_rust : (Nat → Int32)) (p1_rooms : (Nat → Int32)) (p1_pins : (Nat → Int32)) (p2_told : Int32) (p2_barred : Int32) (p2_one : (Nat → Int32)) (p2_other : (Nat → Int32)) (p2_fits : (Nat → Int32)) (p3_size : Int32) (p3_rules : Int32) (p3_signs : (Nat → Int32)) (p3_values : (Nat → Int32)) (p3_stack : (Nat → Int32)) (p3_letters : (Nat → Int32)) (p3_amounts : (Nat → Int32)) (p3_conditions : (Nat → Int32)) (p3_ends : (Nat → Int32)) (x4 : Int32) (r : Int32 × Int32 × (Nat → Int32) × Int32 × Int32 × (Nat → Int32) × (Nat → Int32) × (Nat → Int32) × (Nat → Int32)) (h : f_X10_go t_passed t_jammed t_known p1_told p1_round p1_x p1_rust p1_rooms p1_pins p2_told p2_barred p2_one p2_other p2_fits p3_rules p3_signs p3_values p3_stack p3_letters p3_amounts p3_conditions p3_ends x4 = some r) : Cn l E yX10_go cX10_go 7 none 6 0 0 [.ref o_t, .ref o_p1, .ref o_p2, .ref o_p3, .int x4] (W_X10_go E o_t a_t o_p1 a_p1 o_p2 a_p2 o_p3 a_p3 t_passed t_jammed t_known p1_told p1_round p1_x p1_rust p1_rooms p1_pins p2_told p2_barred p2_one p2_other p2_fits p3_size p3_rules p3_signs p3_values p3_stack p3_letters p3_amounts p3_conditions p3_ends) (fun w => w = (W_X10_go E o_t a_t o_p1 a_p1 o_p2 a_p2 o_p3 a_p3 r.1 r.2.1 r.2.2.1 p1_told r.2.2.2.1 r.2.2.2.2.1 r.2.2.2.2.2.1 r.2.2.2.2.2.2.1 r.2.2.2.2.2.2.2.1 p2_told p2_barred p2_one p2_other p2_fits p3_size p3_rules p3_signs p3_values r.2.2.2.2.2.2.2.2 p3_letters p3_amounts p3_conditions p3_ends)) none := by
  refine Cn.ofV (by decide +kernel) (Nat.le_of_ble_eq_true rfl) (fun X hX hR C hret => ?_)
  subst hX
  show Gx X E 0 0 (W_X10_go E o_t a_t o_p1 a_p1 o_p2 a_p2 o_p3 a_p3 t_passed t_jammed t_known p1_told p1_round p1_x p1_rust p1_rooms p1_pins p2_told p2_barred p2_one p2_other p2_fits p3_size p3_rules p3_signs p3_values p3_stack p3_letters p3_amounts p3_conditions p3_ends) 0 [(0, .ref o_t), (1, .ref o_p1), (2, .ref o_p2), (3, .ref o_p3), (4, .int x4)] []
  unfold f_X10_go at h
  refine g_aload_n (pc := 0) C dX10_go_0 rfl 0 rfl ?_
  refine g_iconst (pc := 1) (v := 0) C dX10_go_1 (by decide) ?_
  refine g_put (pc := 2) (ws' := (W_X10_go E o_t a_t o_p1 a_p1 o_p2 a_p2 o_p3 a_p3 (0 : Int32) t_jammed t_known p1_told p1_round p1_x p1_rust p1_rooms p1_pins p2_told p2_barred p2_one p2_other p2_fits p3_size p3_rules p3_signs p3_values p3_stack p3_letters p3_amounts p3_conditions p3_ends)) C .int fl_X10_15 dX10_go_2 0 rfl (by decide +kernel) rfl rfl (Nat.le_of_ble_eq_true rfl) rfl ?_
  refine g_aload_n (pc := 5) C dX10_go_5 rfl 0 rfl ?_
  refine g_iconst (pc := 6) (v := 0) C dX10_go_6 (by decide) ?_
  refine g_put (pc := 7) (ws' := (W_X10_go E o_t a_t o_p1 a_p1 o_p2 a_p2 o_p3 a_p3 (0 : Int32) (0 : Int32) t_known p1_told p1_round p1_x p1_rust p1_rooms p1_pins p2_told p2_barred p2_one p2_other p2_fits p3_size p3_rules p3_signs p3_values p3_stack p3_letters p3_amounts p3_conditions p3_ends)) C .int fl_X10_19 dX10_go_7 0 rfl (by decide +kernel) rfl rfl (Nat.le_of_ble_eq_true rfl) rfl ?_
  refine g_iconst (pc := 10) (v := 0) C dX10_go_10 (by decide) ?_
  refine g_istore (pc := 11) (lv' := [(5, .int (0 : Int32)), (0, .ref o_t), (1, .ref o_p1), (2, .ref o_p2), (3, .ref o_p3), (4, .int x4)]) C dX10_go_11 (by decide) rfl ?_
  refine g_sub [1, 2, 3, 4, 5, 0] rfl ?_
  refine kL_X10_go_13 C o_t a_t o_p1 a_p1 o_p2 a_p2 o_p3 a_p3 p3_size p1_told p2_told p2_barred p2_one p2_other p2_fits p3_rules p3_signs p3_values p3_letters p3_amounts p3_conditions p3_ends x4 hret  _ _ h
