abbrev W_X11_hair (E : GE) (O_t : Nat) (r_t_tape : Nat) (r_t_script : Nat) (r_t_hairReader : Nat) (r_t_ordersReader : Nat) (r_t_lawReader : Nat) (r_t_doors : Nat) (r_t_town : Nat) (r_t_kept : Nat) (r_t_trial : Nat) (r_t_walk : Nat) (r_t_reach : Nat) (r_t_lawNow : Nat) (r_t_lawSpare : Nat) (O_tape : Nat) (a_tape : Nat → Nat) (O_script : Nat) (r_script_tape : Nat) (O_hairReader : Nat) (r_hairReader_script : Nat) (a_hairReader : Nat → Nat) (O_town : Nat) (a_town : Nat → Nat) (t_isKept : Int32) (tape_size : Int32) (tape_bytes : (Nat → Int32)) (script_end : Int32) (script_place : Int32) (script_sign : Int32) (script_fault : Int32) (hairReader_pins : (Nat → Int32)) (hairReader_ahead : (Nat → Int32)) (town_told : Int32) (town_round : Int32) (town_x : Int32) (town_hair : (Nat → Int32)) (town_pins : (Nat → Int32)) : va_W := [(O_t, ob_X11 r_t_tape r_t_script r_t_hairReader r_t_ordersReader r_t_lawReader r_t_doors r_t_town r_t_kept r_t_trial r_t_walk r_t_reach r_t_lawNow r_t_lawSpare t_isKept), (O_tape, ob_X8 a_tape tape_size), (a_tape 0, .inl (E.2.1, 260, .inl tape_bytes)), (O_script, ob_X7 r_script_tape script_end script_place script_sign script_fault), (O_hairReader, ob_X1 r_hairReader_script a_hairReader), (a_hairReader 1, .inl (E.2.1, 6, .inl hairReader_pins)), (a_hairReader 2, .inl (E.2.1, 12, .inl hairReader_ahead)), (O_town, ob_X9 a_town town_told town_round town_x), (a_town 2, .inl (E.2.1, 60, .inl town_hair)), (a_town 3, .inl (E.2.1, 60, .inl town_pins))]
def f_X11_hair (tape_size : Int32) (tape_bytes : (Nat → Int32)) (script_end : Int32) (script_place : Int32) (script_sign : Int32) (script_fault : Int32) (hairReader_pins : (Nat → Int32)) (hairReader_ahead : (Nat → Int32)) (town_told : Int32) (town_hair : (Nat → Int32)) (town_pins : (Nat → Int32)) (x1 : Int32) (x2 : Int32) : Option (Int32 × Int32 × Int32 × Int32 × Int32 × Int32 × (Nat → Int32) × (Nat → Int32) × (Nat → Int32) × (Nat → Int32)) := (f_X9_isTold town_told x1).bind fun u1 => if u1 = 0 then (some ((-1 : Int32), tape_size, script_end, script_place, script_sign, script_fault, hairReader_pins, hairReader_ahead, town_hair, town_pins)) else (f_X11_isWithin x2 (1 : Int32) (60 : Int32)).bind fun u2 => if u2 = 0 then (some ((-1 : Int32), tape_size, script_end, script_place, script_sign, script_fault, hairReader_pins, hairReader_ahead, town_hair, town_pins)) else if x2 ≤ tape_size then ((f_X7_open script_end script_place script_sign script_fault tape_size tape_bytes x2).bind fun u3 => (f_X1_read hairReader_pins hairReader_ahead u3.1 u3.2.1 u3.2.2.1 u3.2.2.2 tape_size tape_bytes).bind fun u4 => (f_X8_clear tape_size).bind fun u5 => (f_X7_isSound u4.2.2.2.2).bind fun u6 => if u6 = 0 then (some (u4.2.2.2.2, u5, u3.1, u4.2.2.1, u4.2.2.2.1, u4.2.2.2.2, u4.1, u4.2.1, town_hair, town_pins)) else (f_X9_dress 6 town_told town_hair town_pins u4.1 x1).bind fun u7 => (f_X9_pinsOf town_told u7.2 x1).bind fun u8 => some (u8, u5, u3.1, u4.2.2.1, u4.2.2.2.1, u4.2.2.2.2, u4.1, u4.2.1, u7.1, u7.2)) else some ((-1 : Int32), tape_size, script_end, script_place, script_sign, script_fault, hairReader_pins, hairReader_ahead, town_hair, town_pins)
theorem dX11_hair_0 : decode cX11_hair 0 = .ok (.aload_n 0, 1) := by decide +kernel
theorem dX11_hair_1 : decode cX11_hair 1 = .ok (.getfield 51, 3) := by decide +kernel
theorem dX11_hair_4 : decode cX11_hair 4 = .ok (.iload_n 1, 1) := by decide +kernel
theorem dX11_hair_5 : decode cX11_hair 5 = .ok (.invokevirtual 134, 3) := by decide +kernel
theorem dX11_hair_8 : decode cX11_hair 8 = .ok (.ifCond .eq 24, 3) := by decide +kernel
theorem dX11_hair_11 : decode cX11_hair 11 = .ok (.iload_n 2, 1) := by decide +kernel
theorem dX11_hair_12 : decode cX11_hair 12 = .ok (.iconst 1, 1) := by decide +kernel
theorem dX11_hair_13 : decode cX11_hair 13 = .ok (.bipush 60, 2) := by decide +kernel
theorem dX11_hair_15 : decode cX11_hair 15 = .ok (.invokestatic 98, 3) := by decide +kernel
theorem dX11_hair_18 : decode cX11_hair 18 = .ok (.ifCond .eq 14, 3) := by decide +kernel
theorem dX11_hair_21 : decode cX11_hair 21 = .ok (.aload_n 0, 1) := by decide +kernel
theorem dX11_hair_22 : decode cX11_hair 22 = .ok (.getfield 10, 3) := by decide +kernel
theorem dX11_hair_25 : decode cX11_hair 25 = .ok (.getfield 106, 3) := by decide +kernel
theorem dX11_hair_28 : decode cX11_hair 28 = .ok (.iload_n 2, 1) := by decide +kernel
theorem dX11_hair_29 : decode cX11_hair 29 = .ok (.if_icmp .ge 5, 3) := by decide +kernel
theorem dX11_hair_32 : decode cX11_hair 32 = .ok (.iconst (-1), 1) := by decide +kernel
theorem dX11_hair_33 : decode cX11_hair 33 = .ok (.ireturn, 1) := by decide +kernel
theorem dX11_hair_34 : decode cX11_hair 34 = .ok (.aload_n 0, 1) := by decide +kernel
theorem dX11_hair_35 : decode cX11_hair 35 = .ok (.getfield 21, 3) := by decide +kernel
theorem dX11_hair_38 : decode cX11_hair 38 = .ok (.iload_n 2, 1) := by decide +kernel
theorem dX11_hair_39 : decode cX11_hair 39 = .ok (.invokevirtual 114, 3) := by decide +kernel
theorem dX11_hair_42 : decode cX11_hair 42 = .ok (.aload_n 0, 1) := by decide +kernel
theorem dX11_hair_43 : decode cX11_hair 43 = .ok (.getfield 30, 3) := by decide +kernel
theorem dX11_hair_46 : decode cX11_hair 46 = .ok (.invokevirtual 138, 3) := by decide +kernel
theorem dX11_hair_49 : decode cX11_hair 49 = .ok (.aload_n 0, 1) := by decide +kernel
theorem dX11_hair_50 : decode cX11_hair 50 = .ok (.getfield 10, 3) := by decide +kernel
theorem dX11_hair_53 : decode cX11_hair 53 = .ok (.invokevirtual 121, 3) := by decide +kernel
theorem dX11_hair_56 : decode cX11_hair 56 = .ok (.aload_n 0, 1) := by decide +kernel
theorem dX11_hair_57 : decode cX11_hair 57 = .ok (.getfield 21, 3) := by decide +kernel
theorem dX11_hair_60 : decode cX11_hair 60 = .ok (.invokevirtual 124, 3) := by decide +kernel
theorem dX11_hair_63 : decode cX11_hair 63 = .ok (.ifCond .ne 11, 3) := by decide +kernel
theorem dX11_hair_66 : decode cX11_hair 66 = .ok (.aload_n 0, 1) := by decide +kernel
theorem dX11_hair_67 : decode cX11_hair 67 = .ok (.getfield 21, 3) := by decide +kernel
theorem dX11_hair_70 : decode cX11_hair 70 = .ok (.getfield 128, 3) := by decide +kernel
theorem dX11_hair_73 : decode cX11_hair 73 = .ok (.ireturn, 1) := by decide +kernel
theorem dX11_hair_74 : decode cX11_hair 74 = .ok (.aload_n 0, 1) := by decide +kernel
theorem dX11_hair_75 : decode cX11_hair 75 = .ok (.getfield 51, 3) := by decide +kernel
theorem dX11_hair_78 : decode cX11_hair 78 = .ok (.iload_n 1, 1) := by decide +kernel
theorem dX11_hair_79 : decode cX11_hair 79 = .ok (.aload_n 0, 1) := by decide +kernel
theorem dX11_hair_80 : decode cX11_hair 80 = .ok (.getfield 30, 3) := by decide +kernel
theorem dX11_hair_83 : decode cX11_hair 83 = .ok (.getfield 140, 3) := by decide +kernel
theorem dX11_hair_86 : decode cX11_hair 86 = .ok (.invokevirtual 144, 3) := by decide +kernel
theorem dX11_hair_89 : decode cX11_hair 89 = .ok (.aload_n 0, 1) := by decide +kernel
theorem dX11_hair_90 : decode cX11_hair 90 = .ok (.getfield 51, 3) := by decide +kernel
theorem dX11_hair_93 : decode cX11_hair 93 = .ok (.iload_n 1, 1) := by decide +kernel
theorem dX11_hair_94 : decode cX11_hair 94 = .ok (.invokevirtual 148, 3) := by decide +kernel
theorem dX11_hair_97 : decode cX11_hair 97 = .ok (.ireturn, 1) := by decide +kernel
set_option maxHeartbeats 4000000 in
set_option maxRecDepth 100000 in
theorem c_X11_hair (l : Launch) (E : GE) (o_t : Nat) (r_t_tape : Nat) (r_t_script : Nat) (r_t_hairReader : Nat) (r_t_ordersReader : Nat) (r_t_lawReader : Nat) (r_t_doors : Nat) (r_t_town : Nat) (r_t_kept : Nat) (r_t_trial : Nat) (r_t_walk : Nat) (r_t_reach : Nat) (r_t_lawNow : Nat) (r_t_lawSpare : Nat) (a_tape : Nat → Nat) (a_hairReader : Nat → Nat) (a_town : Nat → Nat) (t_isKept : Int32) (tape_size : Int32) (tape_bytes : (Nat → Int32)) (script_end : Int32) (script_place : Int32) (script_sign : Int32) (script_fault : Int32) (hairReader_pins : (Nat → Int32)) (hairReader_ahead : (Nat → Int32)) (town_told : Int32) (town_round : Int32) (town_x : Int32) (town_hair : (Nat → Int32)) (town_pins : (Nat → Int32)) (x1 : Int32) (x2 : Int32) (r : Int32 × Int32 × Int32 × Int32 × Int32 × Int32 × (Nat → Int32) × (Nat → Int32) × (Nat → Int32) × (Nat → Int32)) (h : f_X11_hair tape_size tape_bytes script_end script_place script_sign script_fault hairReader_pins hairReader_ahead town_told town_hair town_pins x1 x2 = some r) : Cn l E yX11_hair cX11_hair 3 (some .int) 36 0 0 [.ref o_t, .int x1, .int x2] (W_X11_hair E o_t r_t_tape r_t_script r_t_hairReader r_t_ordersReader r_t_lawReader r_t_doors r_t_town r_t_kept r_t_trial r_t_walk r_t_reach r_t_lawNow r_t_lawSpare r_t_tape a_tape r_t_script r_t_tape r_t_hairReader r_t_script a_hairReader r_t_town a_town t_isKept tape_size tape_bytes script_end script_place script_sign script_fault hairReader_pins hairReader_ahead town_told town_round town_x town_hair town_pins) (fun w => w = (W_X11_hair E o_t r_t_tape r_t_script r_t_hairReader r_t_ordersReader r_t_lawReader r_t_doors r_t_town r_t_kept r_t_trial r_t_walk r_t_reach r_t_lawNow r_t_lawSpare r_t_tape a_tape r_t_script r_t_tape r_t_hairReader r_t_script a_hairReader r_t_town a_town t_isKept r.2.1 tape_bytes r.2.2.1 r.2.2.2.1 r.2.2.2.2.1 r.2.2.2.2.2.1 r.2.2.2.2.2.2.1 r.2.2.2.2.2.2.2.1 town_told town_round town_x r.2.2.2.2.2.2.2.2.1 r.2.2.2.2.2.2.2.2.2)) (some (.int r.1)) := by
  refine Cn.ofI (by decide +kernel) (Nat.le_of_ble_eq_true rfl) (fun X hX hR C hret => ?_)
  subst hX
  show Gx X E 0 0 (W_X11_hair E o_t r_t_tape r_t_script r_t_hairReader r_t_ordersReader r_t_lawReader r_t_doors r_t_town r_t_kept r_t_trial r_t_walk r_t_reach r_t_lawNow r_t_lawSpare r_t_tape a_tape r_t_script r_t_tape r_t_hairReader r_t_script a_hairReader r_t_town a_town t_isKept tape_size tape_bytes script_end script_place script_sign script_fault hairReader_pins hairReader_ahead town_told town_round town_x town_hair town_pins) 0 [(0, .ref o_t), (1, .int x1), (2, .int x2)] []
  unfold f_X11_hair at h
  refine g_aload_n (pc := 0) C dX11_hair_0 rfl 0 rfl ?_
  refine g_get (pc := 1) C fl_X11_51 dX11_hair_1 0 rfl rfl ?_
  refine g_iload_n (pc := 4) C dX11_hair_4 rfl 1 rfl ?_
  obtain ⟨u1, hu1, h⟩ := bs h
  refine g_callV (pc := 5) (st := []) (st1 := [.int u1]) (ws' := (W_X11_hair E o_t r_t_tape r_t_script r_t_hairReader r_t_ordersReader r_t_lawReader r_t_doors r_t_town r_t_kept r_t_trial r_t_walk r_t_reach r_t_lawNow r_t_lawSpare r_t_tape a_tape r_t_script r_t_tape r_t_hairReader r_t_script a_hairReader r_t_town a_town t_isKept tape_size tape_bytes script_end script_place script_sign script_fault hairReader_pins hairReader_ahead town_told town_round town_x town_hair town_pins)) C mv_X9_isTold mi_X9_isTold ml_X11_134 (c_X9_isTold X.2.1 E r_t_town a_town town_told town_round town_x x1 u1 hu1) dX11_hair_5 (by decide) rfl (Nat.le_of_ble_eq_true rfl) 7 8 rfl rfl [7] rfl (by decide) rfl rfl rfl rfl ?_
  refine g_if_eq (pc := 8) (tgt := 32) C dX11_hair_8 (by decide) h (fun h => ?_) (fun h => ?_)
  · refine g_iconst (pc := 32) (v := -1) C dX11_hair_32 (by decide) ?_
    cases h
    exact hret _ _ _ dX11_hair_33 rfl rfl
  · refine g_iload_n (pc := 11) C dX11_hair_11 rfl 2 rfl ?_
    refine g_iconst (pc := 12) (v := 1) C dX11_hair_12 (by decide) ?_
    refine g_bipush (pc := 13) (v := 60) C dX11_hair_13 (by decide) ?_
    obtain ⟨u2, hu2, h⟩ := bs h
    refine g_callS (pc := 15) (st := []) (st1 := [.int u2]) (ws' := (W_X11_hair E o_t r_t_tape r_t_script r_t_hairReader r_t_ordersReader r_t_lawReader r_t_doors r_t_town r_t_kept r_t_trial r_t_walk r_t_reach r_t_lawNow r_t_lawSpare r_t_tape a_tape r_t_script r_t_tape r_t_hairReader r_t_script a_hairReader r_t_town a_town t_isKept tape_size tape_bytes script_end script_place script_sign script_fault hairReader_pins hairReader_ahead town_told town_round town_x town_hair town_pins)) C mv_X11_isWithin ms_X11_isWithin ml_X11_98 (c_X11_isWithin X.2.1 E x2 (1 : Int32) (60 : Int32) u2 hu2) dX11_hair_15 (by decide) rfl (Nat.le_of_ble_eq_true rfl) [] rfl (by decide) rfl rfl rfl rfl ?_
    refine g_if_eq (pc := 18) (tgt := 32) C dX11_hair_18 (by decide) h (fun h => ?_) (fun h => ?_)
    · refine g_iconst (pc := 32) (v := -1) C dX11_hair_32 (by decide) ?_
      cases h
      exact hret _ _ _ dX11_hair_33 rfl rfl
    · refine g_aload_n (pc := 21) C dX11_hair_21 rfl 0 rfl ?_
      refine g_get (pc := 22) C fl_X11_10 dX11_hair_22 0 rfl rfl ?_
      refine g_get (pc := 25) C fl_X11_106 dX11_hair_25 1 rfl rfl ?_
      refine g_iload_n (pc := 28) C dX11_hair_28 rfl 2 rfl ?_
      refine g_icmp_ge (pc := 29) (tgt := 34) C dX11_hair_29 (by decide) h (fun h => ?_) (fun h => ?_)
      · refine g_aload_n (pc := 34) C dX11_hair_34 rfl 0 rfl ?_
        refine g_get (pc := 35) C fl_X11_21 dX11_hair_35 0 rfl rfl ?_
        refine g_iload_n (pc := 38) C dX11_hair_38 rfl 2 rfl ?_
        obtain ⟨u3, hu3, h⟩ := bs h
        refine g_callV (pc := 39) (st := []) (st1 := []) (ws' := (W_X11_hair E o_t r_t_tape r_t_script r_t_hairReader r_t_ordersReader r_t_lawReader r_t_doors r_t_town r_t_kept r_t_trial r_t_walk r_t_reach r_t_lawNow r_t_lawSpare r_t_tape a_tape r_t_script r_t_tape r_t_hairReader r_t_script a_hairReader r_t_town a_town t_isKept tape_size tape_bytes u3.1 u3.2.1 u3.2.2.1 u3.2.2.2 hairReader_pins hairReader_ahead town_told town_round town_x town_hair town_pins)) C mv_X7_open mi_X7_open ml_X11_114 (c_X7_open X.2.1 E r_t_script r_t_tape a_tape script_end script_place script_sign script_fault tape_size tape_bytes x2 u3 hu3) dX11_hair_39 (by decide) rfl (Nat.le_of_ble_eq_true rfl) 3 6 rfl rfl [3, 1, 2] rfl (by decide) rfl rfl rfl rfl ?_
        refine g_aload_n (pc := 42) C dX11_hair_42 rfl 0 rfl ?_
        refine g_get (pc := 43) C fl_X11_30 dX11_hair_43 0 rfl rfl ?_
        obtain ⟨u4, hu4, h⟩ := bs h
        refine g_callV (pc := 46) (st := []) (st1 := []) (ws' := (W_X11_hair E o_t r_t_tape r_t_script r_t_hairReader r_t_ordersReader r_t_lawReader r_t_doors r_t_town r_t_kept r_t_trial r_t_walk r_t_reach r_t_lawNow r_t_lawSpare r_t_tape a_tape r_t_script r_t_tape r_t_hairReader r_t_script a_hairReader r_t_town a_town t_isKept tape_size tape_bytes u3.1 u4.2.2.1 u4.2.2.2.1 u4.2.2.2.2 u4.1 u4.2.1 town_told town_round town_x town_hair town_pins)) C mv_X1_read mi_X1_read ml_X11_138 (c_X1_read X.2.1 E r_t_hairReader r_t_script a_hairReader r_t_tape a_tape hairReader_pins hairReader_ahead u3.1 u3.2.1 u3.2.2.1 u3.2.2.2 tape_size tape_bytes u4 hu4) dX11_hair_46 (by decide) rfl (Nat.le_of_ble_eq_true rfl) 4 1 rfl rfl [4, 5, 6, 3, 1, 2] rfl (by decide) rfl rfl rfl rfl ?_
        refine g_aload_n (pc := 49) C dX11_hair_49 rfl 0 rfl ?_
        refine g_get (pc := 50) C fl_X11_10 dX11_hair_50 0 rfl rfl ?_
        obtain ⟨u5, hu5, h⟩ := bs h
        refine g_callV (pc := 53) (st := []) (st1 := []) (ws' := (W_X11_hair E o_t r_t_tape r_t_script r_t_hairReader r_t_ordersReader r_t_lawReader r_t_doors r_t_town r_t_kept r_t_trial r_t_walk r_t_reach r_t_lawNow r_t_lawSpare r_t_tape a_tape r_t_script r_t_tape r_t_hairReader r_t_script a_hairReader r_t_town a_town t_isKept u5 tape_bytes u3.1 u4.2.2.1 u4.2.2.2.1 u4.2.2.2.2 u4.1 u4.2.1 town_told town_round town_x town_hair town_pins)) C mv_X8_clear mi_X8_clear ml_X11_121 (c_X8_clear X.2.1 E r_t_tape a_tape tape_size u5 hu5) dX11_hair_53 (by decide) rfl (Nat.le_of_ble_eq_true rfl) 1 7 rfl rfl [1] rfl (by decide) rfl rfl rfl rfl ?_
        refine g_aload_n (pc := 56) C dX11_hair_56 rfl 0 rfl ?_
        refine g_get (pc := 57) C fl_X11_21 dX11_hair_57 0 rfl rfl ?_
        obtain ⟨u6, hu6, h⟩ := bs h
        refine g_callV (pc := 60) (st := []) (st1 := [.int u6]) (ws' := (W_X11_hair E o_t r_t_tape r_t_script r_t_hairReader r_t_ordersReader r_t_lawReader r_t_doors r_t_town r_t_kept r_t_trial r_t_walk r_t_reach r_t_lawNow r_t_lawSpare r_t_tape a_tape r_t_script r_t_tape r_t_hairReader r_t_script a_hairReader r_t_town a_town t_isKept u5 tape_bytes u3.1 u4.2.2.1 u4.2.2.2.1 u4.2.2.2.2 u4.1 u4.2.1 town_told town_round town_x town_hair town_pins)) C mv_X7_isSound mi_X7_isSound ml_X11_124 (c_X7_isSound X.2.1 E r_t_script r_t_tape u3.1 u4.2.2.1 u4.2.2.2.1 u4.2.2.2.2 u6 hu6) dX11_hair_60 (by decide) rfl (Nat.le_of_ble_eq_true rfl) 3 6 rfl rfl [3] rfl (by decide) rfl rfl rfl rfl ?_
        refine g_if_ne (pc := 63) (tgt := 74) C dX11_hair_63 (by decide) h (fun h => ?_) (fun h => ?_)
        · refine g_aload_n (pc := 74) C dX11_hair_74 rfl 0 rfl ?_
          refine g_get (pc := 75) C fl_X11_51 dX11_hair_75 0 rfl rfl ?_
          refine g_iload_n (pc := 78) C dX11_hair_78 rfl 1 rfl ?_
          refine g_aload_n (pc := 79) C dX11_hair_79 rfl 0 rfl ?_
          refine g_get (pc := 80) C fl_X11_30 dX11_hair_80 0 rfl rfl ?_
          refine g_get (pc := 83) C fl_X11_140 dX11_hair_83 4 rfl rfl ?_
          obtain ⟨u7, hu7, h⟩ := bs h
          refine g_callV (pc := 86) (st := []) (st1 := []) (ws' := (W_X11_hair E o_t r_t_tape r_t_script r_t_hairReader r_t_ordersReader r_t_lawReader r_t_doors r_t_town r_t_kept r_t_trial r_t_walk r_t_reach r_t_lawNow r_t_lawSpare r_t_tape a_tape r_t_script r_t_tape r_t_hairReader r_t_script a_hairReader r_t_town a_town t_isKept u5 tape_bytes u3.1 u4.2.2.1 u4.2.2.2.1 u4.2.2.2.2 u4.1 u4.2.1 town_told town_round town_x u7.1 u7.2)) C mv_X9_dress mi_X9_dress ml_X11_144 (c_X9_dress X.2.1 E r_t_town a_town (a_hairReader 1) 6 town_told town_round town_x town_hair town_pins u4.1 x1 u7 hu7) dX11_hair_86 (by decide) rfl (Nat.le_of_ble_eq_true rfl) 7 8 rfl rfl [7, 8, 9, 5] rfl (by decide) rfl rfl rfl rfl ?_
          refine g_aload_n (pc := 89) C dX11_hair_89 rfl 0 rfl ?_
          refine g_get (pc := 90) C fl_X11_51 dX11_hair_90 0 rfl rfl ?_
          refine g_iload_n (pc := 93) C dX11_hair_93 rfl 1 rfl ?_
          obtain ⟨u8, hu8, h⟩ := bs h
          refine g_callV (pc := 94) (st := []) (st1 := [.int u8]) (ws' := (W_X11_hair E o_t r_t_tape r_t_script r_t_hairReader r_t_ordersReader r_t_lawReader r_t_doors r_t_town r_t_kept r_t_trial r_t_walk r_t_reach r_t_lawNow r_t_lawSpare r_t_tape a_tape r_t_script r_t_tape r_t_hairReader r_t_script a_hairReader r_t_town a_town t_isKept u5 tape_bytes u3.1 u4.2.2.1 u4.2.2.2.1 u4.2.2.2.2 u4.1 u4.2.1 town_told town_round town_x u7.1 u7.2)) C mv_X9_pinsOf mi_X9_pinsOf ml_X11_148 (c_X9_pinsOf X.2.1 E r_t_town a_town town_told town_round town_x u7.2 x1 u8 hu8) dX11_hair_94 (by decide) rfl (Nat.le_of_ble_eq_true rfl) 7 8 rfl rfl [7, 9] rfl (by decide) rfl rfl rfl rfl ?_
          cases h
          exact hret _ _ _ dX11_hair_97 rfl rfl
        · refine g_aload_n (pc := 66) C dX11_hair_66 rfl 0 rfl ?_
          refine g_get (pc := 67) C fl_X11_21 dX11_hair_67 0 rfl rfl ?_
          refine g_get (pc := 70) C fl_X11_128 dX11_hair_70 3 rfl rfl ?_
          cases h
          exact hret _ _ _ dX11_hair_73 rfl rfl
      · refine g_iconst (pc := 32) (v := -1) C dX11_hair_32 (by decide) ?_
        cases h
        exact hret _ _ _ dX11_hair_33 rfl rfl
