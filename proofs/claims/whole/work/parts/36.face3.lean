theorem fl_X11_82 : FL RX11 82 10 12 := ⟨(RX11, TX11, 14), tyX11, rfl, inX11, by decide, lg_in (List.mem_of_getElem? (i := 391) (by decide +kernel)) rfl, tyX11_ok, nmX11⟩
theorem fl_X11_90 : FL RX11 90 10 4 := ⟨(RX11, TX11, 14), tyX11, rfl, inX11, by decide, lg_in (List.mem_of_getElem? (i := 383) (by decide +kernel)) rfl, tyX11_ok, nmX11⟩
theorem ml_X11_117 : Cond.methodLink RX11 117 yX3_read ∈ lw_g := lg_in (List.mem_of_getElem? (i := 454) (by decide +kernel)) rfl
theorem mv_X3_read : MV yX3_read cX3_read 3 none 1 := ⟨lg_in (List.mem_of_getElem? (i := 457) (by decide +kernel)) rfl, lg_in (List.mem_of_getElem? (i := 103) (by decide +kernel)) rfl, by decide +kernel⟩
theorem mi_X3_read : MI yX3_read := ⟨lg_in (List.mem_of_getElem? (i := 455) (by decide +kernel)) rfl, lg_in (List.mem_of_getElem? (i := 456) (by decide +kernel)) rfl⟩
def sel2 (t a b : Nat) : Nat := match t with
  | 2 => a
  | _ => b
def sel1 (t a b : Nat) : Nat := match t with
  | 0 => b
  | _ => a
abbrev W_X11_law (E : GE) (O_t : Nat) (r_t_tape : Nat) (r_t_script : Nat) (r_t_hairReader : Nat) (r_t_ordersReader : Nat) (r_t_lawReader : Nat) (r_t_doors : Nat) (r_t_town : Nat) (r_t_kept : Nat) (r_t_trial : Nat) (r_t_walk : Nat) (r_t_reach : Nat) (r_t_lawNow : Nat) (r_t_lawSpare : Nat) (O_tape : Nat) (a_tape : Nat → Nat) (O_script : Nat) (r_script_tape : Nat) (O_lawReader : Nat) (r_lawReader_script : Nat) (r_lawReader_law : Nat) (O_lawSpare : Nat) (a_lawSpare : Nat → Nat) (t_isKept : Int32) (tape_size : Int32) (tape_bytes : (Nat → Int32)) (script_end : Int32) (script_place : Int32) (script_sign : Int32) (script_fault : Int32) (lawSpare_size : Int32) (lawSpare_rules : Int32) (lawSpare_signs : (Nat → Int32)) (lawSpare_values : (Nat → Int32)) (lawSpare_letters : (Nat → Int32)) (lawSpare_amounts : (Nat → Int32)) (lawSpare_conditions : (Nat → Int32)) (lawSpare_ends : (Nat → Int32)) : va_W := [(O_t, ob_X11 r_t_tape r_t_script r_t_hairReader r_t_ordersReader r_t_lawReader r_t_doors r_t_town r_t_kept r_t_trial r_t_walk r_t_reach r_t_lawNow r_t_lawSpare t_isKept), (O_tape, ob_X8 a_tape tape_size), (a_tape 0, .inl (E.2.1, 260, .inl tape_bytes)), (O_script, ob_X7 r_script_tape script_end script_place script_sign script_fault), (O_lawReader, ob_X3 r_lawReader_script r_lawReader_law), (O_lawSpare, ob_X2 a_lawSpare lawSpare_size lawSpare_rules), (a_lawSpare 0, .inl (E.2.1, 256, .inl lawSpare_signs)), (a_lawSpare 1, .inl (E.2.1, 256, .inl lawSpare_values)), (a_lawSpare 3, .inl (E.2.1, 16, .inl lawSpare_letters)), (a_lawSpare 4, .inl (E.2.1, 16, .inl lawSpare_amounts)), (a_lawSpare 5, .inl (E.2.1, 16, .inl lawSpare_conditions)), (a_lawSpare 6, .inl (E.2.1, 16, .inl lawSpare_ends))]
def f_X11_law (tape_size : Int32) (tape_bytes : (Nat → Int32)) (script_end : Int32) (script_place : Int32) (script_sign : Int32) (script_fault : Int32) (lawSpare_size : Int32) (lawSpare_rules : Int32) (lawSpare_signs : (Nat → Int32)) (lawSpare_values : (Nat → Int32)) (lawSpare_letters : (Nat → Int32)) (lawSpare_amounts : (Nat → Int32)) (lawSpare_conditions : (Nat → Int32)) (lawSpare_ends : (Nat → Int32)) (x1 : Int32) : Option (Int32 × Int32 × Int32 × Int32 × Int32 × Int32 × Int32 × Int32 × (Nat → Int32) × (Nat → Int32) × (Nat → Int32) × (Nat → Int32) × (Nat → Int32) × (Nat → Int32) × Nat) := (f_X11_isWithin x1 (1 : Int32) (240 : Int32)).bind fun u1 => if u1 = 0 then (some ((-1 : Int32), tape_size, script_end, script_place, script_sign, script_fault, lawSpare_size, lawSpare_rules, lawSpare_signs, lawSpare_values, lawSpare_letters, lawSpare_amounts, lawSpare_conditions, lawSpare_ends, 0)) else if x1 ≤ tape_size then ((f_X7_open script_end script_place script_sign script_fault tape_size tape_bytes x1).bind fun u2 => (f_X3_read lawSpare_size lawSpare_rules lawSpare_signs lawSpare_values lawSpare_letters lawSpare_amounts lawSpare_conditions lawSpare_ends u2.1 u2.2.1 u2.2.2.1 u2.2.2.2 tape_size tape_bytes).bind fun u3 => (f_X8_clear tape_size).bind fun u4 => (f_X7_isSound u3.2.2.2.2.2.2.2.2.2.2).bind fun u5 => if u5 = 0 then (some (u3.2.2.2.2.2.2.2.2.2.2, u4, u2.1, u3.2.2.2.2.2.2.2.2.1, u3.2.2.2.2.2.2.2.2.2.1, u3.2.2.2.2.2.2.2.2.2.2, u3.1, u3.2.1, u3.2.2.1, u3.2.2.2.1, u3.2.2.2.2.1, u3.2.2.2.2.2.1, u3.2.2.2.2.2.2.1, u3.2.2.2.2.2.2.2.1, 1)) else some (u3.2.1, u4, u2.1, u3.2.2.2.2.2.2.2.2.1, u3.2.2.2.2.2.2.2.2.2.1, u3.2.2.2.2.2.2.2.2.2.2, u3.1, u3.2.1, u3.2.2.1, u3.2.2.2.1, u3.2.2.2.2.1, u3.2.2.2.2.2.1, u3.2.2.2.2.2.2.1, u3.2.2.2.2.2.2.2.1, 2)) else some ((-1 : Int32), tape_size, script_end, script_place, script_sign, script_fault, lawSpare_size, lawSpare_rules, lawSpare_signs, lawSpare_values, lawSpare_letters, lawSpare_amounts, lawSpare_conditions, lawSpare_ends, 0)
theorem dX11_law_0 : decode cX11_law 0 = .ok (.iload_n 1, 1) := by decide +kernel
theorem dX11_law_1 : decode cX11_law 1 = .ok (.iconst 1, 1) := by decide +kernel
theorem dX11_law_2 : decode cX11_law 2 = .ok (.sipush 240, 3) := by decide +kernel
theorem dX11_law_5 : decode cX11_law 5 = .ok (.invokestatic 98, 3) := by decide +kernel
theorem dX11_law_8 : decode cX11_law 8 = .ok (.ifCond .eq 14, 3) := by decide +kernel
theorem dX11_law_11 : decode cX11_law 11 = .ok (.aload_n 0, 1) := by decide +kernel
theorem dX11_law_12 : decode cX11_law 12 = .ok (.getfield 10, 3) := by decide +kernel
theorem dX11_law_15 : decode cX11_law 15 = .ok (.getfield 106, 3) := by decide +kernel
theorem dX11_law_18 : decode cX11_law 18 = .ok (.iload_n 1, 1) := by decide +kernel
theorem dX11_law_19 : decode cX11_law 19 = .ok (.if_icmp .ge 5, 3) := by decide +kernel
theorem dX11_law_22 : decode cX11_law 22 = .ok (.iconst (-1), 1) := by decide +kernel
theorem dX11_law_23 : decode cX11_law 23 = .ok (.ireturn, 1) := by decide +kernel
theorem dX11_law_24 : decode cX11_law 24 = .ok (.aload_n 0, 1) := by decide +kernel
theorem dX11_law_25 : decode cX11_law 25 = .ok (.getfield 21, 3) := by decide +kernel
theorem dX11_law_28 : decode cX11_law 28 = .ok (.iload_n 1, 1) := by decide +kernel
theorem dX11_law_29 : decode cX11_law 29 = .ok (.invokevirtual 114, 3) := by decide +kernel
theorem dX11_law_32 : decode cX11_law 32 = .ok (.aload_n 0, 1) := by decide +kernel
theorem dX11_law_33 : decode cX11_law 33 = .ok (.getfield 90, 3) := by decide +kernel
theorem dX11_law_36 : decode cX11_law 36 = .ok (.aload_n 0, 1) := by decide +kernel
theorem dX11_law_37 : decode cX11_law 37 = .ok (.getfield 82, 3) := by decide +kernel
theorem dX11_law_40 : decode cX11_law 40 = .ok (.invokevirtual 117, 3) := by decide +kernel
theorem dX11_law_43 : decode cX11_law 43 = .ok (.aload_n 0, 1) := by decide +kernel
theorem dX11_law_44 : decode cX11_law 44 = .ok (.getfield 10, 3) := by decide +kernel
theorem dX11_law_47 : decode cX11_law 47 = .ok (.invokevirtual 121, 3) := by decide +kernel
theorem dX11_law_50 : decode cX11_law 50 = .ok (.aload_n 0, 1) := by decide +kernel
theorem dX11_law_51 : decode cX11_law 51 = .ok (.getfield 21, 3) := by decide +kernel
theorem dX11_law_54 : decode cX11_law 54 = .ok (.invokevirtual 124, 3) := by decide +kernel
theorem dX11_law_57 : decode cX11_law 57 = .ok (.ifCond .ne 11, 3) := by decide +kernel
theorem dX11_law_60 : decode cX11_law 60 = .ok (.aload_n 0, 1) := by decide +kernel
theorem dX11_law_61 : decode cX11_law 61 = .ok (.getfield 21, 3) := by decide +kernel
theorem dX11_law_64 : decode cX11_law 64 = .ok (.getfield 128, 3) := by decide +kernel
theorem dX11_law_67 : decode cX11_law 67 = .ok (.ireturn, 1) := by decide +kernel
theorem dX11_law_68 : decode cX11_law 68 = .ok (.aload_n 0, 1) := by decide +kernel
theorem dX11_law_69 : decode cX11_law 69 = .ok (.getfield 78, 3) := by decide +kernel
theorem dX11_law_72 : decode cX11_law 72 = .ok (.astore_n 2, 1) := by decide +kernel
theorem dX11_law_73 : decode cX11_law 73 = .ok (.aload_n 0, 1) := by decide +kernel
theorem dX11_law_74 : decode cX11_law 74 = .ok (.aload_n 0, 1) := by decide +kernel
theorem dX11_law_75 : decode cX11_law 75 = .ok (.getfield 82, 3) := by decide +kernel
theorem dX11_law_78 : decode cX11_law 78 = .ok (.putfield 78, 3) := by decide +kernel
theorem dX11_law_81 : decode cX11_law 81 = .ok (.aload_n 0, 1) := by decide +kernel
theorem dX11_law_82 : decode cX11_law 82 = .ok (.aload_n 2, 1) := by decide +kernel
theorem dX11_law_83 : decode cX11_law 83 = .ok (.putfield 82, 3) := by decide +kernel
theorem dX11_law_86 : decode cX11_law 86 = .ok (.aload_n 0, 1) := by decide +kernel
theorem dX11_law_87 : decode cX11_law 87 = .ok (.getfield 78, 3) := by decide +kernel
theorem dX11_law_90 : decode cX11_law 90 = .ok (.getfield 131, 3) := by decide +kernel
theorem dX11_law_93 : decode cX11_law 93 = .ok (.ireturn, 1) := by decide +kernel
set_option maxHeartbeats 4000000 in
set_option maxRecDepth 100000 in
theorem c_X11_law (l : Launch) (E : GE) (o_t : Nat) (r_t_tape : Nat) (r_t_script : Nat) (r_t_hairReader : Nat) (r_t_ordersReader : Nat) (r_t_lawReader : Nat) (r_t_doors : Nat) (r_t_town : Nat) (r_t_kept : Nat) (r_t_trial : Nat) (r_t_walk : Nat) (r_t_reach : Nat) (r_t_lawNow : Nat) (r_t_lawSpare : Nat) (a_tape : Nat → Nat) (r_lawReader_law : Nat) (a_lawSpare : Nat → Nat) (t_isKept : Int32) (tape_size : Int32) (tape_bytes : (Nat → Int32)) (script_end : Int32) (script_place : Int32) (script_sign : Int32) (script_fault : Int32) (lawSpare_size : Int32) (lawSpare_rules : Int32) (lawSpare_signs : (Nat → Int32)) (lawSpare_values : (Nat → Int32)) (lawSpare_letters : (Nat → Int32)) (lawSpare_amounts : (Nat → Int32)) (lawSpare_conditions : (Nat → Int32)) (lawSpare_ends : (Nat → Int32)) (x1 : Int32) (r : Int32 × Int32 × Int32 × Int32 × Int32 × Int32 × Int32 × Int32 × (Nat → Int32) × (Nat → Int32) × (Nat → Int32) × (Nat → Int32) × (Nat → Int32) × (Nat → Int32) × Nat) (h : f_X11_law tape_size tape_bytes script_end script_place script_sign script_fault lawSpare_size lawSpare_rules lawSpare_signs lawSpare_values lawSpare_letters lawSpare_amounts lawSpare_conditions lawSpare_ends x1 = some r) : Cn l E yX11_law cX11_law 3 (some .int) 76 0 0 [.ref o_t, .int x1] (W_X11_law E o_t r_t_tape r_t_script r_t_hairReader r_t_ordersReader r_t_lawReader r_t_doors r_t_town r_t_kept r_t_trial r_t_walk r_t_reach r_t_lawNow r_t_lawSpare r_t_tape a_tape r_t_script r_t_tape r_t_lawReader r_t_script r_lawReader_law r_t_lawSpare a_lawSpare t_isKept tape_size tape_bytes script_end script_place script_sign script_fault lawSpare_size lawSpare_rules lawSpare_signs lawSpare_values lawSpare_letters lawSpare_amounts lawSpare_conditions lawSpare_ends) (fun w => w = (W_X11_law E o_t r_t_tape r_t_script r_t_hairReader r_t_ordersReader r_t_lawReader r_t_doors r_t_town r_t_kept r_t_trial r_t_walk r_t_reach (sel2 r.2.2.2.2.2.2.2.2.2.2.2.2.2.2 r_t_lawSpare r_t_lawNow) (sel2 r.2.2.2.2.2.2.2.2.2.2.2.2.2.2 r_t_lawNow r_t_lawSpare) r_t_tape a_tape r_t_script r_t_tape r_t_lawReader r_t_script (sel1 r.2.2.2.2.2.2.2.2.2.2.2.2.2.2 r_t_lawSpare r_lawReader_law) r_t_lawSpare a_lawSpare t_isKept r.2.1 tape_bytes r.2.2.1 r.2.2.2.1 r.2.2.2.2.1 r.2.2.2.2.2.1 r.2.2.2.2.2.2.1 r.2.2.2.2.2.2.2.1 r.2.2.2.2.2.2.2.2.1 r.2.2.2.2.2.2.2.2.2.1 r.2.2.2.2.2.2.2.2.2.2.1 r.2.2.2.2.2.2.2.2.2.2.2.1 r.2.2.2.2.2.2.2.2.2.2.2.2.1 r.2.2.2.2.2.2.2.2.2.2.2.2.2.1)) (some (.int r.1)) := by
  refine Cn.ofI (by decide +kernel) (Nat.le_of_ble_eq_true rfl) (fun X hX hR C hret => ?_)
  subst hX
  show Gx X E 0 0 (W_X11_law E o_t r_t_tape r_t_script r_t_hairReader r_t_ordersReader r_t_lawReader r_t_doors r_t_town r_t_kept r_t_trial r_t_walk r_t_reach r_t_lawNow r_t_lawSpare r_t_tape a_tape r_t_script r_t_tape r_t_lawReader r_t_script r_lawReader_law r_t_lawSpare a_lawSpare t_isKept tape_size tape_bytes script_end script_place script_sign script_fault lawSpare_size lawSpare_rules lawSpare_signs lawSpare_values lawSpare_letters lawSpare_amounts lawSpare_conditions lawSpare_ends) 0 [(0, .ref o_t), (1, .int x1)] []
  unfold f_X11_law at h
  refine g_iload_n (pc := 0) C dX11_law_0 rfl 1 rfl ?_
  refine g_iconst (pc := 1) (v := 1) C dX11_law_1 (by decide) ?_
  refine g_sipush (pc := 2) (v := 240) C dX11_law_2 (by decide) ?_
  obtain ⟨u1, hu1, h⟩ := bs h
  refine g_callS (pc := 5) (st := []) (st1 := [.int u1]) (ws' := (W_X11_law E o_t r_t_tape r_t_script r_t_hairReader r_t_ordersReader r_t_lawReader r_t_doors r_t_town r_t_kept r_t_trial r_t_walk r_t_reach r_t_lawNow r_t_lawSpare r_t_tape a_tape r_t_script r_t_tape r_t_lawReader r_t_script r_lawReader_law r_t_lawSpare a_lawSpare t_isKept tape_size tape_bytes script_end script_place script_sign script_fault lawSpare_size lawSpare_rules lawSpare_signs lawSpare_values lawSpare_letters lawSpare_amounts lawSpare_conditions lawSpare_ends)) C mv_X11_isWithin ms_X11_isWithin ml_X11_98 (c_X11_isWithin X.2.1 E x1 (1 : Int32) (240 : Int32) u1 hu1) dX11_law_5 (by decide) rfl (Nat.le_of_ble_eq_true rfl) [] rfl (by decide) rfl rfl rfl rfl ?_
  refine g_if_eq (pc := 8) (tgt := 22) C dX11_law_8 (by decide) h (fun h => ?_) (fun h => ?_)
  · refine g_iconst (pc := 22) (v := -1) C dX11_law_22 (by decide) ?_
    cases h
    exact hret _ _ _ dX11_law_23 rfl rfl
  · refine g_aload_n (pc := 11) C dX11_law_11 rfl 0 rfl ?_
    refine g_get (pc := 12) C fl_X11_10 dX11_law_12 0 rfl rfl ?_
    refine g_get (pc := 15) C fl_X11_106 dX11_law_15 1 rfl rfl ?_
    refine g_iload_n (pc := 18) C dX11_law_18 rfl 1 rfl ?_
    refine g_icmp_ge (pc := 19) (tgt := 24) C dX11_law_19 (by decide) h (fun h => ?_) (fun h => ?_)
    · refine g_aload_n (pc := 24) C dX11_law_24 rfl 0 rfl ?_
      refine g_get (pc := 25) C fl_X11_21 dX11_law_25 0 rfl rfl ?_
      refine g_iload_n (pc := 28) C dX11_law_28 rfl 1 rfl ?_
      obtain ⟨u2, hu2, h⟩ := bs h
      refine g_callV (pc := 29) (st := []) (st1 := []) (ws' := (W_X11_law E o_t r_t_tape r_t_script r_t_hairReader r_t_ordersReader r_t_lawReader r_t_doors r_t_town r_t_kept r_t_trial r_t_walk r_t_reach r_t_lawNow r_t_lawSpare r_t_tape a_tape r_t_script r_t_tape r_t_lawReader r_t_script r_lawReader_law r_t_lawSpare a_lawSpare t_isKept tape_size tape_bytes u2.1 u2.2.1 u2.2.2.1 u2.2.2.2 lawSpare_size lawSpare_rules lawSpare_signs lawSpare_values lawSpare_letters lawSpare_amounts lawSpare_conditions lawSpare_ends)) C mv_X7_open mi_X7_open ml_X11_114 (c_X7_open X.2.1 E r_t_script r_t_tape a_tape script_end script_place script_sign script_fault tape_size tape_bytes x1 u2 hu2) dX11_law_29 (by decide) rfl (Nat.le_of_ble_eq_true rfl) 3 6 rfl rfl [3, 1, 2] rfl (by decide) rfl rfl rfl rfl ?_
      refine g_aload_n (pc := 32) C dX11_law_32 rfl 0 rfl ?_
      refine g_get (pc := 33) C fl_X11_90 dX11_law_33 0 rfl rfl ?_
      refine g_aload_n (pc := 36) C dX11_law_36 rfl 0 rfl ?_
      refine g_get (pc := 37) C fl_X11_82 dX11_law_37 0 rfl rfl ?_
      obtain ⟨u3, hu3, h⟩ := bs h
      refine g_callV (pc := 40) (st := []) (st1 := []) (ws' := (W_X11_law E o_t r_t_tape r_t_script r_t_hairReader r_t_ordersReader r_t_lawReader r_t_doors r_t_town r_t_kept r_t_trial r_t_walk r_t_reach r_t_lawNow r_t_lawSpare r_t_tape a_tape r_t_script r_t_tape r_t_lawReader r_t_script r_t_lawSpare r_t_lawSpare a_lawSpare t_isKept tape_size tape_bytes u2.1 u3.2.2.2.2.2.2.2.2.1 u3.2.2.2.2.2.2.2.2.2.1 u3.2.2.2.2.2.2.2.2.2.2 u3.1 u3.2.1 u3.2.2.1 u3.2.2.2.1 u3.2.2.2.2.1 u3.2.2.2.2.2.1 u3.2.2.2.2.2.2.1 u3.2.2.2.2.2.2.2.1)) C mv_X3_read mi_X3_read ml_X11_117 (c_X3_read X.2.1 E r_t_lawReader r_t_script r_lawReader_law r_t_lawSpare a_lawSpare r_t_tape a_tape lawSpare_size lawSpare_rules lawSpare_signs lawSpare_values lawSpare_letters lawSpare_amounts lawSpare_conditions lawSpare_ends u2.1 u2.2.1 u2.2.2.1 u2.2.2.2 tape_size tape_bytes u3 hu3) dX11_law_40 (by decide) rfl (Nat.le_of_ble_eq_true rfl) 4 3 rfl rfl [4, 5, 6, 7, 8, 9, 10, 11, 3, 1, 2] rfl (by decide) rfl rfl rfl rfl ?_
      refine g_aload_n (pc := 43) C dX11_law_43 rfl 0 rfl ?_
      refine g_get (pc := 44) C fl_X11_10 dX11_law_44 0 rfl rfl ?_
      obtain ⟨u4, hu4, h⟩ := bs h
      refine g_callV (pc := 47) (st := []) (st1 := []) (ws' := (W_X11_law E o_t r_t_tape r_t_script r_t_hairReader r_t_ordersReader r_t_lawReader r_t_doors r_t_town r_t_kept r_t_trial r_t_walk r_t_reach r_t_lawNow r_t_lawSpare r_t_tape a_tape r_t_script r_t_tape r_t_lawReader r_t_script r_t_lawSpare r_t_lawSpare a_lawSpare t_isKept u4 tape_bytes u2.1 u3.2.2.2.2.2.2.2.2.1 u3.2.2.2.2.2.2.2.2.2.1 u3.2.2.2.2.2.2.2.2.2.2 u3.1 u3.2.1 u3.2.2.1 u3.2.2.2.1 u3.2.2.2.2.1 u3.2.2.2.2.2.1 u3.2.2.2.2.2.2.1 u3.2.2.2.2.2.2.2.1)) C mv_X8_clear mi_X8_clear ml_X11_121 (c_X8_clear X.2.1 E r_t_tape a_tape tape_size u4 hu4) dX11_law_47 (by decide) rfl (Nat.le_of_ble_eq_true rfl) 1 7 rfl rfl [1] rfl (by decide) rfl rfl rfl rfl ?_
      refine g_aload_n (pc := 50) C dX11_law_50 rfl 0 rfl ?_
      refine g_get (pc := 51) C fl_X11_21 dX11_law_51 0 rfl rfl ?_
      obtain ⟨u5, hu5, h⟩ := bs h
      refine g_callV (pc := 54) (st := []) (st1 := [.int u5]) (ws' := (W_X11_law E o_t r_t_tape r_t_script r_t_hairReader r_t_ordersReader r_t_lawReader r_t_doors r_t_town r_t_kept r_t_trial r_t_walk r_t_reach r_t_lawNow r_t_lawSpare r_t_tape a_tape r_t_script r_t_tape r_t_lawReader r_t_script r_t_lawSpare r_t_lawSpare a_lawSpare t_isKept u4 tape_bytes u2.1 u3.2.2.2.2.2.2.2.2.1 u3.2.2.2.2.2.2.2.2.2.1 u3.2.2.2.2.2.2.2.2.2.2 u3.1 u3.2.1 u3.2.2.1 u3.2.2.2.1 u3.2.2.2.2.1 u3.2.2.2.2.2.1 u3.2.2.2.2.2.2.1 u3.2.2.2.2.2.2.2.1)) C mv_X7_isSound mi_X7_isSound ml_X11_124 (c_X7_isSound X.2.1 E r_t_script r_t_tape u2.1 u3.2.2.2.2.2.2.2.2.1 u3.2.2.2.2.2.2.2.2.2.1 u3.2.2.2.2.2.2.2.2.2.2 u5 hu5) dX11_law_54 (by decide) rfl (Nat.le_of_ble_eq_true rfl) 3 6 rfl rfl [3] rfl (by decide) rfl rfl rfl rfl ?_
      refine g_if_ne (pc := 57) (tgt := 68) C dX11_law_57 (by decide) h (fun h => ?_) (fun h => ?_)
      · refine g_aload_n (pc := 68) C dX11_law_68 rfl 0 rfl ?_
        refine g_get (pc := 69) C fl_X11_78 dX11_law_69 0 rfl rfl ?_
        refine g_astore_n (pc := 72) (lv' := [(2, .ref r_t_lawNow), (0, .ref o_t), (1, .int x1)]) C dX11_law_72 rfl (by decide) rfl ?_
        refine g_aload_n (pc := 73) C dX11_law_73 rfl 1 rfl ?_
        refine g_aload_n (pc := 74) C dX11_law_74 rfl 1 rfl ?_
        refine g_get (pc := 75) C fl_X11_82 dX11_law_75 0 rfl rfl ?_
        refine g_put (pc := 78) (ws' := (W_X11_law E o_t r_t_tape r_t_script r_t_hairReader r_t_ordersReader r_t_lawReader r_t_doors r_t_town r_t_kept r_t_trial r_t_walk r_t_reach r_t_lawSpare r_t_lawSpare r_t_tape a_tape r_t_script r_t_tape r_t_lawReader r_t_script r_t_lawSpare r_t_lawSpare a_lawSpare t_isKept u4 tape_bytes u2.1 u3.2.2.2.2.2.2.2.2.1 u3.2.2.2.2.2.2.2.2.2.1 u3.2.2.2.2.2.2.2.2.2.2 u3.1 u3.2.1 u3.2.2.1 u3.2.2.2.1 u3.2.2.2.2.1 u3.2.2.2.2.2.1 u3.2.2.2.2.2.2.1 u3.2.2.2.2.2.2.2.1)) C (.object "HairpinLocks$Law") fl_X11_78 dX11_law_78 0 rfl (by decide +kernel) rfl rfl (Nat.le_of_ble_eq_true rfl) rfl ?_
        refine g_aload_n (pc := 81) C dX11_law_81 rfl 1 rfl ?_
        refine g_aload_n (pc := 82) C dX11_law_82 rfl 0 rfl ?_
        refine g_put (pc := 83) (ws' := (W_X11_law E o_t r_t_tape r_t_script r_t_hairReader r_t_ordersReader r_t_lawReader r_t_doors r_t_town r_t_kept r_t_trial r_t_walk r_t_reach r_t_lawSpare r_t_lawNow r_t_tape a_tape r_t_script r_t_tape r_t_lawReader r_t_script r_t_lawSpare r_t_lawSpare a_lawSpare t_isKept u4 tape_bytes u2.1 u3.2.2.2.2.2.2.2.2.1 u3.2.2.2.2.2.2.2.2.2.1 u3.2.2.2.2.2.2.2.2.2.2 u3.1 u3.2.1 u3.2.2.1 u3.2.2.2.1 u3.2.2.2.2.1 u3.2.2.2.2.2.1 u3.2.2.2.2.2.2.1 u3.2.2.2.2.2.2.2.1)) C (.object "HairpinLocks$Law") fl_X11_82 dX11_law_83 0 rfl (by decide +kernel) rfl rfl (Nat.le_of_ble_eq_true rfl) rfl ?_
        refine g_aload_n (pc := 86) C dX11_law_86 rfl 1 rfl ?_
        refine g_get (pc := 87) C fl_X11_78 dX11_law_87 0 rfl rfl ?_
        refine g_get (pc := 90) C fl_X11_131 dX11_law_90 5 rfl rfl ?_
        cases h
        exact hret _ _ _ dX11_law_93 rfl rfl
      · refine g_aload_n (pc := 60) C dX11_law_60 rfl 0 rfl ?_
        refine g_get (pc := 61) C fl_X11_21 dX11_law_61 0 rfl rfl ?_
        refine g_get (pc := 64) C fl_X11_128 dX11_law_64 3 rfl rfl ?_
        cases h
        exact hret _ _ _ dX11_law_67 rfl rfl
    · refine g_iconst (pc := 22) (v := -1) C dX11_law_22 (by decide) ?_
      cases h
      exact hret _ _ _ dX11_law_23 rfl rfl
