abbrev W_X12_seed (E : GE) (O_t : Nat) (a_t : Nat → Nat) (t_toldDoors : Int32) (t_barredDoors : Int32) (t_taped : Int32) (t_place0 : Int32) (t_length0 : Int32) (t_fault : Int32) (t_number0 : Int32) (t_open : Int32) (t_codeMany : Int32) (t_waiting : Int32) (t_saidMany : Int32) (t_clauses : Int32) (t_newMany : Int32) (t_rounds : Int32) (t_pinFrom : Int32) (t_pinTimes : Int32) (t_lines : Int32) (t_wasTold : Int32) (t_wasBarred : Int32) (t_goesNow : Int32) (t_jamsNow : Int32) (t_queued : Int32) (t_isKept : Int32) (t_now : (Nat → Int32)) : va_W := [(O_t, ob_X12 a_t t_toldDoors t_barredDoors t_taped t_place0 t_length0 t_fault t_number0 t_open t_codeMany t_waiting t_saidMany t_clauses t_newMany t_rounds t_pinFrom t_pinTimes t_lines t_wasTold t_wasBarred t_goesNow t_jamsNow t_queued t_isKept), (a_t 0, .inl (E.2.1, 166, .inl t_now))]
def f_X12_seed (t_now : (Nat → Int32)) (x1 : Int32) : Option (Int32 × (Nat → Int32)) := (f_X12_in x1 (0 : Int32) (65535 : Int32)).bind fun u1 => if u1 = 0 then (some ((0 : Int32), t_now)) else wr t_now 166 (165 : Int32) x1 fun g2 => some ((1 : Int32), g2)
theorem dX12_seed_0 : decode cX12_seed 0 = .ok (.iload_n 1, 1) := by decide +kernel
theorem dX12_seed_1 : decode cX12_seed 1 = .ok (.iconst 0, 1) := by decide +kernel
theorem dX12_seed_2 : decode cX12_seed 2 = .ok (.ldc_w 408, 3) := by decide +kernel
theorem dX12_seed_5 : decode cX12_seed 5 = .ok (.invokestatic 117, 3) := by decide +kernel
theorem dX12_seed_8 : decode cX12_seed 8 = .ok (.ifCond .ne 5, 3) := by decide +kernel
theorem dX12_seed_11 : decode cX12_seed 11 = .ok (.iconst 0, 1) := by decide +kernel
theorem dX12_seed_12 : decode cX12_seed 12 = .ok (.ireturn, 1) := by decide +kernel
theorem dX12_seed_13 : decode cX12_seed 13 = .ok (.aload_n 0, 1) := by decide +kernel
theorem dX12_seed_14 : decode cX12_seed 14 = .ok (.getfield 7, 3) := by decide +kernel
theorem dX12_seed_17 : decode cX12_seed 17 = .ok (.sipush 165, 3) := by decide +kernel
theorem dX12_seed_20 : decode cX12_seed 20 = .ok (.iload_n 1, 1) := by decide +kernel
theorem dX12_seed_21 : decode cX12_seed 21 = .ok (.iastore, 1) := by decide +kernel
theorem dX12_seed_22 : decode cX12_seed 22 = .ok (.iconst 1, 1) := by decide +kernel
theorem dX12_seed_23 : decode cX12_seed 23 = .ok (.ireturn, 1) := by decide +kernel
set_option maxHeartbeats 4000000 in
set_option maxRecDepth 100000 in
theorem c_X12_seed (l : Launch) (E : GE) (o_t : Nat) (a_t : Nat → Nat) (t_toldDoors : Int32) (t_barredDoors : Int32) (t_taped : Int32) (t_place0 : Int32) (t_length0 : Int32) (t_fault : Int32) (t_number0 : Int32) (t_open : Int32) (t_codeMany : Int32) (t_waiting : Int32) (t_saidMany : Int32) (t_clauses : Int32) (t_newMany : Int32) (t_rounds : Int32) (t_pinFrom : Int32) (t_pinTimes : Int32) (t_lines : Int32) (t_wasTold : Int32) (t_wasBarred : Int32) (t_goesNow : Int32) (t_jamsNow : Int32) (t_queued : Int32) (t_isKept : Int32) (t_now : (Nat → Int32)) (x1 : Int32) (r : Int32 × (Nat → Int32)) (h : f_X12_seed t_now x1 = some r) : Cn l E yX12_seed cX12_seed 2 (some .boolean) 2 0 0 [.ref o_t, .int x1] (W_X12_seed E o_t a_t t_toldDoors t_barredDoors t_taped t_place0 t_length0 t_fault t_number0 t_open t_codeMany t_waiting t_saidMany t_clauses t_newMany t_rounds t_pinFrom t_pinTimes t_lines t_wasTold t_wasBarred t_goesNow t_jamsNow t_queued t_isKept t_now) (fun w => w = (W_X12_seed E o_t a_t t_toldDoors t_barredDoors t_taped t_place0 t_length0 t_fault t_number0 t_open t_codeMany t_waiting t_saidMany t_clauses t_newMany t_rounds t_pinFrom t_pinTimes t_lines t_wasTold t_wasBarred t_goesNow t_jamsNow t_queued t_isKept r.2)) (some (.int r.1)) := by
  refine Cn.ofI (by decide +kernel) (Nat.le_of_ble_eq_true rfl) (fun X hX hR C hret => ?_)
  subst hX
  show Gx X E 0 0 (W_X12_seed E o_t a_t t_toldDoors t_barredDoors t_taped t_place0 t_length0 t_fault t_number0 t_open t_codeMany t_waiting t_saidMany t_clauses t_newMany t_rounds t_pinFrom t_pinTimes t_lines t_wasTold t_wasBarred t_goesNow t_jamsNow t_queued t_isKept t_now) 0 [(0, .ref o_t), (1, .int x1)] []
  unfold f_X12_seed at h
  refine g_iload_n (pc := 0) C dX12_seed_0 rfl 1 rfl ?_
  refine g_iconst (pc := 1) (v := 0) C dX12_seed_1 (by decide) ?_
  refine g_ldcw (pc := 2) C dX12_seed_2 ct_X12_408 ?_
  obtain ⟨u1, hu1, h⟩ := bs h
  refine g_callS (pc := 5) (st := []) (st1 := [.int u1]) (ws' := (W_X12_seed E o_t a_t t_toldDoors t_barredDoors t_taped t_place0 t_length0 t_fault t_number0 t_open t_codeMany t_waiting t_saidMany t_clauses t_newMany t_rounds t_pinFrom t_pinTimes t_lines t_wasTold t_wasBarred t_goesNow t_jamsNow t_queued t_isKept t_now)) C mv_X12_in ms_X12_in ml_X12_117 (c_X12_in X.2.1 E x1 (0 : Int32) (65535 : Int32) u1 hu1) dX12_seed_5 (by decide) rfl (Nat.le_of_ble_eq_true rfl) [] rfl (by decide) rfl rfl rfl rfl ?_
  refine g_if_ne (pc := 8) (tgt := 13) C dX12_seed_8 (by decide) h (fun h => ?_) (fun h => ?_)
  · refine g_aload_n (pc := 13) C dX12_seed_13 rfl 0 rfl ?_
    refine g_get (pc := 14) C fl_X12_7 dX12_seed_14 0 rfl rfl ?_
    refine g_sipush (pc := 17) (v := 165) C dX12_seed_17 (by decide) ?_
    refine g_iload_n (pc := 20) C dX12_seed_20 rfl 1 rfl ?_
    refine g_iast (pc := 21) C dX12_seed_21 1 rfl h (fun g2 h => ?_)
    refine g_ws (ws' := (W_X12_seed E o_t a_t t_toldDoors t_barredDoors t_taped t_place0 t_length0 t_fault t_number0 t_open t_codeMany t_waiting t_saidMany t_clauses t_newMany t_rounds t_pinFrom t_pinTimes t_lines t_wasTold t_wasBarred t_goesNow t_jamsNow t_queued t_isKept g2)) rfl ?_
    refine g_iconst (pc := 22) (v := 1) C dX12_seed_22 (by decide) ?_
    cases h
    exact hret _ _ _ dX12_seed_23 nb1 rfl
  · refine g_iconst (pc := 11) (v := 0) C dX12_seed_11 (by decide) ?_
    cases h
    exact hret _ _ _ dX12_seed_12 nb0 rfl
abbrev W_X12_takes (E : GE) (O_t : Nat) (a_t : Nat → Nat) (t_toldDoors : Int32) (t_barredDoors : Int32) (t_taped : Int32) (t_place0 : Int32) (t_length0 : Int32) (t_fault : Int32) (t_number0 : Int32) (t_open : Int32) (t_codeMany : Int32) (t_waiting : Int32) (t_saidMany : Int32) (t_clauses : Int32) (t_newMany : Int32) (t_rounds : Int32) (t_pinFrom : Int32) (t_pinTimes : Int32) (t_lines : Int32) (t_wasTold : Int32) (t_wasBarred : Int32) (t_goesNow : Int32) (t_jamsNow : Int32) (t_queued : Int32) (t_isKept : Int32) (t_tape : (Nat → Int32)) : va_W := [(O_t, ob_X12 a_t t_toldDoors t_barredDoors t_taped t_place0 t_length0 t_fault t_number0 t_open t_codeMany t_waiting t_saidMany t_clauses t_newMany t_rounds t_pinFrom t_pinTimes t_lines t_wasTold t_wasBarred t_goesNow t_jamsNow t_queued t_isKept), (a_t 13, .inl (E.2.2.1, 260, .inl t_tape))]
def f_X12_takes (t_place0 : Int32) (t_length0 : Int32) (t_fault : Int32) (t_tape : (Nat → Int32)) (x1 : Int32) : Option (Int32 × Int32 × Int32) := (f_X12_here t_place0 t_length0 t_tape).bind fun u1 => if u1 = x1 then (nm (t_place0 + (1 : Int32)) fun v2 => some ((1 : Int32), v2, t_fault)) else (f_X12_wrongAt t_fault (1 : Int32) t_place0).bind fun u3 => gb u3.1 <| some (u3.1, t_place0, u3.2)
theorem dX12_takes_0 : decode cX12_takes 0 = .ok (.aload_n 0, 1) := by decide +kernel
theorem dX12_takes_1 : decode cX12_takes 1 = .ok (.invokevirtual 152, 3) := by decide +kernel
theorem dX12_takes_4 : decode cX12_takes 4 = .ok (.iload_n 1, 1) := by decide +kernel
theorem dX12_takes_5 : decode cX12_takes 5 = .ok (.if_icmp .eq 13, 3) := by decide +kernel
theorem dX12_takes_8 : decode cX12_takes 8 = .ok (.aload_n 0, 1) := by decide +kernel
theorem dX12_takes_9 : decode cX12_takes 9 = .ok (.iconst 1, 1) := by decide +kernel
theorem dX12_takes_10 : decode cX12_takes 10 = .ok (.aload_n 0, 1) := by decide +kernel
theorem dX12_takes_11 : decode cX12_takes 11 = .ok (.getfield 146, 3) := by decide +kernel
theorem dX12_takes_14 : decode cX12_takes 14 = .ok (.invokevirtual 159, 3) := by decide +kernel
theorem dX12_takes_17 : decode cX12_takes 17 = .ok (.ireturn, 1) := by decide +kernel
theorem dX12_takes_18 : decode cX12_takes 18 = .ok (.aload_n 0, 1) := by decide +kernel
theorem dX12_takes_19 : decode cX12_takes 19 = .ok (.aload_n 0, 1) := by decide +kernel
theorem dX12_takes_20 : decode cX12_takes 20 = .ok (.getfield 146, 3) := by decide +kernel
theorem dX12_takes_23 : decode cX12_takes 23 = .ok (.iconst 1, 1) := by decide +kernel
theorem dX12_takes_24 : decode cX12_takes 24 = .ok (.iadd, 1) := by decide +kernel
theorem dX12_takes_25 : decode cX12_takes 25 = .ok (.putfield 146, 3) := by decide +kernel
theorem dX12_takes_28 : decode cX12_takes 28 = .ok (.iconst 1, 1) := by decide +kernel
theorem dX12_takes_29 : decode cX12_takes 29 = .ok (.ireturn, 1) := by decide +kernel
set_option maxHeartbeats 4000000 in
set_option maxRecDepth 100000 in
theorem c_X12_takes (l : Launch) (E : GE) (o_t : Nat) (a_t : Nat → Nat) (t_toldDoors : Int32) (t_barredDoors : Int32) (t_taped : Int32) (t_place0 : Int32) (t_length0 : Int32) (t_fault : Int32) (t_number0 : Int32) (t_open : Int32) (t_codeMany : Int32) (t_waiting : Int32) (t_saidMany : Int32) (t_clauses : Int32) (t_newMany : Int32) (t_rounds : Int32) (t_pinFrom : Int32) (t_pinTimes : Int32) (t_lines : Int32) (t_wasTold : Int32) (t_wasBarred : Int32) (t_goesNow : Int32) (t_jamsNow : Int32) (t_queued : Int32) (t_isKept : Int32) (t_tape : (Nat → Int32)) (x1 : Int32) (r : Int32 × Int32 × Int32) (h : f_X12_takes t_place0 t_length0 t_fault t_tape x1 = some r) : Cn l E yX12_takes cX12_takes 2 (some .boolean) 2 0 0 [.ref o_t, .int x1] (W_X12_takes E o_t a_t t_toldDoors t_barredDoors t_taped t_place0 t_length0 t_fault t_number0 t_open t_codeMany t_waiting t_saidMany t_clauses t_newMany t_rounds t_pinFrom t_pinTimes t_lines t_wasTold t_wasBarred t_goesNow t_jamsNow t_queued t_isKept t_tape) (fun w => w = (W_X12_takes E o_t a_t t_toldDoors t_barredDoors t_taped r.2.1 t_length0 r.2.2 t_number0 t_open t_codeMany t_waiting t_saidMany t_clauses t_newMany t_rounds t_pinFrom t_pinTimes t_lines t_wasTold t_wasBarred t_goesNow t_jamsNow t_queued t_isKept t_tape)) (some (.int r.1)) := by
  refine Cn.ofI (by decide +kernel) (Nat.le_of_ble_eq_true rfl) (fun X hX hR C hret => ?_)
  subst hX
  show Gx X E 0 0 (W_X12_takes E o_t a_t t_toldDoors t_barredDoors t_taped t_place0 t_length0 t_fault t_number0 t_open t_codeMany t_waiting t_saidMany t_clauses t_newMany t_rounds t_pinFrom t_pinTimes t_lines t_wasTold t_wasBarred t_goesNow t_jamsNow t_queued t_isKept t_tape) 0 [(0, .ref o_t), (1, .int x1)] []
  unfold f_X12_takes at h
  refine g_aload_n (pc := 0) C dX12_takes_0 rfl 0 rfl ?_
  obtain ⟨u1, hu1, h⟩ := bs h
  refine g_callV (pc := 1) (st := []) (st1 := [.int u1]) (ws' := (W_X12_takes E o_t a_t t_toldDoors t_barredDoors t_taped t_place0 t_length0 t_fault t_number0 t_open t_codeMany t_waiting t_saidMany t_clauses t_newMany t_rounds t_pinFrom t_pinTimes t_lines t_wasTold t_wasBarred t_goesNow t_jamsNow t_queued t_isKept t_tape)) C mv_X12_here mi_X12_here ml_X12_152 (c_X12_here X.2.1 E o_t a_t t_toldDoors t_barredDoors t_taped t_place0 t_length0 t_fault t_number0 t_open t_codeMany t_waiting t_saidMany t_clauses t_newMany t_rounds t_pinFrom t_pinTimes t_lines t_wasTold t_wasBarred t_goesNow t_jamsNow t_queued t_isKept t_tape u1 hu1) dX12_takes_1 (by decide) rfl (Nat.le_of_ble_eq_true rfl) 0 11 rfl rfl [0, 1] rfl (by decide) rfl rfl rfl rfl ?_
  refine g_iload_n (pc := 4) C dX12_takes_4 rfl 1 rfl ?_
  refine g_icmp_eq (pc := 5) (tgt := 18) C dX12_takes_5 (by decide) h (fun h => ?_) (fun h => ?_)
  · refine g_aload_n (pc := 18) C dX12_takes_18 rfl 0 rfl ?_
    refine g_aload_n (pc := 19) C dX12_takes_19 rfl 0 rfl ?_
    refine g_get (pc := 20) C fl_X12_146 dX12_takes_20 0 rfl rfl ?_
    refine g_iconst (pc := 23) (v := 1) C dX12_takes_23 (by decide) ?_
    refine g_iadd (pc := 24) C dX12_takes_24 ?_
    refine g_nm h (fun v2 h => ?_)
    refine g_put (pc := 25) (ws' := (W_X12_takes E o_t a_t t_toldDoors t_barredDoors t_taped v2 t_length0 t_fault t_number0 t_open t_codeMany t_waiting t_saidMany t_clauses t_newMany t_rounds t_pinFrom t_pinTimes t_lines t_wasTold t_wasBarred t_goesNow t_jamsNow t_queued t_isKept t_tape)) C .int fl_X12_146 dX12_takes_25 0 rfl (by decide +kernel) rfl rfl (Nat.le_of_ble_eq_true rfl) rfl ?_
    refine g_iconst (pc := 28) (v := 1) C dX12_takes_28 (by decide) ?_
    cases h
    exact hret _ _ _ dX12_takes_29 nb1 rfl
  · refine g_aload_n (pc := 8) C dX12_takes_8 rfl 0 rfl ?_
    refine g_iconst (pc := 9) (v := 1) C dX12_takes_9 (by decide) ?_
    refine g_aload_n (pc := 10) C dX12_takes_10 rfl 0 rfl ?_
    refine g_get (pc := 11) C fl_X12_146 dX12_takes_11 0 rfl rfl ?_
    obtain ⟨u3, hu3, h⟩ := bs h
    refine g_callV (pc := 14) (st := []) (st1 := [.int u3.1]) (ws' := (W_X12_takes E o_t a_t t_toldDoors t_barredDoors t_taped t_place0 t_length0 u3.2 t_number0 t_open t_codeMany t_waiting t_saidMany t_clauses t_newMany t_rounds t_pinFrom t_pinTimes t_lines t_wasTold t_wasBarred t_goesNow t_jamsNow t_queued t_isKept t_tape)) C mv_X12_wrongAt mi_X12_wrongAt ml_X12_159 (c_X12_wrongAt X.2.1 E o_t a_t t_toldDoors t_barredDoors t_taped t_place0 t_length0 t_fault t_number0 t_open t_codeMany t_waiting t_saidMany t_clauses t_newMany t_rounds t_pinFrom t_pinTimes t_lines t_wasTold t_wasBarred t_goesNow t_jamsNow t_queued t_isKept (1 : Int32) t_place0 u3 hu3) dX12_takes_14 (by decide) rfl (Nat.le_of_ble_eq_true rfl) 0 11 rfl rfl [0] rfl (by decide) rfl rfl rfl rfl ?_
    obtain ⟨hgb, h⟩ := gb_is h
    cases h
    exact hret _ _ _ dX12_takes_17 hgb rfl
abbrev W_X12_thursday (E : GE) (O_t : Nat) (a_t : Nat → Nat) (t_toldDoors : Int32) (t_barredDoors : Int32) (t_taped : Int32) (t_place0 : Int32) (t_length0 : Int32) (t_fault : Int32) (t_number0 : Int32) (t_open : Int32) (t_codeMany : Int32) (t_waiting : Int32) (t_saidMany : Int32) (t_clauses : Int32) (t_newMany : Int32) (t_rounds : Int32) (t_pinFrom : Int32) (t_pinTimes : Int32) (t_lines : Int32) (t_wasTold : Int32) (t_wasBarred : Int32) (t_goesNow : Int32) (t_jamsNow : Int32) (t_queued : Int32) (t_isKept : Int32) (t_tape : (Nat → Int32)) (t_carriedTo : (Nat → Int32)) : va_W := [(O_t, ob_X12 a_t t_toldDoors t_barredDoors t_taped t_place0 t_length0 t_fault t_number0 t_open t_codeMany t_waiting t_saidMany t_clauses t_newMany t_rounds t_pinFrom t_pinTimes t_lines t_wasTold t_wasBarred t_goesNow t_jamsNow t_queued t_isKept), (a_t 13, .inl (E.2.2.1, 260, .inl t_tape)), (a_t 56, .inl (E.2.1, 7, .inl t_carriedTo))]
def L_X12_thursday_20 (t_taped : Int32) (t_tape : (Nat → Int32)) (t_carriedTo : (Nat → Int32)) (k0 : Int32 → Option (Int32 × Int32 × (Nat → Int32))) : Nat → Int32 × Int32 → Option (Int32 × Int32 × (Nat → Int32)) := lp fun go s => if (7 : Int32) ≤ s.2 then (k0 s.1) else (f_X12_octet t_tape s.2).bind fun u1 => nm (s.1 + u1) fun v2 => nm (s.2 + (1 : Int32)) fun v3 => go (v2, v3)
def L_X12_thursday_54 (t_taped : Int32) (t_tape : (Nat → Int32)) (x1 : Int32) (k0 : (Nat → Int32) → Option (Int32 × Int32 × (Nat → Int32))) : Nat → Int32 × Int32 × (Nat → Int32) → Option (Int32 × Int32 × (Nat → Int32)) := lp fun go s => if (7 : Int32) ≤ s.2.1 then (k0 s.2.2) else (f_X12_octet t_tape s.2.1).bind fun u6 => dv x1 (7 : Int32) fun v7 => nm ((s.1 + u6) - v7) fun v8 => wr s.2.2 7 s.2.1 v8 fun g9 => nm (s.2.1 + (1 : Int32)) fun v10 => go (v8, v10, g9)
def L_X12_thursday_106 (t_taped : Int32) (t_tape : (Nat → Int32)) (t_carriedTo : (Nat → Int32)) (x3 : Int32) (x4 : Int32) (k0 : Int32 → Option (Int32 × Int32 × (Nat → Int32))) : Nat → Int32 × Int32 → Option (Int32 × Int32 × (Nat → Int32)) := lp fun go s => if (7 : Int32) ≤ s.2 then (k0 s.1) else rd t_carriedTo 7 s.2 fun v12 => rd t_carriedTo 7 x4 fun v13 => (f_X12_size (v12 - v13)).bind fun u14 => nm (s.1 + u14) fun v15 => nm (s.2 + (1 : Int32)) fun v16 => go (v15, v16)
def L_X12_thursday_93 (t_taped : Int32) (t_tape : (Nat → Int32)) (t_carriedTo : (Nat → Int32)) : Nat → Int32 × Int32 → Option (Int32 × Int32 × (Nat → Int32)) := lp fun go s => if (7 : Int32) ≤ s.2 then (some (s.1, t_taped, t_carriedTo)) else L_X12_thursday_106 t_taped t_tape t_carriedTo s.1 s.2 (fun s17 => (f_X12_min s.1 s17).bind fun u18 => nm (s.2 + (1 : Int32)) fun v19 => go (u18, v19)) fu ((0 : Int32), (0 : Int32))
def f_X12_thursday (t_taped : Int32) (t_tape : (Nat → Int32)) (t_carriedTo : (Nat → Int32)) : Option (Int32 × Int32 × (Nat → Int32)) := if (7 : Int32) ≤ t_taped then (L_X12_thursday_20 (0 : Int32) t_tape t_carriedTo (fun s4 => rm s4 (7 : Int32) fun v5 => if v5 = 0 then (L_X12_thursday_54 (0 : Int32) t_tape s4 (fun s11 => L_X12_thursday_93 (0 : Int32) t_tape s11 fu ((1000000 : Int32), (0 : Int32))) fu ((0 : Int32), (0 : Int32), t_carriedTo)) else some ((-2 : Int32), (0 : Int32), t_carriedTo)) fu ((0 : Int32), (0 : Int32))) else some ((-1 : Int32), t_taped, t_carriedTo)
theorem dX12_thursday_0 : decode cX12_thursday 0 = .ok (.aload_n 0, 1) := by decide +kernel
theorem dX12_thursday_1 : decode cX12_thursday 1 = .ok (.getfield 139, 3) := by decide +kernel
theorem dX12_thursday_4 : decode cX12_thursday 4 = .ok (.bipush 7, 2) := by decide +kernel
theorem dX12_thursday_6 : decode cX12_thursday 6 = .ok (.if_icmp .ge 5, 3) := by decide +kernel
theorem dX12_thursday_9 : decode cX12_thursday 9 = .ok (.iconst (-1), 1) := by decide +kernel
theorem dX12_thursday_10 : decode cX12_thursday 10 = .ok (.ireturn, 1) := by decide +kernel
theorem dX12_thursday_11 : decode cX12_thursday 11 = .ok (.aload_n 0, 1) := by decide +kernel
theorem dX12_thursday_12 : decode cX12_thursday 12 = .ok (.iconst 0, 1) := by decide +kernel
theorem dX12_thursday_13 : decode cX12_thursday 13 = .ok (.putfield 139, 3) := by decide +kernel
theorem dX12_thursday_16 : decode cX12_thursday 16 = .ok (.iconst 0, 1) := by decide +kernel
theorem dX12_thursday_17 : decode cX12_thursday 17 = .ok (.istore_n 1, 1) := by decide +kernel
theorem dX12_thursday_18 : decode cX12_thursday 18 = .ok (.iconst 0, 1) := by decide +kernel
theorem dX12_thursday_19 : decode cX12_thursday 19 = .ok (.istore_n 2, 1) := by decide +kernel
theorem dX12_thursday_20 : decode cX12_thursday 20 = .ok (.iload_n 2, 1) := by decide +kernel
theorem dX12_thursday_21 : decode cX12_thursday 21 = .ok (.bipush 7, 2) := by decide +kernel
theorem dX12_thursday_23 : decode cX12_thursday 23 = .ok (.if_icmp .ge 17, 3) := by decide +kernel
theorem dX12_thursday_26 : decode cX12_thursday 26 = .ok (.iload_n 1, 1) := by decide +kernel
theorem dX12_thursday_27 : decode cX12_thursday 27 = .ok (.aload_n 0, 1) := by decide +kernel
theorem dX12_thursday_28 : decode cX12_thursday 28 = .ok (.iload_n 2, 1) := by decide +kernel
theorem dX12_thursday_29 : decode cX12_thursday 29 = .ok (.invokevirtual 387, 3) := by decide +kernel
theorem dX12_thursday_32 : decode cX12_thursday 32 = .ok (.iadd, 1) := by decide +kernel
theorem dX12_thursday_33 : decode cX12_thursday 33 = .ok (.istore_n 1, 1) := by decide +kernel
theorem dX12_thursday_34 : decode cX12_thursday 34 = .ok (.iinc 2 1, 3) := by decide +kernel
theorem dX12_thursday_37 : decode cX12_thursday 37 = .ok (.goto (-17), 3) := by decide +kernel
theorem dX12_thursday_40 : decode cX12_thursday 40 = .ok (.iload_n 1, 1) := by decide +kernel
theorem dX12_thursday_41 : decode cX12_thursday 41 = .ok (.bipush 7, 2) := by decide +kernel
theorem dX12_thursday_43 : decode cX12_thursday 43 = .ok (.irem, 1) := by decide +kernel
theorem dX12_thursday_44 : decode cX12_thursday 44 = .ok (.ifCond .eq 6, 3) := by decide +kernel
theorem dX12_thursday_47 : decode cX12_thursday 47 = .ok (.bipush (-2), 2) := by decide +kernel
theorem dX12_thursday_49 : decode cX12_thursday 49 = .ok (.ireturn, 1) := by decide +kernel
theorem dX12_thursday_50 : decode cX12_thursday 50 = .ok (.iconst 0, 1) := by decide +kernel
theorem dX12_thursday_51 : decode cX12_thursday 51 = .ok (.istore_n 2, 1) := by decide +kernel
theorem dX12_thursday_52 : decode cX12_thursday 52 = .ok (.iconst 0, 1) := by decide +kernel
theorem dX12_thursday_53 : decode cX12_thursday 53 = .ok (.istore_n 3, 1) := by decide +kernel
theorem dX12_thursday_54 : decode cX12_thursday 54 = .ok (.iload_n 3, 1) := by decide +kernel
theorem dX12_thursday_55 : decode cX12_thursday 55 = .ok (.bipush 7, 2) := by decide +kernel
theorem dX12_thursday_57 : decode cX12_thursday 57 = .ok (.if_icmp .ge 29, 3) := by decide +kernel
theorem dX12_thursday_60 : decode cX12_thursday 60 = .ok (.iload_n 2, 1) := by decide +kernel
theorem dX12_thursday_61 : decode cX12_thursday 61 = .ok (.aload_n 0, 1) := by decide +kernel
theorem dX12_thursday_62 : decode cX12_thursday 62 = .ok (.iload_n 3, 1) := by decide +kernel
theorem dX12_thursday_63 : decode cX12_thursday 63 = .ok (.invokevirtual 387, 3) := by decide +kernel
theorem dX12_thursday_66 : decode cX12_thursday 66 = .ok (.iadd, 1) := by decide +kernel
theorem dX12_thursday_67 : decode cX12_thursday 67 = .ok (.iload_n 1, 1) := by decide +kernel
theorem dX12_thursday_68 : decode cX12_thursday 68 = .ok (.bipush 7, 2) := by decide +kernel
theorem dX12_thursday_70 : decode cX12_thursday 70 = .ok (.idiv, 1) := by decide +kernel
theorem dX12_thursday_71 : decode cX12_thursday 71 = .ok (.isub, 1) := by decide +kernel
theorem dX12_thursday_72 : decode cX12_thursday 72 = .ok (.istore_n 2, 1) := by decide +kernel
theorem dX12_thursday_73 : decode cX12_thursday 73 = .ok (.aload_n 0, 1) := by decide +kernel
theorem dX12_thursday_74 : decode cX12_thursday 74 = .ok (.getfield 114, 3) := by decide +kernel
theorem dX12_thursday_77 : decode cX12_thursday 77 = .ok (.iload_n 3, 1) := by decide +kernel
theorem dX12_thursday_78 : decode cX12_thursday 78 = .ok (.iload_n 2, 1) := by decide +kernel
theorem dX12_thursday_79 : decode cX12_thursday 79 = .ok (.iastore, 1) := by decide +kernel
theorem dX12_thursday_80 : decode cX12_thursday 80 = .ok (.iinc 3 1, 3) := by decide +kernel
theorem dX12_thursday_83 : decode cX12_thursday 83 = .ok (.goto (-29), 3) := by decide +kernel
theorem dX12_thursday_86 : decode cX12_thursday 86 = .ok (.ldc_w 383, 3) := by decide +kernel
theorem dX12_thursday_89 : decode cX12_thursday 89 = .ok (.istore_n 3, 1) := by decide +kernel
theorem dX12_thursday_90 : decode cX12_thursday 90 = .ok (.iconst 0, 1) := by decide +kernel
theorem dX12_thursday_91 : decode cX12_thursday 91 = .ok (.istore 4, 2) := by decide +kernel
theorem dX12_thursday_93 : decode cX12_thursday 93 = .ok (.iload 4, 2) := by decide +kernel
theorem dX12_thursday_95 : decode cX12_thursday 95 = .ok (.bipush 7, 2) := by decide +kernel
theorem dX12_thursday_97 : decode cX12_thursday 97 = .ok (.if_icmp .ge 58, 3) := by decide +kernel
theorem dX12_thursday_100 : decode cX12_thursday 100 = .ok (.iconst 0, 1) := by decide +kernel
theorem dX12_thursday_101 : decode cX12_thursday 101 = .ok (.istore 5, 2) := by decide +kernel
theorem dX12_thursday_103 : decode cX12_thursday 103 = .ok (.iconst 0, 1) := by decide +kernel
theorem dX12_thursday_104 : decode cX12_thursday 104 = .ok (.istore 6, 2) := by decide +kernel
theorem dX12_thursday_106 : decode cX12_thursday 106 = .ok (.iload 6, 2) := by decide +kernel
theorem dX12_thursday_108 : decode cX12_thursday 108 = .ok (.bipush 7, 2) := by decide +kernel
theorem dX12_thursday_110 : decode cX12_thursday 110 = .ok (.if_icmp .ge 32, 3) := by decide +kernel
theorem dX12_thursday_113 : decode cX12_thursday 113 = .ok (.iload 5, 2) := by decide +kernel
theorem dX12_thursday_115 : decode cX12_thursday 115 = .ok (.aload_n 0, 1) := by decide +kernel
theorem dX12_thursday_116 : decode cX12_thursday 116 = .ok (.getfield 114, 3) := by decide +kernel
theorem dX12_thursday_119 : decode cX12_thursday 119 = .ok (.iload 6, 2) := by decide +kernel
theorem dX12_thursday_121 : decode cX12_thursday 121 = .ok (.iaload, 1) := by decide +kernel
theorem dX12_thursday_122 : decode cX12_thursday 122 = .ok (.aload_n 0, 1) := by decide +kernel
theorem dX12_thursday_123 : decode cX12_thursday 123 = .ok (.getfield 114, 3) := by decide +kernel
theorem dX12_thursday_126 : decode cX12_thursday 126 = .ok (.iload 4, 2) := by decide +kernel
theorem dX12_thursday_128 : decode cX12_thursday 128 = .ok (.iaload, 1) := by decide +kernel
theorem dX12_thursday_129 : decode cX12_thursday 129 = .ok (.isub, 1) := by decide +kernel
theorem dX12_thursday_130 : decode cX12_thursday 130 = .ok (.invokestatic 405, 3) := by decide +kernel
theorem dX12_thursday_133 : decode cX12_thursday 133 = .ok (.iadd, 1) := by decide +kernel
theorem dX12_thursday_134 : decode cX12_thursday 134 = .ok (.istore 5, 2) := by decide +kernel
theorem dX12_thursday_136 : decode cX12_thursday 136 = .ok (.iinc 6 1, 3) := by decide +kernel
theorem dX12_thursday_139 : decode cX12_thursday 139 = .ok (.goto (-33), 3) := by decide +kernel
theorem dX12_thursday_142 : decode cX12_thursday 142 = .ok (.iload_n 3, 1) := by decide +kernel
theorem dX12_thursday_143 : decode cX12_thursday 143 = .ok (.iload 5, 2) := by decide +kernel
theorem dX12_thursday_145 : decode cX12_thursday 145 = .ok (.invokestatic 345, 3) := by decide +kernel
theorem dX12_thursday_148 : decode cX12_thursday 148 = .ok (.istore_n 3, 1) := by decide +kernel
theorem dX12_thursday_149 : decode cX12_thursday 149 = .ok (.iinc 4 1, 3) := by decide +kernel
theorem dX12_thursday_152 : decode cX12_thursday 152 = .ok (.goto (-59), 3) := by decide +kernel
theorem dX12_thursday_155 : decode cX12_thursday 155 = .ok (.iload_n 3, 1) := by decide +kernel
theorem dX12_thursday_156 : decode cX12_thursday 156 = .ok (.ireturn, 1) := by decide +kernel
set_option maxHeartbeats 4000000 in
set_option maxRecDepth 100000 in
theorem kL_X12_thursday_20 {X : GC} {E : GE} (C : Cx X E cX12_thursday RX12 2 7) (o_t : Nat) (a_t : Nat → Nat) (t_toldDoors : Int32) (t_barredDoors : Int32) (t_place0 : Int32) (t_length0 : Int32) (t_fault : Int32) (t_number0 : Int32) (t_open : Int32) (t_codeMany : Int32) (t_waiting : Int32) (t_saidMany : Int32) (t_clauses : Int32) (t_newMany : Int32) (t_rounds : Int32) (t_pinFrom : Int32) (t_pinTimes : Int32) (t_lines : Int32) (t_wasTold : Int32) (t_wasBarred : Int32) (t_goesNow : Int32) (t_jamsNow : Int32) (t_queued : Int32) (t_isKept : Int32) (t_taped : Int32) (t_tape : (Nat → Int32)) (t_carriedTo : (Nat → Int32)) (k0 : Int32 → Option (Int32 × Int32 × (Nat → Int32))) {r : Int32 × Int32 × (Nat → Int32)} (hret : RtI X E cX12_thursday .int 0 0 (fun w => w = (W_X12_thursday E o_t a_t t_toldDoors t_barredDoors r.2.1 t_place0 t_length0 t_fault t_number0 t_open t_codeMany t_waiting t_saidMany t_clauses t_newMany t_rounds t_pinFrom t_pinTimes t_lines t_wasTold t_wasBarred t_goesNow t_jamsNow t_queued t_isKept t_tape r.2.2)) r.1) (hk0 : ∀ u, k0 u = some r → Gx X E 0 0 (W_X12_thursday E o_t a_t t_toldDoors t_barredDoors t_taped t_place0 t_length0 t_fault t_number0 t_open t_codeMany t_waiting t_saidMany t_clauses t_newMany t_rounds t_pinFrom t_pinTimes t_lines t_wasTold t_wasBarred t_goesNow t_jamsNow t_queued t_isKept t_tape t_carriedTo) 40 [(0, .ref o_t), (1, .int u)] []) : ∀ (n : Nat) (s : Int32 × Int32), L_X12_thursday_20 t_taped t_tape t_carriedTo k0 n s = some r → Gx X E 0 0 (W_X12_thursday E o_t a_t t_toldDoors t_barredDoors t_taped t_place0 t_length0 t_fault t_number0 t_open t_codeMany t_waiting t_saidMany t_clauses t_newMany t_rounds t_pinFrom t_pinTimes t_lines t_wasTold t_wasBarred t_goesNow t_jamsNow t_queued t_isKept t_tape t_carriedTo) 20 [(0, .ref o_t), (1, .int s.1), (2, .int s.2)] [] := by
  unfold L_X12_thursday_20
  refine lp_ind _ (fun go ih s h => ?_)
  refine g_iload_n (pc := 20) C dX12_thursday_20 rfl 2 rfl ?_
  refine g_bipush (pc := 21) (v := 7) C dX12_thursday_21 (by decide) ?_
  refine g_icmp_ge (pc := 23) (tgt := 40) C dX12_thursday_23 (by decide) h (fun h => ?_) (fun h => ?_)
  · refine g_sub [0, 1] rfl ?_
    exact hk0 _ h
  · refine g_iload_n (pc := 26) C dX12_thursday_26 rfl 1 rfl ?_
    refine g_aload_n (pc := 27) C dX12_thursday_27 rfl 0 rfl ?_
    refine g_iload_n (pc := 28) C dX12_thursday_28 rfl 2 rfl ?_
    obtain ⟨u1, hu1, h⟩ := bs h
    refine g_callV (pc := 29) (st := [.int s.1]) (st1 := [.int u1, .int s.1]) (ws' := (W_X12_thursday E o_t a_t t_toldDoors t_barredDoors t_taped t_place0 t_length0 t_fault t_number0 t_open t_codeMany t_waiting t_saidMany t_clauses t_newMany t_rounds t_pinFrom t_pinTimes t_lines t_wasTold t_wasBarred t_goesNow t_jamsNow t_queued t_isKept t_tape t_carriedTo)) C mv_X12_octet mi_X12_octet ml_X12_387 (c_X12_octet X.2.1 E o_t a_t t_toldDoors t_barredDoors t_taped t_place0 t_length0 t_fault t_number0 t_open t_codeMany t_waiting t_saidMany t_clauses t_newMany t_rounds t_pinFrom t_pinTimes t_lines t_wasTold t_wasBarred t_goesNow t_jamsNow t_queued t_isKept t_tape s.2 u1 hu1) dX12_thursday_29 (by decide) rfl (Nat.le_of_ble_eq_true rfl) 0 11 rfl rfl [0, 1] rfl (by decide) rfl rfl rfl rfl ?_
    refine g_iadd (pc := 32) C dX12_thursday_32 ?_
    refine g_nm h (fun v2 h => ?_)
    refine g_istore_n (pc := 33) (lv' := [(1, .int v2), (0, .ref o_t), (2, .int s.2)]) C dX12_thursday_33 rfl (by decide) rfl ?_
    refine g_iincn (pc := 34) (j := 2) (d := 1) (lv' := fun v3 => [(2, .int v3), (1, .int v2), (0, .ref o_t)]) C dX12_thursday_34 rfl (by decide) (by decide) (fun _ => rfl) h (fun v3 h => ?_)
    refine g_goto (pc := 37) (tgt := 20) C dX12_thursday_37 (by decide) ?_
    refine g_sub [2, 1, 0] rfl ?_
    exact ih _ h
set_option maxHeartbeats 4000000 in
set_option maxRecDepth 100000 in
theorem kL_X12_thursday_54 {X : GC} {E : GE} (C : Cx X E cX12_thursday RX12 2 7) (o_t : Nat) (a_t : Nat → Nat) (t_toldDoors : Int32) (t_barredDoors : Int32) (t_place0 : Int32) (t_length0 : Int32) (t_fault : Int32) (t_number0 : Int32) (t_open : Int32) (t_codeMany : Int32) (t_waiting : Int32) (t_saidMany : Int32) (t_clauses : Int32) (t_newMany : Int32) (t_rounds : Int32) (t_pinFrom : Int32) (t_pinTimes : Int32) (t_lines : Int32) (t_wasTold : Int32) (t_wasBarred : Int32) (t_goesNow : Int32) (t_jamsNow : Int32) (t_queued : Int32) (t_isKept : Int32) (t_taped : Int32) (t_tape : (Nat → Int32)) (x1 : Int32) (k0 : (Nat → Int32) → Option (Int32 × Int32 × (Nat → Int32))) {r : Int32 × Int32 × (Nat → Int32)} (hret : RtI X E cX12_thursday .int 0 0 (fun w => w = (W_X12_thursday E o_t a_t t_toldDoors t_barredDoors r.2.1 t_place0 t_length0 t_fault t_number0 t_open t_codeMany t_waiting t_saidMany t_clauses t_newMany t_rounds t_pinFrom t_pinTimes t_lines t_wasTold t_wasBarred t_goesNow t_jamsNow t_queued t_isKept t_tape r.2.2)) r.1) (hk0 : ∀ u, k0 u = some r → Gx X E 0 0 (W_X12_thursday E o_t a_t t_toldDoors t_barredDoors t_taped t_place0 t_length0 t_fault t_number0 t_open t_codeMany t_waiting t_saidMany t_clauses t_newMany t_rounds t_pinFrom t_pinTimes t_lines t_wasTold t_wasBarred t_goesNow t_jamsNow t_queued t_isKept t_tape u) 86 [(0, .ref o_t)] []) : ∀ (n : Nat) (s : Int32 × Int32 × (Nat → Int32)), L_X12_thursday_54 t_taped t_tape x1 k0 n s = some r → Gx X E 0 0 (W_X12_thursday E o_t a_t t_toldDoors t_barredDoors t_taped t_place0 t_length0 t_fault t_number0 t_open t_codeMany t_waiting t_saidMany t_clauses t_newMany t_rounds t_pinFrom t_pinTimes t_lines t_wasTold t_wasBarred t_goesNow t_jamsNow t_queued t_isKept t_tape s.2.2) 54 [(0, .ref o_t), (1, .int x1), (2, .int s.1), (3, .int s.2.1)] [] := by
  unfold L_X12_thursday_54
  refine lp_ind _ (fun go ih s h => ?_)
  refine g_iload_n (pc := 54) C dX12_thursday_54 rfl 3 rfl ?_
  refine g_bipush (pc := 55) (v := 7) C dX12_thursday_55 (by decide) ?_
  refine g_icmp_ge (pc := 57) (tgt := 86) C dX12_thursday_57 (by decide) h (fun h => ?_) (fun h => ?_)
  · refine g_sub [0] rfl ?_
    exact hk0 _ h
  · refine g_iload_n (pc := 60) C dX12_thursday_60 rfl 2 rfl ?_
    refine g_aload_n (pc := 61) C dX12_thursday_61 rfl 0 rfl ?_
    refine g_iload_n (pc := 62) C dX12_thursday_62 rfl 3 rfl ?_
    obtain ⟨u6, hu6, h⟩ := bs h
    refine g_callV (pc := 63) (st := [.int s.1]) (st1 := [.int u6, .int s.1]) (ws' := (W_X12_thursday E o_t a_t t_toldDoors t_barredDoors t_taped t_place0 t_length0 t_fault t_number0 t_open t_codeMany t_waiting t_saidMany t_clauses t_newMany t_rounds t_pinFrom t_pinTimes t_lines t_wasTold t_wasBarred t_goesNow t_jamsNow t_queued t_isKept t_tape s.2.2)) C mv_X12_octet mi_X12_octet ml_X12_387 (c_X12_octet X.2.1 E o_t a_t t_toldDoors t_barredDoors t_taped t_place0 t_length0 t_fault t_number0 t_open t_codeMany t_waiting t_saidMany t_clauses t_newMany t_rounds t_pinFrom t_pinTimes t_lines t_wasTold t_wasBarred t_goesNow t_jamsNow t_queued t_isKept t_tape s.2.1 u6 hu6) dX12_thursday_63 (by decide) rfl (Nat.le_of_ble_eq_true rfl) 0 11 rfl rfl [0, 1] rfl (by decide) rfl rfl rfl rfl ?_
    refine g_iadd (pc := 66) C dX12_thursday_66 ?_
    refine g_iload_n (pc := 67) C dX12_thursday_67 rfl 1 rfl ?_
    refine g_bipush (pc := 68) (v := 7) C dX12_thursday_68 (by decide) ?_
    refine g_idiv (pc := 70) C dX12_thursday_70 h (fun v7 h => ?_)
    refine g_isub (pc := 71) C dX12_thursday_71 ?_
    refine g_nm h (fun v8 h => ?_)
    refine g_istore_n (pc := 72) (lv' := [(2, .int v8), (0, .ref o_t), (1, .int x1), (3, .int s.2.1)]) C dX12_thursday_72 rfl (by decide) rfl ?_
    refine g_aload_n (pc := 73) C dX12_thursday_73 rfl 1 rfl ?_
    refine g_get (pc := 74) C fl_X12_114 dX12_thursday_74 0 rfl rfl ?_
    refine g_iload_n (pc := 77) C dX12_thursday_77 rfl 3 rfl ?_
    refine g_iload_n (pc := 78) C dX12_thursday_78 rfl 0 rfl ?_
    refine g_iast (pc := 79) C dX12_thursday_79 2 rfl h (fun g9 h => ?_)
    refine g_ws (ws' := (W_X12_thursday E o_t a_t t_toldDoors t_barredDoors t_taped t_place0 t_length0 t_fault t_number0 t_open t_codeMany t_waiting t_saidMany t_clauses t_newMany t_rounds t_pinFrom t_pinTimes t_lines t_wasTold t_wasBarred t_goesNow t_jamsNow t_queued t_isKept t_tape g9)) rfl ?_
    refine g_iincn (pc := 80) (j := 3) (d := 1) (lv' := fun v10 => [(3, .int v10), (2, .int v8), (0, .ref o_t), (1, .int x1)]) C dX12_thursday_80 rfl (by decide) (by decide) (fun _ => rfl) h (fun v10 h => ?_)
    refine g_goto (pc := 83) (tgt := 54) C dX12_thursday_83 (by decide) ?_
    refine g_sub [2, 3, 1, 0] rfl ?_
    exact ih _ h
set_option maxHeartbeats 4000000 in
set_option maxRecDepth 100000 in
theorem kL_X12_thursday_106 {X : GC} {E : GE} (C : Cx X E cX12_thursday RX12 2 7) (o_t : Nat) (a_t : Nat → Nat) (t_toldDoors : Int32) (t_barredDoors : Int32) (t_place0 : Int32) (t_length0 : Int32) (t_fault : Int32) (t_number0 : Int32) (t_open : Int32) (t_codeMany : Int32) (t_waiting : Int32) (t_saidMany : Int32) (t_clauses : Int32) (t_newMany : Int32) (t_rounds : Int32) (t_pinFrom : Int32) (t_pinTimes : Int32) (t_lines : Int32) (t_wasTold : Int32) (t_wasBarred : Int32) (t_goesNow : Int32) (t_jamsNow : Int32) (t_queued : Int32) (t_isKept : Int32) (t_taped : Int32) (t_tape : (Nat → Int32)) (t_carriedTo : (Nat → Int32)) (x3 : Int32) (x4 : Int32) (k0 : Int32 → Option (Int32 × Int32 × (Nat → Int32))) {r : Int32 × Int32 × (Nat → Int32)} (hret : RtI X E cX12_thursday .int 0 0 (fun w => w = (W_X12_thursday E o_t a_t t_toldDoors t_barredDoors r.2.1 t_place0 t_length0 t_fault t_number0 t_open t_codeMany t_waiting t_saidMany t_clauses t_newMany t_rounds t_pinFrom t_pinTimes t_lines t_wasTold t_wasBarred t_goesNow t_jamsNow t_queued t_isKept t_tape r.2.2)) r.1) (hk0 : ∀ u, k0 u = some r → Gx X E 0 0 (W_X12_thursday E o_t a_t t_toldDoors t_barredDoors t_taped t_place0 t_length0 t_fault t_number0 t_open t_codeMany t_waiting t_saidMany t_clauses t_newMany t_rounds t_pinFrom t_pinTimes t_lines t_wasTold t_wasBarred t_goesNow t_jamsNow t_queued t_isKept t_tape t_carriedTo) 142 [(0, .ref o_t), (3, .int x3), (4, .int x4), (5, .int u)] []) : ∀ (n : Nat) (s : Int32 × Int32), L_X12_thursday_106 t_taped t_tape t_carriedTo x3 x4 k0 n s = some r → Gx X E 0 0 (W_X12_thursday E o_t a_t t_toldDoors t_barredDoors t_taped t_place0 t_length0 t_fault t_number0 t_open t_codeMany t_waiting t_saidMany t_clauses t_newMany t_rounds t_pinFrom t_pinTimes t_lines t_wasTold t_wasBarred t_goesNow t_jamsNow t_queued t_isKept t_tape t_carriedTo) 106 [(0, .ref o_t), (3, .int x3), (4, .int x4), (5, .int s.1), (6, .int s.2)] [] := by
  unfold L_X12_thursday_106
  refine lp_ind _ (fun go ih s h => ?_)
  refine g_iload (pc := 106) C dX12_thursday_106 4 rfl ?_
  refine g_bipush (pc := 108) (v := 7) C dX12_thursday_108 (by decide) ?_
  refine g_icmp_ge (pc := 110) (tgt := 142) C dX12_thursday_110 (by decide) h (fun h => ?_) (fun h => ?_)
  · refine g_sub [0, 1, 2, 3] rfl ?_
    exact hk0 _ h
  · refine g_iload (pc := 113) C dX12_thursday_113 3 rfl ?_
    refine g_aload_n (pc := 115) C dX12_thursday_115 rfl 0 rfl ?_
    refine g_get (pc := 116) C fl_X12_114 dX12_thursday_116 0 rfl rfl ?_
    refine g_iload (pc := 119) C dX12_thursday_119 4 rfl ?_
    refine g_iald (pc := 121) C dX12_thursday_121 2 rfl h (fun v12 h => ?_)
    refine g_aload_n (pc := 122) C dX12_thursday_122 rfl 0 rfl ?_
    refine g_get (pc := 123) C fl_X12_114 dX12_thursday_123 0 rfl rfl ?_
    refine g_iload (pc := 126) C dX12_thursday_126 2 rfl ?_
    refine g_iald (pc := 128) C dX12_thursday_128 2 rfl h (fun v13 h => ?_)
    refine g_isub (pc := 129) C dX12_thursday_129 ?_
    obtain ⟨u14, hu14, h⟩ := bs h
    refine g_callS (pc := 130) (st := [.int s.1]) (st1 := [.int u14, .int s.1]) (ws' := (W_X12_thursday E o_t a_t t_toldDoors t_barredDoors t_taped t_place0 t_length0 t_fault t_number0 t_open t_codeMany t_waiting t_saidMany t_clauses t_newMany t_rounds t_pinFrom t_pinTimes t_lines t_wasTold t_wasBarred t_goesNow t_jamsNow t_queued t_isKept t_tape t_carriedTo)) C mv_X12_size ms_X12_size ml_X12_405 (c_X12_size X.2.1 E (v12 - v13) u14 hu14) dX12_thursday_130 (by decide) rfl (Nat.le_of_ble_eq_true rfl) [] rfl (by decide) rfl rfl rfl rfl ?_
    refine g_iadd (pc := 133) C dX12_thursday_133 ?_
    refine g_nm h (fun v15 h => ?_)
    refine g_istore (pc := 134) (lv' := [(5, .int v15), (0, .ref o_t), (3, .int x3), (4, .int x4), (6, .int s.2)]) C dX12_thursday_134 (by decide) rfl ?_
    refine g_iincn (pc := 136) (j := 4) (d := 1) (lv' := fun v16 => [(6, .int v16), (5, .int v15), (0, .ref o_t), (3, .int x3), (4, .int x4)]) C dX12_thursday_136 rfl (by decide) (by decide) (fun _ => rfl) h (fun v16 h => ?_)
    refine g_goto (pc := 139) (tgt := 106) C dX12_thursday_139 (by decide) ?_
    refine g_sub [2, 3, 4, 1, 0] rfl ?_
    exact ih _ h
set_option maxHeartbeats 4000000 in
set_option maxRecDepth 100000 in
theorem kL_X12_thursday_93 {X : GC} {E : GE} (C : Cx X E cX12_thursday RX12 2 7) (o_t : Nat) (a_t : Nat → Nat) (t_toldDoors : Int32) (t_barredDoors : Int32) (t_place0 : Int32) (t_length0 : Int32) (t_fault : Int32) (t_number0 : Int32) (t_open : Int32) (t_codeMany : Int32) (t_waiting : Int32) (t_saidMany : Int32) (t_clauses : Int32) (t_newMany : Int32) (t_rounds : Int32) (t_pinFrom : Int32) (t_pinTimes : Int32) (t_lines : Int32) (t_wasTold : Int32) (t_wasBarred : Int32) (t_goesNow : Int32) (t_jamsNow : Int32) (t_queued : Int32) (t_isKept : Int32) (t_taped : Int32) (t_tape : (Nat → Int32)) (t_carriedTo : (Nat → Int32)) {r : Int32 × Int32 × (Nat → Int32)} (hret : RtI X E cX12_thursday .int 0 0 (fun w => w = (W_X12_thursday E o_t a_t t_toldDoors t_barredDoors r.2.1 t_place0 t_length0 t_fault t_number0 t_open t_codeMany t_waiting t_saidMany t_clauses t_newMany t_rounds t_pinFrom t_pinTimes t_lines t_wasTold t_wasBarred t_goesNow t_jamsNow t_queued t_isKept t_tape r.2.2)) r.1) : ∀ (n : Nat) (s : Int32 × Int32), L_X12_thursday_93 t_taped t_tape t_carriedTo n s = some r → Gx X E 0 0 (W_X12_thursday E o_t a_t t_toldDoors t_barredDoors t_taped t_place0 t_length0 t_fault t_number0 t_open t_codeMany t_waiting t_saidMany t_clauses t_newMany t_rounds t_pinFrom t_pinTimes t_lines t_wasTold t_wasBarred t_goesNow t_jamsNow t_queued t_isKept t_tape t_carriedTo) 93 [(0, .ref o_t), (3, .int s.1), (4, .int s.2)] [] := by
  unfold L_X12_thursday_93
  refine lp_ind _ (fun go ih s h => ?_)
  refine g_iload (pc := 93) C dX12_thursday_93 2 rfl ?_
  refine g_bipush (pc := 95) (v := 7) C dX12_thursday_95 (by decide) ?_
  refine g_icmp_ge (pc := 97) (tgt := 155) C dX12_thursday_97 (by decide) h (fun h => ?_) (fun h => ?_)
  · refine g_iload_n (pc := 155) C dX12_thursday_155 rfl 1 rfl ?_
    cases h
    exact hret _ _ _ dX12_thursday_156 rfl rfl
  · refine g_iconst (pc := 100) (v := 0) C dX12_thursday_100 (by decide) ?_
    refine g_istore (pc := 101) (lv' := [(5, .int (0 : Int32)), (0, .ref o_t), (3, .int s.1), (4, .int s.2)]) C dX12_thursday_101 (by decide) rfl ?_
    refine g_iconst (pc := 103) (v := 0) C dX12_thursday_103 (by decide) ?_
    refine g_istore (pc := 104) (lv' := [(6, .int (0 : Int32)), (5, .int (0 : Int32)), (0, .ref o_t), (3, .int s.1), (4, .int s.2)]) C dX12_thursday_104 (by decide) rfl ?_
    refine g_sub [2, 3, 4, 1, 0] rfl ?_
    refine kL_X12_thursday_106 C o_t a_t t_toldDoors t_barredDoors t_place0 t_length0 t_fault t_number0 t_open t_codeMany t_waiting t_saidMany t_clauses t_newMany t_rounds t_pinFrom t_pinTimes t_lines t_wasTold t_wasBarred t_goesNow t_jamsNow t_queued t_isKept t_taped t_tape t_carriedTo s.1 s.2 _ hret (fun s17 h => ?_) _ _ h
    refine g_iload_n (pc := 142) C dX12_thursday_142 rfl 1 rfl ?_
    refine g_iload (pc := 143) C dX12_thursday_143 3 rfl ?_
    obtain ⟨u18, hu18, h⟩ := bs h
    refine g_callS (pc := 145) (st := []) (st1 := [.int u18]) (ws' := (W_X12_thursday E o_t a_t t_toldDoors t_barredDoors t_taped t_place0 t_length0 t_fault t_number0 t_open t_codeMany t_waiting t_saidMany t_clauses t_newMany t_rounds t_pinFrom t_pinTimes t_lines t_wasTold t_wasBarred t_goesNow t_jamsNow t_queued t_isKept t_tape t_carriedTo)) C mv_X12_min ms_X12_min ml_X12_345 (c_X12_min X.2.1 E s.1 s17 u18 hu18) dX12_thursday_145 (by decide) rfl (Nat.le_of_ble_eq_true rfl) [] rfl (by decide) rfl rfl rfl rfl ?_
    refine g_istore_n (pc := 148) (lv' := [(3, .int u18), (0, .ref o_t), (4, .int s.2), (5, .int s17)]) C dX12_thursday_148 rfl (by decide) rfl ?_
    refine g_iincn (pc := 149) (j := 2) (d := 1) (lv' := fun v19 => [(4, .int v19), (3, .int u18), (0, .ref o_t), (5, .int s17)]) C dX12_thursday_149 rfl (by decide) (by decide) (fun _ => rfl) h (fun v19 h => ?_)
    refine g_goto (pc := 152) (tgt := 93) C dX12_thursday_152 (by decide) ?_
    refine g_sub [2, 1, 0] rfl ?_
    exact ih _ h
set_option maxHeartbeats 4000000 in
set_option maxRecDepth 100000 in
theorem c_X12_thursday (l : Launch) (E : GE) (o_t : Nat) (a_t : Nat → Nat) (t_toldDoors : Int32) (t_barredDoors : Int32) (t_taped : Int32) (t_place0 : Int32) (t_length0 : Int32) (t_fault : Int32) (t_number0 : Int32) (t_open : Int32) (t_codeMany : Int32) (t_waiting : Int32) (t_saidMany : Int32) (t_clauses : Int32) (t_newMany : Int32) (t_rounds : Int32) (t_pinFrom : Int32) (t_pinTimes : Int32) (t_lines : Int32) (t_wasTold : Int32) (t_wasBarred : Int32) (t_goesNow : Int32) (t_jamsNow : Int32) (t_queued : Int32) (t_isKept : Int32) (t_tape : (Nat → Int32)) (t_carriedTo : (Nat → Int32)) (r : Int32 × Int32 × (Nat → Int32)) (h : f_X12_thursday t_taped t_tape t_carriedTo = some r) : Cn l E yX12_thursday cX12_thursday 7 (some .int) 2 0 0 [.ref o_t] (W_X12_thursday E o_t a_t t_toldDoors t_barredDoors t_taped t_place0 t_length0 t_fault t_number0 t_open t_codeMany t_waiting t_saidMany t_clauses t_newMany t_rounds t_pinFrom t_pinTimes t_lines t_wasTold t_wasBarred t_goesNow t_jamsNow t_queued t_isKept t_tape t_carriedTo) (fun w => w = (W_X12_thursday E o_t a_t t_toldDoors t_barredDoors r.2.1 t_place0 t_length0 t_fault t_number0 t_open t_codeMany t_waiting t_saidMany t_clauses t_newMany t_rounds t_pinFrom t_pinTimes t_lines t_wasTold t_wasBarred t_goesNow t_jamsNow t_queued t_isKept t_tape r.2.2)) (some (.int r.1)) := by
  refine Cn.ofI (by decide +kernel) (Nat.le_of_ble_eq_true rfl) (fun X hX hR C hret => ?_)
  subst hX
  show Gx X E 0 0 (W_X12_thursday E o_t a_t t_toldDoors t_barredDoors t_taped t_place0 t_length0 t_fault t_number0 t_open t_codeMany t_waiting t_saidMany t_clauses t_newMany t_rounds t_pinFrom t_pinTimes t_lines t_wasTold t_wasBarred t_goesNow t_jamsNow t_queued t_isKept t_tape t_carriedTo) 0 [(0, .ref o_t)] []
  unfold f_X12_thursday at h
  refine g_aload_n (pc := 0) C dX12_thursday_0 rfl 0 rfl ?_
  refine g_get (pc := 1) C fl_X12_139 dX12_thursday_1 0 rfl rfl ?_
  refine g_bipush (pc := 4) (v := 7) C dX12_thursday_4 (by decide) ?_
  refine g_icmp_ge (pc := 6) (tgt := 11) C dX12_thursday_6 (by decide) h (fun h => ?_) (fun h => ?_)
  · refine g_aload_n (pc := 11) C dX12_thursday_11 rfl 0 rfl ?_
    refine g_iconst (pc := 12) (v := 0) C dX12_thursday_12 (by decide) ?_
    refine g_put (pc := 13) (ws' := (W_X12_thursday E o_t a_t t_toldDoors t_barredDoors (0 : Int32) t_place0 t_length0 t_fault t_number0 t_open t_codeMany t_waiting t_saidMany t_clauses t_newMany t_rounds t_pinFrom t_pinTimes t_lines t_wasTold t_wasBarred t_goesNow t_jamsNow t_queued t_isKept t_tape t_carriedTo)) C .int fl_X12_139 dX12_thursday_13 0 rfl (by decide +kernel) rfl rfl (Nat.le_of_ble_eq_true rfl) rfl ?_
    refine g_iconst (pc := 16) (v := 0) C dX12_thursday_16 (by decide) ?_
    refine g_istore_n (pc := 17) (lv' := [(1, .int (0 : Int32)), (0, .ref o_t)]) C dX12_thursday_17 rfl (by decide) rfl ?_
    refine g_iconst (pc := 18) (v := 0) C dX12_thursday_18 (by decide) ?_
    refine g_istore_n (pc := 19) (lv' := [(2, .int (0 : Int32)), (1, .int (0 : Int32)), (0, .ref o_t)]) C dX12_thursday_19 rfl (by decide) rfl ?_
    refine g_sub [2, 1, 0] rfl ?_
    refine kL_X12_thursday_20 C o_t a_t t_toldDoors t_barredDoors t_place0 t_length0 t_fault t_number0 t_open t_codeMany t_waiting t_saidMany t_clauses t_newMany t_rounds t_pinFrom t_pinTimes t_lines t_wasTold t_wasBarred t_goesNow t_jamsNow t_queued t_isKept (0 : Int32) t_tape t_carriedTo _ hret (fun s4 h => ?_) _ _ h
    refine g_iload_n (pc := 40) C dX12_thursday_40 rfl 1 rfl ?_
    refine g_bipush (pc := 41) (v := 7) C dX12_thursday_41 (by decide) ?_
    refine g_irem (pc := 43) C dX12_thursday_43 h (fun v5 h => ?_)
    refine g_if_eq (pc := 44) (tgt := 50) C dX12_thursday_44 (by decide) h (fun h => ?_) (fun h => ?_)
    · refine g_iconst (pc := 50) (v := 0) C dX12_thursday_50 (by decide) ?_
      refine g_istore_n (pc := 51) (lv' := [(2, .int (0 : Int32)), (0, .ref o_t), (1, .int s4)]) C dX12_thursday_51 rfl (by decide) rfl ?_
      refine g_iconst (pc := 52) (v := 0) C dX12_thursday_52 (by decide) ?_
      refine g_istore_n (pc := 53) (lv' := [(3, .int (0 : Int32)), (2, .int (0 : Int32)), (0, .ref o_t), (1, .int s4)]) C dX12_thursday_53 rfl (by decide) rfl ?_
      refine g_sub [2, 3, 1, 0] rfl ?_
      refine kL_X12_thursday_54 C o_t a_t t_toldDoors t_barredDoors t_place0 t_length0 t_fault t_number0 t_open t_codeMany t_waiting t_saidMany t_clauses t_newMany t_rounds t_pinFrom t_pinTimes t_lines t_wasTold t_wasBarred t_goesNow t_jamsNow t_queued t_isKept (0 : Int32) t_tape s4 _ hret (fun s11 h => ?_) _ _ h
      refine g_ldcw (pc := 86) C dX12_thursday_86 ct_X12_383 ?_
      refine g_istore_n (pc := 89) (lv' := [(3, .int (1000000 : Int32)), (0, .ref o_t)]) C dX12_thursday_89 rfl (by decide) rfl ?_
      refine g_iconst (pc := 90) (v := 0) C dX12_thursday_90 (by decide) ?_
      refine g_istore (pc := 91) (lv' := [(4, .int (0 : Int32)), (3, .int (1000000 : Int32)), (0, .ref o_t)]) C dX12_thursday_91 (by decide) rfl ?_
      refine g_sub [2, 1, 0] rfl ?_
      refine kL_X12_thursday_93 C o_t a_t t_toldDoors t_barredDoors t_place0 t_length0 t_fault t_number0 t_open t_codeMany t_waiting t_saidMany t_clauses t_newMany t_rounds t_pinFrom t_pinTimes t_lines t_wasTold t_wasBarred t_goesNow t_jamsNow t_queued t_isKept (0 : Int32) t_tape s11 hret  _ _ h
    · refine g_bipush (pc := 47) (v := -2) C dX12_thursday_47 (by decide) ?_
      cases h
      exact hret _ _ _ dX12_thursday_49 rfl rfl
  · refine g_iconst (pc := 9) (v := -1) C dX12_thursday_9 (by decide) ?_
    cases h
    exact hret _ _ _ dX12_thursday_10 rfl rfl
abbrev W_X12_undo (E : GE) (O_t : Nat) (a_t : Nat → Nat) (t_toldDoors : Int32) (t_barredDoors : Int32) (t_taped : Int32) (t_place0 : Int32) (t_length0 : Int32) (t_fault : Int32) (t_number0 : Int32) (t_open : Int32) (t_codeMany : Int32) (t_waiting : Int32) (t_saidMany : Int32) (t_clauses : Int32) (t_newMany : Int32) (t_rounds : Int32) (t_pinFrom : Int32) (t_pinTimes : Int32) (t_lines : Int32) (t_wasTold : Int32) (t_wasBarred : Int32) (t_goesNow : Int32) (t_jamsNow : Int32) (t_queued : Int32) (t_isKept : Int32) (t_now : (Nat → Int32)) (t_kept : (Nat → Int32)) : va_W := [(O_t, ob_X12 a_t t_toldDoors t_barredDoors t_taped t_place0 t_length0 t_fault t_number0 t_open t_codeMany t_waiting t_saidMany t_clauses t_newMany t_rounds t_pinFrom t_pinTimes t_lines t_wasTold t_wasBarred t_goesNow t_jamsNow t_queued t_isKept), (a_t 0, .inl (E.2.1, 166, .inl t_now)), (a_t 2, .inl (E.2.1, 166, .inl t_kept))]
def f_X12_undo (t_isKept : Int32) (t_now : (Nat → Int32)) (t_kept : (Nat → Int32)) : Option (Int32 × (Nat → Int32)) := if t_isKept = 0 then (some ((0 : Int32), t_now)) else (f_X12_copies 166 166 t_kept t_now).bind fun u1 => some ((1 : Int32), u1)
theorem dX12_undo_0 : decode cX12_undo 0 = .ok (.aload_n 0, 1) := by decide +kernel
theorem dX12_undo_1 : decode cX12_undo 1 = .ok (.getfield 409, 3) := by decide +kernel
theorem dX12_undo_4 : decode cX12_undo 4 = .ok (.ifCond .ne 5, 3) := by decide +kernel
theorem dX12_undo_7 : decode cX12_undo 7 = .ok (.iconst 0, 1) := by decide +kernel
theorem dX12_undo_8 : decode cX12_undo 8 = .ok (.ireturn, 1) := by decide +kernel
theorem dX12_undo_9 : decode cX12_undo 9 = .ok (.aload_n 0, 1) := by decide +kernel
theorem dX12_undo_10 : decode cX12_undo 10 = .ok (.getfield 16, 3) := by decide +kernel
theorem dX12_undo_13 : decode cX12_undo 13 = .ok (.aload_n 0, 1) := by decide +kernel
theorem dX12_undo_14 : decode cX12_undo 14 = .ok (.getfield 7, 3) := by decide +kernel
theorem dX12_undo_17 : decode cX12_undo 17 = .ok (.invokestatic 298, 3) := by decide +kernel
theorem dX12_undo_20 : decode cX12_undo 20 = .ok (.iconst 1, 1) := by decide +kernel
theorem dX12_undo_21 : decode cX12_undo 21 = .ok (.ireturn, 1) := by decide +kernel
set_option maxHeartbeats 4000000 in
set_option maxRecDepth 100000 in
theorem c_X12_undo (l : Launch) (E : GE) (o_t : Nat) (a_t : Nat → Nat) (t_toldDoors : Int32) (t_barredDoors : Int32) (t_taped : Int32) (t_place0 : Int32) (t_length0 : Int32) (t_fault : Int32) (t_number0 : Int32) (t_open : Int32) (t_codeMany : Int32) (t_waiting : Int32) (t_saidMany : Int32) (t_clauses : Int32) (t_newMany : Int32) (t_rounds : Int32) (t_pinFrom : Int32) (t_pinTimes : Int32) (t_lines : Int32) (t_wasTold : Int32) (t_wasBarred : Int32) (t_goesNow : Int32) (t_jamsNow : Int32) (t_queued : Int32) (t_isKept : Int32) (t_now : (Nat → Int32)) (t_kept : (Nat → Int32)) (r : Int32 × (Nat → Int32)) (h : f_X12_undo t_isKept t_now t_kept = some r) : Cn l E yX12_undo cX12_undo 1 (some .boolean) 2 0 0 [.ref o_t] (W_X12_undo E o_t a_t t_toldDoors t_barredDoors t_taped t_place0 t_length0 t_fault t_number0 t_open t_codeMany t_waiting t_saidMany t_clauses t_newMany t_rounds t_pinFrom t_pinTimes t_lines t_wasTold t_wasBarred t_goesNow t_jamsNow t_queued t_isKept t_now t_kept) (fun w => w = (W_X12_undo E o_t a_t t_toldDoors t_barredDoors t_taped t_place0 t_length0 t_fault t_number0 t_open t_codeMany t_waiting t_saidMany t_clauses t_newMany t_rounds t_pinFrom t_pinTimes t_lines t_wasTold t_wasBarred t_goesNow t_jamsNow t_queued t_isKept r.2 t_kept)) (some (.int r.1)) := by
  refine Cn.ofI (by decide +kernel) (Nat.le_of_ble_eq_true rfl) (fun X hX hR C hret => ?_)
  subst hX
  show Gx X E 0 0 (W_X12_undo E o_t a_t t_toldDoors t_barredDoors t_taped t_place0 t_length0 t_fault t_number0 t_open t_codeMany t_waiting t_saidMany t_clauses t_newMany t_rounds t_pinFrom t_pinTimes t_lines t_wasTold t_wasBarred t_goesNow t_jamsNow t_queued t_isKept t_now t_kept) 0 [(0, .ref o_t)] []
  unfold f_X12_undo at h
  refine g_aload_n (pc := 0) C dX12_undo_0 rfl 0 rfl ?_
  refine g_get (pc := 1) C fl_X12_409 dX12_undo_1 0 rfl rfl ?_
  refine g_if_ne (pc := 4) (tgt := 9) C dX12_undo_4 (by decide) h (fun h => ?_) (fun h => ?_)
  · refine g_aload_n (pc := 9) C dX12_undo_9 rfl 0 rfl ?_
    refine g_get (pc := 10) C fl_X12_16 dX12_undo_10 0 rfl rfl ?_
    refine g_aload_n (pc := 13) C dX12_undo_13 rfl 0 rfl ?_
    refine g_get (pc := 14) C fl_X12_7 dX12_undo_14 0 rfl rfl ?_
    obtain ⟨u1, hu1, h⟩ := bs h
    refine g_callS (pc := 17) (st := []) (st1 := []) (ws' := (W_X12_undo E o_t a_t t_toldDoors t_barredDoors t_taped t_place0 t_length0 t_fault t_number0 t_open t_codeMany t_waiting t_saidMany t_clauses t_newMany t_rounds t_pinFrom t_pinTimes t_lines t_wasTold t_wasBarred t_goesNow t_jamsNow t_queued t_isKept u1 t_kept)) C mv_X12_copies ms_X12_copies ml_X12_298 (c_X12_copies X.2.1 E (a_t 2) 166 (a_t 0) 166 t_kept t_now u1 hu1) dX12_undo_17 (by decide) rfl (Nat.le_of_ble_eq_true rfl) [2, 1] rfl (by decide) rfl rfl rfl rfl ?_
    refine g_iconst (pc := 20) (v := 1) C dX12_undo_20 (by decide) ?_
    cases h
    exact hret _ _ _ dX12_undo_21 nb1 rfl
  · refine g_iconst (pc := 7) (v := 0) C dX12_undo_7 (by decide) ?_
    cases h
    exact hret _ _ _ dX12_undo_8 nb0 rfl
abbrev W_X12_woman (E : GE) (O_t : Nat) (a_t : Nat → Nat) (t_toldDoors : Int32) (t_barredDoors : Int32) (t_taped : Int32) (t_place0 : Int32) (t_length0 : Int32) (t_fault : Int32) (t_number0 : Int32) (t_open : Int32) (t_codeMany : Int32) (t_waiting : Int32) (t_saidMany : Int32) (t_clauses : Int32) (t_newMany : Int32) (t_rounds : Int32) (t_pinFrom : Int32) (t_pinTimes : Int32) (t_lines : Int32) (t_wasTold : Int32) (t_wasBarred : Int32) (t_goesNow : Int32) (t_jamsNow : Int32) (t_queued : Int32) (t_isKept : Int32) (t_now : (Nat → Int32)) : va_W := [(O_t, ob_X12 a_t t_toldDoors t_barredDoors t_taped t_place0 t_length0 t_fault t_number0 t_open t_codeMany t_waiting t_saidMany t_clauses t_newMany t_rounds t_pinFrom t_pinTimes t_lines t_wasTold t_wasBarred t_goesNow t_jamsNow t_queued t_isKept), (a_t 0, .inl (E.2.1, 166, .inl t_now))]
def f_X12_woman (t_now : (Nat → Int32)) (x1 : Int32) (x2 : Int32) : Option (Int32 × (Nat → Int32)) := (f_X12_in x1 (0 : Int32) (9 : Int32)).bind fun u1 => if u1 = 0 then (some ((0 : Int32), t_now)) else (f_X12_in x2 (0 : Int32) (15 : Int32)).bind fun u2 => if u2 = 0 then (some ((0 : Int32), t_now)) else wr t_now 166 ((24 : Int32) + x1) (1 : Int32) fun g3 => wr g3 166 ((34 : Int32) + x1) x2 fun g4 => some ((1 : Int32), g4)
theorem dX12_woman_0 : decode cX12_woman 0 = .ok (.iload_n 1, 1) := by decide +kernel
theorem dX12_woman_1 : decode cX12_woman 1 = .ok (.iconst 0, 1) := by decide +kernel
theorem dX12_woman_2 : decode cX12_woman 2 = .ok (.bipush 9, 2) := by decide +kernel
theorem dX12_woman_4 : decode cX12_woman 4 = .ok (.invokestatic 117, 3) := by decide +kernel
theorem dX12_woman_7 : decode cX12_woman 7 = .ok (.ifCond .eq 13, 3) := by decide +kernel
theorem dX12_woman_10 : decode cX12_woman 10 = .ok (.iload_n 2, 1) := by decide +kernel
theorem dX12_woman_11 : decode cX12_woman 11 = .ok (.iconst 0, 1) := by decide +kernel
theorem dX12_woman_12 : decode cX12_woman 12 = .ok (.bipush 15, 2) := by decide +kernel
theorem dX12_woman_14 : decode cX12_woman 14 = .ok (.invokestatic 117, 3) := by decide +kernel
theorem dX12_woman_17 : decode cX12_woman 17 = .ok (.ifCond .ne 5, 3) := by decide +kernel
theorem dX12_woman_20 : decode cX12_woman 20 = .ok (.iconst 0, 1) := by decide +kernel
theorem dX12_woman_21 : decode cX12_woman 21 = .ok (.ireturn, 1) := by decide +kernel
theorem dX12_woman_22 : decode cX12_woman 22 = .ok (.aload_n 0, 1) := by decide +kernel
theorem dX12_woman_23 : decode cX12_woman 23 = .ok (.getfield 7, 3) := by decide +kernel
theorem dX12_woman_26 : decode cX12_woman 26 = .ok (.bipush 24, 2) := by decide +kernel
theorem dX12_woman_28 : decode cX12_woman 28 = .ok (.iload_n 1, 1) := by decide +kernel
theorem dX12_woman_29 : decode cX12_woman 29 = .ok (.iadd, 1) := by decide +kernel
theorem dX12_woman_30 : decode cX12_woman 30 = .ok (.iconst 1, 1) := by decide +kernel
theorem dX12_woman_31 : decode cX12_woman 31 = .ok (.iastore, 1) := by decide +kernel
theorem dX12_woman_32 : decode cX12_woman 32 = .ok (.aload_n 0, 1) := by decide +kernel
theorem dX12_woman_33 : decode cX12_woman 33 = .ok (.getfield 7, 3) := by decide +kernel
theorem dX12_woman_36 : decode cX12_woman 36 = .ok (.bipush 34, 2) := by decide +kernel
theorem dX12_woman_38 : decode cX12_woman 38 = .ok (.iload_n 1, 1) := by decide +kernel
theorem dX12_woman_39 : decode cX12_woman 39 = .ok (.iadd, 1) := by decide +kernel
theorem dX12_woman_40 : decode cX12_woman 40 = .ok (.iload_n 2, 1) := by decide +kernel
theorem dX12_woman_41 : decode cX12_woman 41 = .ok (.iastore, 1) := by decide +kernel
theorem dX12_woman_42 : decode cX12_woman 42 = .ok (.iconst 1, 1) := by decide +kernel
theorem dX12_woman_43 : decode cX12_woman 43 = .ok (.ireturn, 1) := by decide +kernel
set_option maxHeartbeats 4000000 in
set_option maxRecDepth 100000 in
theorem c_X12_woman (l : Launch) (E : GE) (o_t : Nat) (a_t : Nat → Nat) (t_toldDoors : Int32) (t_barredDoors : Int32) (t_taped : Int32) (t_place0 : Int32) (t_length0 : Int32) (t_fault : Int32) (t_number0 : Int32) (t_open : Int32) (t_codeMany : Int32) (t_waiting : Int32) (t_saidMany : Int32) (t_clauses : Int32) (t_newMany : Int32) (t_rounds : Int32) (t_pinFrom : Int32) (t_pinTimes : Int32) (t_lines : Int32) (t_wasTold : Int32) (t_wasBarred : Int32) (t_goesNow : Int32) (t_jamsNow : Int32) (t_queued : Int32) (t_isKept : Int32) (t_now : (Nat → Int32)) (x1 : Int32) (x2 : Int32) (r : Int32 × (Nat → Int32)) (h : f_X12_woman t_now x1 x2 = some r) : Cn l E yX12_woman cX12_woman 3 (some .boolean) 2 0 0 [.ref o_t, .int x1, .int x2] (W_X12_woman E o_t a_t t_toldDoors t_barredDoors t_taped t_place0 t_length0 t_fault t_number0 t_open t_codeMany t_waiting t_saidMany t_clauses t_newMany t_rounds t_pinFrom t_pinTimes t_lines t_wasTold t_wasBarred t_goesNow t_jamsNow t_queued t_isKept t_now) (fun w => w = (W_X12_woman E o_t a_t t_toldDoors t_barredDoors t_taped t_place0 t_length0 t_fault t_number0 t_open t_codeMany t_waiting t_saidMany t_clauses t_newMany t_rounds t_pinFrom t_pinTimes t_lines t_wasTold t_wasBarred t_goesNow t_jamsNow t_queued t_isKept r.2)) (some (.int r.1)) := by
  refine Cn.ofI (by decide +kernel) (Nat.le_of_ble_eq_true rfl) (fun X hX hR C hret => ?_)
  subst hX
  show Gx X E 0 0 (W_X12_woman E o_t a_t t_toldDoors t_barredDoors t_taped t_place0 t_length0 t_fault t_number0 t_open t_codeMany t_waiting t_saidMany t_clauses t_newMany t_rounds t_pinFrom t_pinTimes t_lines t_wasTold t_wasBarred t_goesNow t_jamsNow t_queued t_isKept t_now) 0 [(0, .ref o_t), (1, .int x1), (2, .int x2)] []
  unfold f_X12_woman at h
  refine g_iload_n (pc := 0) C dX12_woman_0 rfl 1 rfl ?_
  refine g_iconst (pc := 1) (v := 0) C dX12_woman_1 (by decide) ?_
  refine g_bipush (pc := 2) (v := 9) C dX12_woman_2 (by decide) ?_
  obtain ⟨u1, hu1, h⟩ := bs h
  refine g_callS (pc := 4) (st := []) (st1 := [.int u1]) (ws' := (W_X12_woman E o_t a_t t_toldDoors t_barredDoors t_taped t_place0 t_length0 t_fault t_number0 t_open t_codeMany t_waiting t_saidMany t_clauses t_newMany t_rounds t_pinFrom t_pinTimes t_lines t_wasTold t_wasBarred t_goesNow t_jamsNow t_queued t_isKept t_now)) C mv_X12_in ms_X12_in ml_X12_117 (c_X12_in X.2.1 E x1 (0 : Int32) (9 : Int32) u1 hu1) dX12_woman_4 (by decide) rfl (Nat.le_of_ble_eq_true rfl) [] rfl (by decide) rfl rfl rfl rfl ?_
  refine g_if_eq (pc := 7) (tgt := 20) C dX12_woman_7 (by decide) h (fun h => ?_) (fun h => ?_)
  · refine g_iconst (pc := 20) (v := 0) C dX12_woman_20 (by decide) ?_
    cases h
    exact hret _ _ _ dX12_woman_21 nb0 rfl
  · refine g_iload_n (pc := 10) C dX12_woman_10 rfl 2 rfl ?_
    refine g_iconst (pc := 11) (v := 0) C dX12_woman_11 (by decide) ?_
    refine g_bipush (pc := 12) (v := 15) C dX12_woman_12 (by decide) ?_
    obtain ⟨u2, hu2, h⟩ := bs h
    refine g_callS (pc := 14) (st := []) (st1 := [.int u2]) (ws' := (W_X12_woman E o_t a_t t_toldDoors t_barredDoors t_taped t_place0 t_length0 t_fault t_number0 t_open t_codeMany t_waiting t_saidMany t_clauses t_newMany t_rounds t_pinFrom t_pinTimes t_lines t_wasTold t_wasBarred t_goesNow t_jamsNow t_queued t_isKept t_now)) C mv_X12_in ms_X12_in ml_X12_117 (c_X12_in X.2.1 E x2 (0 : Int32) (15 : Int32) u2 hu2) dX12_woman_14 (by decide) rfl (Nat.le_of_ble_eq_true rfl) [] rfl (by decide) rfl rfl rfl rfl ?_
    refine g_if_ne (pc := 17) (tgt := 22) C dX12_woman_17 (by decide) h (fun h => ?_) (fun h => ?_)
    · refine g_aload_n (pc := 22) C dX12_woman_22 rfl 0 rfl ?_
      refine g_get (pc := 23) C fl_X12_7 dX12_woman_23 0 rfl rfl ?_
      refine g_bipush (pc := 26) (v := 24) C dX12_woman_26 (by decide) ?_
      refine g_iload_n (pc := 28) C dX12_woman_28 rfl 1 rfl ?_
      refine g_iadd (pc := 29) C dX12_woman_29 ?_
      refine g_iconst (pc := 30) (v := 1) C dX12_woman_30 (by decide) ?_
      refine g_iast (pc := 31) C dX12_woman_31 1 rfl h (fun g3 h => ?_)
      refine g_ws (ws' := (W_X12_woman E o_t a_t t_toldDoors t_barredDoors t_taped t_place0 t_length0 t_fault t_number0 t_open t_codeMany t_waiting t_saidMany t_clauses t_newMany t_rounds t_pinFrom t_pinTimes t_lines t_wasTold t_wasBarred t_goesNow t_jamsNow t_queued t_isKept g3)) rfl ?_
      refine g_aload_n (pc := 32) C dX12_woman_32 rfl 0 rfl ?_
      refine g_get (pc := 33) C fl_X12_7 dX12_woman_33 0 rfl rfl ?_
      refine g_bipush (pc := 36) (v := 34) C dX12_woman_36 (by decide) ?_
      refine g_iload_n (pc := 38) C dX12_woman_38 rfl 1 rfl ?_
      refine g_iadd (pc := 39) C dX12_woman_39 ?_
      refine g_iload_n (pc := 40) C dX12_woman_40 rfl 2 rfl ?_
      refine g_iast (pc := 41) C dX12_woman_41 1 rfl h (fun g4 h => ?_)
      refine g_ws (ws' := (W_X12_woman E o_t a_t t_toldDoors t_barredDoors t_taped t_place0 t_length0 t_fault t_number0 t_open t_codeMany t_waiting t_saidMany t_clauses t_newMany t_rounds t_pinFrom t_pinTimes t_lines t_wasTold t_wasBarred t_goesNow t_jamsNow t_queued t_isKept g4)) rfl ?_
      refine g_iconst (pc := 42) (v := 1) C dX12_woman_42 (by decide) ?_
      cases h
      exact hret _ _ _ dX12_woman_43 nb1 rfl
    · refine g_iconst (pc := 20) (v := 0) C dX12_woman_20 (by decide) ?_
      cases h
      exact hret _ _ _ dX12_woman_21 nb0 rfl
abbrev W_X12_areEnough (E : GE) (O_t : Nat) (a_t : Nat → Nat) (t_toldDoors : Int32) (t_barredDoors : Int32) (t_taped : Int32) (t_place0 : Int32) (t_length0 : Int32) (t_fault : Int32) (t_number0 : Int32) (t_open : Int32) (t_codeMany : Int32) (t_waiting : Int32) (t_saidMany : Int32) (t_clauses : Int32) (t_newMany : Int32) (t_rounds : Int32) (t_pinFrom : Int32) (t_pinTimes : Int32) (t_lines : Int32) (t_wasTold : Int32) (t_wasBarred : Int32) (t_goesNow : Int32) (t_jamsNow : Int32) (t_queued : Int32) (t_isKept : Int32) (t_prongsOf : (Nat → Int32)) (t_wardsOf : (Nat → Int32)) : va_W := [(O_t, ob_X12 a_t t_toldDoors t_barredDoors t_taped t_place0 t_length0 t_fault t_number0 t_open t_codeMany t_waiting t_saidMany t_clauses t_newMany t_rounds t_pinFrom t_pinTimes t_lines t_wasTold t_wasBarred t_goesNow t_jamsNow t_queued t_isKept), (a_t 3, .inl (E.2.1, 6, .inl t_prongsOf)), (a_t 6, .inl (E.2.1, 24, .inl t_wardsOf))]
def L_X12_areEnough_2 (t_toldDoors : Int32) (t_prongsOf : (Nat → Int32)) (t_wardsOf : (Nat → Int32)) (x1 : Int32) : Nat → Int32 → Option (Int32) := lp fun go s => if (24 : Int32) ≤ s then (some (1 : Int32)) else (f_X12_isDoor t_toldDoors s).bind fun u1 => if u1 = 0 then (nm (s + (1 : Int32)) fun v2 => go v2) else (f_X12_fitting t_prongsOf t_wardsOf s).bind fun u3 => if (u3 &&& x1) = 0 then (some (0 : Int32)) else nm (s + (1 : Int32)) fun v4 => go v4
def f_X12_areEnough (t_toldDoors : Int32) (t_prongsOf : (Nat → Int32)) (t_wardsOf : (Nat → Int32)) (x1 : Int32) : Option (Int32) := L_X12_areEnough_2 t_toldDoors t_prongsOf t_wardsOf x1 fu (0 : Int32)
theorem dX12_areEnough_0 : decode cX12_areEnough 0 = .ok (.iconst 0, 1) := by decide +kernel
theorem dX12_areEnough_1 : decode cX12_areEnough 1 = .ok (.istore_n 2, 1) := by decide +kernel
theorem dX12_areEnough_2 : decode cX12_areEnough 2 = .ok (.iload_n 2, 1) := by decide +kernel
theorem dX12_areEnough_3 : decode cX12_areEnough 3 = .ok (.bipush 24, 2) := by decide +kernel
theorem dX12_areEnough_5 : decode cX12_areEnough 5 = .ok (.if_icmp .ge 29, 3) := by decide +kernel
theorem dX12_areEnough_8 : decode cX12_areEnough 8 = .ok (.aload_n 0, 1) := by decide +kernel
theorem dX12_areEnough_9 : decode cX12_areEnough 9 = .ok (.iload_n 2, 1) := by decide +kernel
theorem dX12_areEnough_10 : decode cX12_areEnough 10 = .ok (.invokevirtual 129, 3) := by decide +kernel
theorem dX12_areEnough_13 : decode cX12_areEnough 13 = .ok (.ifCond .eq 15, 3) := by decide +kernel
theorem dX12_areEnough_16 : decode cX12_areEnough 16 = .ok (.aload_n 0, 1) := by decide +kernel
theorem dX12_areEnough_17 : decode cX12_areEnough 17 = .ok (.iload_n 2, 1) := by decide +kernel
theorem dX12_areEnough_18 : decode cX12_areEnough 18 = .ok (.invokevirtual 360, 3) := by decide +kernel
theorem dX12_areEnough_21 : decode cX12_areEnough 21 = .ok (.iload_n 1, 1) := by decide +kernel
theorem dX12_areEnough_22 : decode cX12_areEnough 22 = .ok (.iand, 1) := by decide +kernel
theorem dX12_areEnough_23 : decode cX12_areEnough 23 = .ok (.ifCond .ne 5, 3) := by decide +kernel
theorem dX12_areEnough_26 : decode cX12_areEnough 26 = .ok (.iconst 0, 1) := by decide +kernel
theorem dX12_areEnough_27 : decode cX12_areEnough 27 = .ok (.ireturn, 1) := by decide +kernel
theorem dX12_areEnough_28 : decode cX12_areEnough 28 = .ok (.iinc 2 1, 3) := by decide +kernel
theorem dX12_areEnough_31 : decode cX12_areEnough 31 = .ok (.goto (-29), 3) := by decide +kernel
theorem dX12_areEnough_34 : decode cX12_areEnough 34 = .ok (.iconst 1, 1) := by decide +kernel
theorem dX12_areEnough_35 : decode cX12_areEnough 35 = .ok (.ireturn, 1) := by decide +kernel
set_option maxHeartbeats 4000000 in
set_option maxRecDepth 100000 in
theorem kL_X12_areEnough_2 {X : GC} {E : GE} (C : Cx X E cX12_areEnough RX12 3 3) (o_t : Nat) (a_t : Nat → Nat) (t_barredDoors : Int32) (t_taped : Int32) (t_place0 : Int32) (t_length0 : Int32) (t_fault : Int32) (t_number0 : Int32) (t_open : Int32) (t_codeMany : Int32) (t_waiting : Int32) (t_saidMany : Int32) (t_clauses : Int32) (t_newMany : Int32) (t_rounds : Int32) (t_pinFrom : Int32) (t_pinTimes : Int32) (t_lines : Int32) (t_wasTold : Int32) (t_wasBarred : Int32) (t_goesNow : Int32) (t_jamsNow : Int32) (t_queued : Int32) (t_isKept : Int32) (t_toldDoors : Int32) (t_prongsOf : (Nat → Int32)) (t_wardsOf : (Nat → Int32)) (x1 : Int32) {r : Int32} (hret : RtI X E cX12_areEnough .boolean 0 0 (fun w => w = (W_X12_areEnough E o_t a_t t_toldDoors t_barredDoors t_taped t_place0 t_length0 t_fault t_number0 t_open t_codeMany t_waiting t_saidMany t_clauses t_newMany t_rounds t_pinFrom t_pinTimes t_lines t_wasTold t_wasBarred t_goesNow t_jamsNow t_queued t_isKept t_prongsOf t_wardsOf)) r) : ∀ (n : Nat) (s : Int32), L_X12_areEnough_2 t_toldDoors t_prongsOf t_wardsOf x1 n s = some r → Gx X E 0 0 (W_X12_areEnough E o_t a_t t_toldDoors t_barredDoors t_taped t_place0 t_length0 t_fault t_number0 t_open t_codeMany t_waiting t_saidMany t_clauses t_newMany t_rounds t_pinFrom t_pinTimes t_lines t_wasTold t_wasBarred t_goesNow t_jamsNow t_queued t_isKept t_prongsOf t_wardsOf) 2 [(0, .ref o_t), (1, .int x1), (2, .int s)] [] := by
  unfold L_X12_areEnough_2
  refine lp_ind _ (fun go ih s h => ?_)
  refine g_iload_n (pc := 2) C dX12_areEnough_2 rfl 2 rfl ?_
  refine g_bipush (pc := 3) (v := 24) C dX12_areEnough_3 (by decide) ?_
  refine g_icmp_ge (pc := 5) (tgt := 34) C dX12_areEnough_5 (by decide) h (fun h => ?_) (fun h => ?_)
  · refine g_iconst (pc := 34) (v := 1) C dX12_areEnough_34 (by decide) ?_
    cases h
    exact hret _ _ _ dX12_areEnough_35 nb1 rfl
  · refine g_aload_n (pc := 8) C dX12_areEnough_8 rfl 0 rfl ?_
    refine g_iload_n (pc := 9) C dX12_areEnough_9 rfl 2 rfl ?_
    obtain ⟨u1, hu1, h⟩ := bs h
    refine g_callV (pc := 10) (st := []) (st1 := [.int u1]) (ws' := (W_X12_areEnough E o_t a_t t_toldDoors t_barredDoors t_taped t_place0 t_length0 t_fault t_number0 t_open t_codeMany t_waiting t_saidMany t_clauses t_newMany t_rounds t_pinFrom t_pinTimes t_lines t_wasTold t_wasBarred t_goesNow t_jamsNow t_queued t_isKept t_prongsOf t_wardsOf)) C mv_X12_isDoor mi_X12_isDoor ml_X12_129 (c_X12_isDoor X.2.1 E o_t a_t t_toldDoors t_barredDoors t_taped t_place0 t_length0 t_fault t_number0 t_open t_codeMany t_waiting t_saidMany t_clauses t_newMany t_rounds t_pinFrom t_pinTimes t_lines t_wasTold t_wasBarred t_goesNow t_jamsNow t_queued t_isKept s u1 hu1) dX12_areEnough_10 (by decide) rfl (Nat.le_of_ble_eq_true rfl) 0 11 rfl rfl [0] rfl (by decide) rfl rfl rfl rfl ?_
    refine g_if_eq (pc := 13) (tgt := 28) C dX12_areEnough_13 (by decide) h (fun h => ?_) (fun h => ?_)
    · refine g_iincn (pc := 28) (j := 2) (d := 1) (lv' := fun v2 => [(2, .int v2), (0, .ref o_t), (1, .int x1)]) C dX12_areEnough_28 rfl (by decide) (by decide) (fun _ => rfl) h (fun v2 h => ?_)
      refine g_goto (pc := 31) (tgt := 2) C dX12_areEnough_31 (by decide) ?_
      refine g_sub [1, 2, 0] rfl ?_
      exact ih _ h
    · refine g_aload_n (pc := 16) C dX12_areEnough_16 rfl 0 rfl ?_
      refine g_iload_n (pc := 17) C dX12_areEnough_17 rfl 2 rfl ?_
      obtain ⟨u3, hu3, h⟩ := bs h
      refine g_callV (pc := 18) (st := []) (st1 := [.int u3]) (ws' := (W_X12_areEnough E o_t a_t t_toldDoors t_barredDoors t_taped t_place0 t_length0 t_fault t_number0 t_open t_codeMany t_waiting t_saidMany t_clauses t_newMany t_rounds t_pinFrom t_pinTimes t_lines t_wasTold t_wasBarred t_goesNow t_jamsNow t_queued t_isKept t_prongsOf t_wardsOf)) C mv_X12_fitting mi_X12_fitting ml_X12_360 (c_X12_fitting X.2.1 E o_t a_t t_toldDoors t_barredDoors t_taped t_place0 t_length0 t_fault t_number0 t_open t_codeMany t_waiting t_saidMany t_clauses t_newMany t_rounds t_pinFrom t_pinTimes t_lines t_wasTold t_wasBarred t_goesNow t_jamsNow t_queued t_isKept t_prongsOf t_wardsOf s u3 hu3) dX12_areEnough_18 (by decide) rfl (Nat.le_of_ble_eq_true rfl) 0 11 rfl rfl [0, 1, 2] rfl (by decide) rfl rfl rfl rfl ?_
      refine g_iload_n (pc := 21) C dX12_areEnough_21 rfl 1 rfl ?_
      refine g_iand (pc := 22) C dX12_areEnough_22 ?_
      refine g_if_ne (pc := 23) (tgt := 28) C dX12_areEnough_23 (by decide) h (fun h => ?_) (fun h => ?_)
      · refine g_iincn (pc := 28) (j := 2) (d := 1) (lv' := fun v4 => [(2, .int v4), (0, .ref o_t), (1, .int x1)]) C dX12_areEnough_28 rfl (by decide) (by decide) (fun _ => rfl) h (fun v4 h => ?_)
        refine g_goto (pc := 31) (tgt := 2) C dX12_areEnough_31 (by decide) ?_
        refine g_sub [1, 2, 0] rfl ?_
        exact ih _ h
      · refine g_iconst (pc := 26) (v := 0) C dX12_areEnough_26 (by decide) ?_
        cases h
        exact hret _ _ _ dX12_areEnough_27 nb0 rfl
set_option maxHeartbeats 4000000 in
set_option maxRecDepth 100000 in
theorem c_X12_areEnough (l : Launch) (E : GE) (o_t : Nat) (a_t : Nat → Nat) (t_toldDoors : Int32) (t_barredDoors : Int32) (t_taped : Int32) (t_place0 : Int32) (t_length0 : Int32) (t_fault : Int32) (t_number0 : Int32) (t_open : Int32) (t_codeMany : Int32) (t_waiting : Int32) (t_saidMany : Int32) (t_clauses : Int32) (t_newMany : Int32) (t_rounds : Int32) (t_pinFrom : Int32) (t_pinTimes : Int32) (t_lines : Int32) (t_wasTold : Int32) (t_wasBarred : Int32) (t_goesNow : Int32) (t_jamsNow : Int32) (t_queued : Int32) (t_isKept : Int32) (t_prongsOf : (Nat → Int32)) (t_wardsOf : (Nat → Int32)) (x1 : Int32) (r : Int32) (h : f_X12_areEnough t_toldDoors t_prongsOf t_wardsOf x1 = some r) : Cn l E yX12_areEnough cX12_areEnough 3 (some .boolean) 3 0 0 [.ref o_t, .int x1] (W_X12_areEnough E o_t a_t t_toldDoors t_barredDoors t_taped t_place0 t_length0 t_fault t_number0 t_open t_codeMany t_waiting t_saidMany t_clauses t_newMany t_rounds t_pinFrom t_pinTimes t_lines t_wasTold t_wasBarred t_goesNow t_jamsNow t_queued t_isKept t_prongsOf t_wardsOf) (fun w => w = (W_X12_areEnough E o_t a_t t_toldDoors t_barredDoors t_taped t_place0 t_length0 t_fault t_number0 t_open t_codeMany t_waiting t_saidMany t_clauses t_newMany t_rounds t_pinFrom t_pinTimes t_lines t_wasTold t_wasBarred t_goesNow t_jamsNow t_queued t_isKept t_prongsOf t_wardsOf)) (some (.int r)) := by
  refine Cn.ofI (by decide +kernel) (Nat.le_of_ble_eq_true rfl) (fun X hX hR C hret => ?_)
  subst hX
  show Gx X E 0 0 (W_X12_areEnough E o_t a_t t_toldDoors t_barredDoors t_taped t_place0 t_length0 t_fault t_number0 t_open t_codeMany t_waiting t_saidMany t_clauses t_newMany t_rounds t_pinFrom t_pinTimes t_lines t_wasTold t_wasBarred t_goesNow t_jamsNow t_queued t_isKept t_prongsOf t_wardsOf) 0 [(0, .ref o_t), (1, .int x1)] []
  unfold f_X12_areEnough at h
  refine g_iconst (pc := 0) (v := 0) C dX12_areEnough_0 (by decide) ?_
  refine g_istore_n (pc := 1) (lv' := [(2, .int (0 : Int32)), (0, .ref o_t), (1, .int x1)]) C dX12_areEnough_1 rfl (by decide) rfl ?_
  refine g_sub [1, 2, 0] rfl ?_
  refine kL_X12_areEnough_2 C o_t a_t t_barredDoors t_taped t_place0 t_length0 t_fault t_number0 t_open t_codeMany t_waiting t_saidMany t_clauses t_newMany t_rounds t_pinFrom t_pinTimes t_lines t_wasTold t_wasBarred t_goesNow t_jamsNow t_queued t_isKept t_toldDoors t_prongsOf t_wardsOf x1 hret  _ _ h
abbrev W_X12_bent (E : GE) (O_t : Nat) (a_t : Nat → Nat) (t_toldDoors : Int32) (t_barredDoors : Int32) (t_taped : Int32) (t_place0 : Int32) (t_length0 : Int32) (t_fault : Int32) (t_number0 : Int32) (t_open : Int32) (t_codeMany : Int32) (t_waiting : Int32) (t_saidMany : Int32) (t_clauses : Int32) (t_newMany : Int32) (t_rounds : Int32) (t_pinFrom : Int32) (t_pinTimes : Int32) (t_lines : Int32) (t_wasTold : Int32) (t_wasBarred : Int32) (t_goesNow : Int32) (t_jamsNow : Int32) (t_queued : Int32) (t_isKept : Int32) (t_now : (Nat → Int32)) (t_prongsOf : (Nat → Int32)) (t_wardsOf : (Nat → Int32)) (t_tape : (Nat → Int32)) (t_needOf : (Nat → Int32)) : va_W := [(O_t, ob_X12 a_t t_toldDoors t_barredDoors t_taped t_place0 t_length0 t_fault t_number0 t_open t_codeMany t_waiting t_saidMany t_clauses t_newMany t_rounds t_pinFrom t_pinTimes t_lines t_wasTold t_wasBarred t_goesNow t_jamsNow t_queued t_isKept), (a_t 0, .inl (E.2.1, 166, .inl t_now)), (a_t 3, .inl (E.2.1, 6, .inl t_prongsOf)), (a_t 6, .inl (E.2.1, 24, .inl t_wardsOf)), (a_t 13, .inl (E.2.2.1, 260, .inl t_tape)), (a_t 54, .inl (E.2.1, 6, .inl t_needOf))]
def L_X12_bent_31 (t_toldDoors : Int32) (t_taped : Int32) (t_now : (Nat → Int32)) (t_prongsOf : (Nat → Int32)) (t_wardsOf : (Nat → Int32)) (t_tape : (Nat → Int32)) (x1 : Int32) (x2 : Int32) (k0 : (Nat → Int32) → Option (Int32 × Int32 × (Nat → Int32))) : Nat → Int32 × (Nat → Int32) → Option (Int32 × Int32 × (Nat → Int32)) := lp fun go s => if (6 : Int32) ≤ s.1 then (k0 s.2) else wr s.2 6 s.1 (0 : Int32) fun g2 => nm (s.1 + (1 : Int32)) fun v3 => go (v3, g2)
def L_X12_bent_52 (t_toldDoors : Int32) (t_taped : Int32) (t_now : (Nat → Int32)) (t_prongsOf : (Nat → Int32)) (t_wardsOf : (Nat → Int32)) (t_tape : (Nat → Int32)) (t_needOf : (Nat → Int32)) (x1 : Int32) (x2 : Int32) (k0 : Unit → Option (Int32 × Int32 × (Nat → Int32))) : Nat → Int32 → Option (Int32 × Int32 × (Nat → Int32)) := lp fun go s => if x1 ≤ s then (k0 ()) else (f_X12_octet t_tape ((2 : Int32) * s)).bind fun u5 => (f_X12_isDoor t_toldDoors u5).bind fun u6 => if u6 = 0 then (some ((-2 : Int32), t_taped, t_needOf)) else (f_X12_octet t_tape (((2 : Int32) * s) + (1 : Int32))).bind fun u7 => if u7 < (6 : Int32) then (nm (s + (1 : Int32)) fun v8 => go v8) else some ((-2 : Int32), t_taped, t_needOf)
def L_X12_bent_96 (t_toldDoors : Int32) (t_taped : Int32) (t_now : (Nat → Int32)) (t_prongsOf : (Nat → Int32)) (t_wardsOf : (Nat → Int32)) (t_tape : (Nat → Int32)) (x1 : Int32) (k0 : Int32 × (Nat → Int32) → Option (Int32 × Int32 × (Nat → Int32))) : Nat → Int32 × Int32 × (Nat → Int32) → Option (Int32 × Int32 × (Nat → Int32)) := lp fun go s => if x1 ≤ s.2.1 then (k0 (s.1, s.2.2)) else (f_X12_octet t_tape (((2 : Int32) * s.2.1) + (1 : Int32))).bind fun u10 => rd s.2.2 6 u10 fun v11 => wr s.2.2 6 u10 (v11 + (1 : Int32)) fun g12 => if s.1 = 0 then (nm (s.2.1 + (1 : Int32)) fun v13 => go ((0 : Int32), v13, g12)) else (f_X12_octet t_tape ((2 : Int32) * s.2.1)).bind fun u14 => (f_X12_fits t_prongsOf t_wardsOf u10 u14).bind fun u15 => if u15 = 0 then (nm (s.2.1 + (1 : Int32)) fun v16 => go ((0 : Int32), v16, g12)) else nm (s.2.1 + (1 : Int32)) fun v17 => go ((1 : Int32), v17, g12)
def L_X12_bent_195 (t_toldDoors : Int32) (t_taped : Int32) (t_now : (Nat → Int32)) (t_prongsOf : (Nat → Int32)) (t_wardsOf : (Nat → Int32)) (t_tape : (Nat → Int32)) (t_needOf : (Nat → Int32)) (x2 : Int32) (x3 : Int32) (x4 : Int32) (k0 : Int32 → Option (Int32 × Int32 × (Nat → Int32))) : Nat → Int32 × Int32 → Option (Int32 × Int32 × (Nat → Int32)) := lp fun go s => if (6 : Int32) ≤ s.2 then (k0 s.1) else if s.1 = 0 then (nm (s.2 + (1 : Int32)) fun v20 => go ((0 : Int32), v20)) else rd t_now 166 (((44 : Int32) + ((6 : Int32) * x4)) + s.2) fun v21 => rd t_needOf 6 s.2 fun v22 => if v21 < v22 then (nm (s.2 + (1 : Int32)) fun v23 => go ((0 : Int32), v23)) else nm (s.2 + (1 : Int32)) fun v24 => go ((1 : Int32), v24)
def L_X12_bent_165 (t_toldDoors : Int32) (t_taped : Int32) (t_now : (Nat → Int32)) (t_prongsOf : (Nat → Int32)) (t_wardsOf : (Nat → Int32)) (t_tape : (Nat → Int32)) (t_needOf : (Nat → Int32)) (x2 : Int32) : Nat → Int32 × Int32 → Option (Int32 × Int32 × (Nat → Int32)) := lp fun go s => if (10 : Int32) ≤ s.2 then (some (s.1, t_taped, t_needOf)) else jn (fun s19 : Int32 => L_X12_bent_195 t_toldDoors t_taped t_now t_prongsOf t_wardsOf t_tape t_needOf x2 s.1 s.2 (fun s25 => if s25 = 0 then (nm (s.2 + (1 : Int32)) fun v26 => go (s.1, v26)) else nm (s.1 ||| ((1 : Int32) <<< (s.2 &&& 31))) fun v27 => nm (s.2 + (1 : Int32)) fun v28 => go (v27, v28)) fu (s19, (0 : Int32))) fun j190 => jn (fun s29 : Unit => j190 (0 : Int32)) fun j189 => if x2 = 0 then (j189 ()) else (f_X12_isWoman t_now s.2).bind fun u30 => if u30 = 0 then (j189 ()) else j190 (1 : Int32)
def f_X12_bent (t_toldDoors : Int32) (t_taped : Int32) (t_now : (Nat → Int32)) (t_prongsOf : (Nat → Int32)) (t_wardsOf : (Nat → Int32)) (t_tape : (Nat → Int32)) (t_needOf : (Nat → Int32)) (x1 : Int32) : Option (Int32 × Int32 × (Nat → Int32)) := (f_X12_in x1 (1 : Int32) (12 : Int32)).bind fun u1 => if u1 = 0 then (some ((-1 : Int32), t_taped, t_needOf)) else if ((2 : Int32) * x1) ≤ t_taped then (L_X12_bent_31 t_toldDoors (0 : Int32) t_now t_prongsOf t_wardsOf t_tape x1 (1 : Int32) (fun s4 => L_X12_bent_52 t_toldDoors (0 : Int32) t_now t_prongsOf t_wardsOf t_tape s4 x1 (1 : Int32) (fun s9 => L_X12_bent_96 t_toldDoors (0 : Int32) t_now t_prongsOf t_wardsOf t_tape x1 (fun s18 => L_X12_bent_165 t_toldDoors (0 : Int32) t_now t_prongsOf t_wardsOf t_tape s18.2 s18.1 fu ((0 : Int32), (0 : Int32))) fu ((1 : Int32), (0 : Int32), s4)) fu (0 : Int32)) fu ((0 : Int32), t_needOf)) else some ((-1 : Int32), t_taped, t_needOf)
theorem dX12_bent_0 : decode cX12_bent 0 = .ok (.iload_n 1, 1) := by decide +kernel
theorem dX12_bent_1 : decode cX12_bent 1 = .ok (.iconst 1, 1) := by decide +kernel
theorem dX12_bent_2 : decode cX12_bent 2 = .ok (.bipush 12, 2) := by decide +kernel
theorem dX12_bent_4 : decode cX12_bent 4 = .ok (.invokestatic 117, 3) := by decide +kernel
theorem dX12_bent_7 : decode cX12_bent 7 = .ok (.ifCond .eq 13, 3) := by decide +kernel
theorem dX12_bent_10 : decode cX12_bent 10 = .ok (.iconst 2, 1) := by decide +kernel
theorem dX12_bent_11 : decode cX12_bent 11 = .ok (.iload_n 1, 1) := by decide +kernel
theorem dX12_bent_12 : decode cX12_bent 12 = .ok (.imul, 1) := by decide +kernel
theorem dX12_bent_13 : decode cX12_bent 13 = .ok (.aload_n 0, 1) := by decide +kernel
theorem dX12_bent_14 : decode cX12_bent 14 = .ok (.getfield 139, 3) := by decide +kernel
theorem dX12_bent_17 : decode cX12_bent 17 = .ok (.if_icmp .le 5, 3) := by decide +kernel
theorem dX12_bent_20 : decode cX12_bent 20 = .ok (.iconst (-1), 1) := by decide +kernel
theorem dX12_bent_21 : decode cX12_bent 21 = .ok (.ireturn, 1) := by decide +kernel
theorem dX12_bent_22 : decode cX12_bent 22 = .ok (.aload_n 0, 1) := by decide +kernel
theorem dX12_bent_23 : decode cX12_bent 23 = .ok (.iconst 0, 1) := by decide +kernel
theorem dX12_bent_24 : decode cX12_bent 24 = .ok (.putfield 139, 3) := by decide +kernel
theorem dX12_bent_27 : decode cX12_bent 27 = .ok (.iconst 1, 1) := by decide +kernel
theorem dX12_bent_28 : decode cX12_bent 28 = .ok (.istore_n 2, 1) := by decide +kernel
theorem dX12_bent_29 : decode cX12_bent 29 = .ok (.iconst 0, 1) := by decide +kernel
theorem dX12_bent_30 : decode cX12_bent 30 = .ok (.istore_n 3, 1) := by decide +kernel
theorem dX12_bent_31 : decode cX12_bent 31 = .ok (.iload_n 3, 1) := by decide +kernel
theorem dX12_bent_32 : decode cX12_bent 32 = .ok (.bipush 6, 2) := by decide +kernel
theorem dX12_bent_34 : decode cX12_bent 34 = .ok (.if_icmp .ge 16, 3) := by decide +kernel
theorem dX12_bent_37 : decode cX12_bent 37 = .ok (.aload_n 0, 1) := by decide +kernel
theorem dX12_bent_38 : decode cX12_bent 38 = .ok (.getfield 108, 3) := by decide +kernel
theorem dX12_bent_41 : decode cX12_bent 41 = .ok (.iload_n 3, 1) := by decide +kernel
theorem dX12_bent_42 : decode cX12_bent 42 = .ok (.iconst 0, 1) := by decide +kernel
theorem dX12_bent_43 : decode cX12_bent 43 = .ok (.iastore, 1) := by decide +kernel
theorem dX12_bent_44 : decode cX12_bent 44 = .ok (.iinc 3 1, 3) := by decide +kernel
theorem dX12_bent_47 : decode cX12_bent 47 = .ok (.goto (-16), 3) := by decide +kernel
theorem dX12_bent_50 : decode cX12_bent 50 = .ok (.iconst 0, 1) := by decide +kernel
theorem dX12_bent_51 : decode cX12_bent 51 = .ok (.istore_n 3, 1) := by decide +kernel
theorem dX12_bent_52 : decode cX12_bent 52 = .ok (.iload_n 3, 1) := by decide +kernel
theorem dX12_bent_53 : decode cX12_bent 53 = .ok (.iload_n 1, 1) := by decide +kernel
theorem dX12_bent_54 : decode cX12_bent 54 = .ok (.if_icmp .ge 40, 3) := by decide +kernel
theorem dX12_bent_57 : decode cX12_bent 57 = .ok (.aload_n 0, 1) := by decide +kernel
theorem dX12_bent_58 : decode cX12_bent 58 = .ok (.aload_n 0, 1) := by decide +kernel
theorem dX12_bent_59 : decode cX12_bent 59 = .ok (.iconst 2, 1) := by decide +kernel
theorem dX12_bent_60 : decode cX12_bent 60 = .ok (.iload_n 3, 1) := by decide +kernel
theorem dX12_bent_61 : decode cX12_bent 61 = .ok (.imul, 1) := by decide +kernel
theorem dX12_bent_62 : decode cX12_bent 62 = .ok (.invokevirtual 387, 3) := by decide +kernel
theorem dX12_bent_65 : decode cX12_bent 65 = .ok (.invokevirtual 129, 3) := by decide +kernel
theorem dX12_bent_68 : decode cX12_bent 68 = .ok (.ifCond .eq 17, 3) := by decide +kernel
theorem dX12_bent_71 : decode cX12_bent 71 = .ok (.aload_n 0, 1) := by decide +kernel
theorem dX12_bent_72 : decode cX12_bent 72 = .ok (.iconst 2, 1) := by decide +kernel
theorem dX12_bent_73 : decode cX12_bent 73 = .ok (.iload_n 3, 1) := by decide +kernel
theorem dX12_bent_74 : decode cX12_bent 74 = .ok (.imul, 1) := by decide +kernel
theorem dX12_bent_75 : decode cX12_bent 75 = .ok (.iconst 1, 1) := by decide +kernel
theorem dX12_bent_76 : decode cX12_bent 76 = .ok (.iadd, 1) := by decide +kernel
theorem dX12_bent_77 : decode cX12_bent 77 = .ok (.invokevirtual 387, 3) := by decide +kernel
theorem dX12_bent_80 : decode cX12_bent 80 = .ok (.bipush 6, 2) := by decide +kernel
theorem dX12_bent_82 : decode cX12_bent 82 = .ok (.if_icmp .lt 6, 3) := by decide +kernel
theorem dX12_bent_85 : decode cX12_bent 85 = .ok (.bipush (-2), 2) := by decide +kernel
theorem dX12_bent_87 : decode cX12_bent 87 = .ok (.ireturn, 1) := by decide +kernel
theorem dX12_bent_88 : decode cX12_bent 88 = .ok (.iinc 3 1, 3) := by decide +kernel
theorem dX12_bent_91 : decode cX12_bent 91 = .ok (.goto (-39), 3) := by decide +kernel
theorem dX12_bent_94 : decode cX12_bent 94 = .ok (.iconst 0, 1) := by decide +kernel
theorem dX12_bent_95 : decode cX12_bent 95 = .ok (.istore_n 3, 1) := by decide +kernel
theorem dX12_bent_96 : decode cX12_bent 96 = .ok (.iload_n 3, 1) := by decide +kernel
theorem dX12_bent_97 : decode cX12_bent 97 = .ok (.iload_n 1, 1) := by decide +kernel
theorem dX12_bent_98 : decode cX12_bent 98 = .ok (.if_icmp .ge 62, 3) := by decide +kernel
theorem dX12_bent_101 : decode cX12_bent 101 = .ok (.aload_n 0, 1) := by decide +kernel
theorem dX12_bent_102 : decode cX12_bent 102 = .ok (.iconst 2, 1) := by decide +kernel
theorem dX12_bent_103 : decode cX12_bent 103 = .ok (.iload_n 3, 1) := by decide +kernel
theorem dX12_bent_104 : decode cX12_bent 104 = .ok (.imul, 1) := by decide +kernel
theorem dX12_bent_105 : decode cX12_bent 105 = .ok (.iconst 1, 1) := by decide +kernel
theorem dX12_bent_106 : decode cX12_bent 106 = .ok (.iadd, 1) := by decide +kernel
theorem dX12_bent_107 : decode cX12_bent 107 = .ok (.invokevirtual 387, 3) := by decide +kernel
theorem dX12_bent_110 : decode cX12_bent 110 = .ok (.istore 4, 2) := by decide +kernel
theorem dX12_bent_112 : decode cX12_bent 112 = .ok (.aload_n 0, 1) := by decide +kernel
theorem dX12_bent_113 : decode cX12_bent 113 = .ok (.getfield 108, 3) := by decide +kernel
theorem dX12_bent_116 : decode cX12_bent 116 = .ok (.iload 4, 2) := by decide +kernel
theorem dX12_bent_118 : decode cX12_bent 118 = .ok (.aload_n 0, 1) := by decide +kernel
theorem dX12_bent_119 : decode cX12_bent 119 = .ok (.getfield 108, 3) := by decide +kernel
theorem dX12_bent_122 : decode cX12_bent 122 = .ok (.iload 4, 2) := by decide +kernel
theorem dX12_bent_124 : decode cX12_bent 124 = .ok (.iaload, 1) := by decide +kernel
theorem dX12_bent_125 : decode cX12_bent 125 = .ok (.iconst 1, 1) := by decide +kernel
theorem dX12_bent_126 : decode cX12_bent 126 = .ok (.iadd, 1) := by decide +kernel
theorem dX12_bent_127 : decode cX12_bent 127 = .ok (.iastore, 1) := by decide +kernel
theorem dX12_bent_128 : decode cX12_bent 128 = .ok (.iload_n 2, 1) := by decide +kernel
theorem dX12_bent_129 : decode cX12_bent 129 = .ok (.ifCond .eq 23, 3) := by decide +kernel
theorem dX12_bent_132 : decode cX12_bent 132 = .ok (.aload_n 0, 1) := by decide +kernel
theorem dX12_bent_133 : decode cX12_bent 133 = .ok (.iload 4, 2) := by decide +kernel
theorem dX12_bent_135 : decode cX12_bent 135 = .ok (.aload_n 0, 1) := by decide +kernel
theorem dX12_bent_136 : decode cX12_bent 136 = .ok (.iconst 2, 1) := by decide +kernel
theorem dX12_bent_137 : decode cX12_bent 137 = .ok (.iload_n 3, 1) := by decide +kernel
theorem dX12_bent_138 : decode cX12_bent 138 = .ok (.imul, 1) := by decide +kernel
theorem dX12_bent_139 : decode cX12_bent 139 = .ok (.invokevirtual 387, 3) := by decide +kernel
theorem dX12_bent_142 : decode cX12_bent 142 = .ok (.invokevirtual 136, 3) := by decide +kernel
theorem dX12_bent_145 : decode cX12_bent 145 = .ok (.ifCond .eq 7, 3) := by decide +kernel
theorem dX12_bent_148 : decode cX12_bent 148 = .ok (.iconst 1, 1) := by decide +kernel
theorem dX12_bent_149 : decode cX12_bent 149 = .ok (.goto 4, 3) := by decide +kernel
theorem dX12_bent_152 : decode cX12_bent 152 = .ok (.iconst 0, 1) := by decide +kernel
theorem dX12_bent_153 : decode cX12_bent 153 = .ok (.istore_n 2, 1) := by decide +kernel
theorem dX12_bent_154 : decode cX12_bent 154 = .ok (.iinc 3 1, 3) := by decide +kernel
theorem dX12_bent_157 : decode cX12_bent 157 = .ok (.goto (-61), 3) := by decide +kernel
theorem dX12_bent_160 : decode cX12_bent 160 = .ok (.iconst 0, 1) := by decide +kernel
theorem dX12_bent_161 : decode cX12_bent 161 = .ok (.istore_n 3, 1) := by decide +kernel
theorem dX12_bent_162 : decode cX12_bent 162 = .ok (.iconst 0, 1) := by decide +kernel
theorem dX12_bent_163 : decode cX12_bent 163 = .ok (.istore 4, 2) := by decide +kernel
theorem dX12_bent_165 : decode cX12_bent 165 = .ok (.iload 4, 2) := by decide +kernel
theorem dX12_bent_167 : decode cX12_bent 167 = .ok (.bipush 10, 2) := by decide +kernel
theorem dX12_bent_169 : decode cX12_bent 169 = .ok (.if_icmp .ge 95, 3) := by decide +kernel
theorem dX12_bent_172 : decode cX12_bent 172 = .ok (.iload_n 2, 1) := by decide +kernel
theorem dX12_bent_173 : decode cX12_bent 173 = .ok (.ifCond .eq 16, 3) := by decide +kernel
theorem dX12_bent_176 : decode cX12_bent 176 = .ok (.aload_n 0, 1) := by decide +kernel
theorem dX12_bent_177 : decode cX12_bent 177 = .ok (.iload 4, 2) := by decide +kernel
theorem dX12_bent_179 : decode cX12_bent 179 = .ok (.invokevirtual 268, 3) := by decide +kernel
theorem dX12_bent_182 : decode cX12_bent 182 = .ok (.ifCond .eq 7, 3) := by decide +kernel
theorem dX12_bent_185 : decode cX12_bent 185 = .ok (.iconst 1, 1) := by decide +kernel
theorem dX12_bent_186 : decode cX12_bent 186 = .ok (.goto 4, 3) := by decide +kernel
theorem dX12_bent_189 : decode cX12_bent 189 = .ok (.iconst 0, 1) := by decide +kernel
theorem dX12_bent_190 : decode cX12_bent 190 = .ok (.istore 5, 2) := by decide +kernel
theorem dX12_bent_192 : decode cX12_bent 192 = .ok (.iconst 0, 1) := by decide +kernel
theorem dX12_bent_193 : decode cX12_bent 193 = .ok (.istore 6, 2) := by decide +kernel
theorem dX12_bent_195 : decode cX12_bent 195 = .ok (.iload 6, 2) := by decide +kernel
theorem dX12_bent_197 : decode cX12_bent 197 = .ok (.bipush 6, 2) := by decide +kernel
theorem dX12_bent_199 : decode cX12_bent 199 = .ok (.if_icmp .ge 47, 3) := by decide +kernel
theorem dX12_bent_202 : decode cX12_bent 202 = .ok (.iload 5, 2) := by decide +kernel
theorem dX12_bent_204 : decode cX12_bent 204 = .ok (.ifCond .eq 33, 3) := by decide +kernel
theorem dX12_bent_207 : decode cX12_bent 207 = .ok (.aload_n 0, 1) := by decide +kernel
theorem dX12_bent_208 : decode cX12_bent 208 = .ok (.getfield 7, 3) := by decide +kernel
theorem dX12_bent_211 : decode cX12_bent 211 = .ok (.bipush 44, 2) := by decide +kernel
theorem dX12_bent_213 : decode cX12_bent 213 = .ok (.bipush 6, 2) := by decide +kernel
theorem dX12_bent_215 : decode cX12_bent 215 = .ok (.iload 4, 2) := by decide +kernel
theorem dX12_bent_217 : decode cX12_bent 217 = .ok (.imul, 1) := by decide +kernel
theorem dX12_bent_218 : decode cX12_bent 218 = .ok (.iadd, 1) := by decide +kernel
theorem dX12_bent_219 : decode cX12_bent 219 = .ok (.iload 6, 2) := by decide +kernel
theorem dX12_bent_221 : decode cX12_bent 221 = .ok (.iadd, 1) := by decide +kernel
theorem dX12_bent_222 : decode cX12_bent 222 = .ok (.iaload, 1) := by decide +kernel
theorem dX12_bent_223 : decode cX12_bent 223 = .ok (.aload_n 0, 1) := by decide +kernel
theorem dX12_bent_224 : decode cX12_bent 224 = .ok (.getfield 108, 3) := by decide +kernel
theorem dX12_bent_227 : decode cX12_bent 227 = .ok (.iload 6, 2) := by decide +kernel
theorem dX12_bent_229 : decode cX12_bent 229 = .ok (.iaload, 1) := by decide +kernel
theorem dX12_bent_230 : decode cX12_bent 230 = .ok (.if_icmp .lt 7, 3) := by decide +kernel
theorem dX12_bent_233 : decode cX12_bent 233 = .ok (.iconst 1, 1) := by decide +kernel
theorem dX12_bent_234 : decode cX12_bent 234 = .ok (.goto 4, 3) := by decide +kernel
theorem dX12_bent_237 : decode cX12_bent 237 = .ok (.iconst 0, 1) := by decide +kernel
theorem dX12_bent_238 : decode cX12_bent 238 = .ok (.istore 5, 2) := by decide +kernel
theorem dX12_bent_240 : decode cX12_bent 240 = .ok (.iinc 6 1, 3) := by decide +kernel
theorem dX12_bent_243 : decode cX12_bent 243 = .ok (.goto (-48), 3) := by decide +kernel
theorem dX12_bent_246 : decode cX12_bent 246 = .ok (.iload 5, 2) := by decide +kernel
theorem dX12_bent_248 : decode cX12_bent 248 = .ok (.ifCond .eq 10, 3) := by decide +kernel
theorem dX12_bent_251 : decode cX12_bent 251 = .ok (.iload_n 3, 1) := by decide +kernel
theorem dX12_bent_252 : decode cX12_bent 252 = .ok (.iconst 1, 1) := by decide +kernel
theorem dX12_bent_253 : decode cX12_bent 253 = .ok (.iload 4, 2) := by decide +kernel
theorem dX12_bent_255 : decode cX12_bent 255 = .ok (.ishl, 1) := by decide +kernel
theorem dX12_bent_256 : decode cX12_bent 256 = .ok (.ior, 1) := by decide +kernel
theorem dX12_bent_257 : decode cX12_bent 257 = .ok (.istore_n 3, 1) := by decide +kernel
theorem dX12_bent_258 : decode cX12_bent 258 = .ok (.iinc 4 1, 3) := by decide +kernel
theorem dX12_bent_261 : decode cX12_bent 261 = .ok (.goto (-96), 3) := by decide +kernel
theorem dX12_bent_264 : decode cX12_bent 264 = .ok (.iload_n 3, 1) := by decide +kernel
theorem dX12_bent_265 : decode cX12_bent 265 = .ok (.ireturn, 1) := by decide +kernel
set_option maxHeartbeats 4000000 in
set_option maxRecDepth 100000 in
theorem kL_X12_bent_31 {X : GC} {E : GE} (C : Cx X E cX12_bent RX12 3 7) (o_t : Nat) (a_t : Nat → Nat) (t_barredDoors : Int32) (t_place0 : Int32) (t_length0 : Int32) (t_fault : Int32) (t_number0 : Int32) (t_open : Int32) (t_codeMany : Int32) (t_waiting : Int32) (t_saidMany : Int32) (t_clauses : Int32) (t_newMany : Int32) (t_rounds : Int32) (t_pinFrom : Int32) (t_pinTimes : Int32) (t_lines : Int32) (t_wasTold : Int32) (t_wasBarred : Int32) (t_goesNow : Int32) (t_jamsNow : Int32) (t_queued : Int32) (t_isKept : Int32) (t_toldDoors : Int32) (t_taped : Int32) (t_now : (Nat → Int32)) (t_prongsOf : (Nat → Int32)) (t_wardsOf : (Nat → Int32)) (t_tape : (Nat → Int32)) (x1 : Int32) (x2 : Int32) (k0 : (Nat → Int32) → Option (Int32 × Int32 × (Nat → Int32))) {r : Int32 × Int32 × (Nat → Int32)} (hret : RtI X E cX12_bent .int 0 0 (fun w => w = (W_X12_bent E o_t a_t t_toldDoors t_barredDoors r.2.1 t_place0 t_length0 t_fault t_number0 t_open t_codeMany t_waiting t_saidMany t_clauses t_newMany t_rounds t_pinFrom t_pinTimes t_lines t_wasTold t_wasBarred t_goesNow t_jamsNow t_queued t_isKept t_now t_prongsOf t_wardsOf t_tape r.2.2)) r.1) (hk0 : ∀ u, k0 u = some r → Gx X E 0 0 (W_X12_bent E o_t a_t t_toldDoors t_barredDoors t_taped t_place0 t_length0 t_fault t_number0 t_open t_codeMany t_waiting t_saidMany t_clauses t_newMany t_rounds t_pinFrom t_pinTimes t_lines t_wasTold t_wasBarred t_goesNow t_jamsNow t_queued t_isKept t_now t_prongsOf t_wardsOf t_tape u) 50 [(0, .ref o_t), (1, .int x1), (2, .int x2)] []) : ∀ (n : Nat) (s : Int32 × (Nat → Int32)), L_X12_bent_31 t_toldDoors t_taped t_now t_prongsOf t_wardsOf t_tape x1 x2 k0 n s = some r → Gx X E 0 0 (W_X12_bent E o_t a_t t_toldDoors t_barredDoors t_taped t_place0 t_length0 t_fault t_number0 t_open t_codeMany t_waiting t_saidMany t_clauses t_newMany t_rounds t_pinFrom t_pinTimes t_lines t_wasTold t_wasBarred t_goesNow t_jamsNow t_queued t_isKept t_now t_prongsOf t_wardsOf t_tape s.2) 31 [(0, .ref o_t), (1, .int x1), (2, .int x2), (3, .int s.1)] [] := by
  unfold L_X12_bent_31
  refine lp_ind _ (fun go ih s h => ?_)
  refine g_iload_n (pc := 31) C dX12_bent_31 rfl 3 rfl ?_
  refine g_bipush (pc := 32) (v := 6) C dX12_bent_32 (by decide) ?_
  refine g_icmp_ge (pc := 34) (tgt := 50) C dX12_bent_34 (by decide) h (fun h => ?_) (fun h => ?_)
  · refine g_sub [0, 1, 2] rfl ?_
    exact hk0 _ h
  · refine g_aload_n (pc := 37) C dX12_bent_37 rfl 0 rfl ?_
    refine g_get (pc := 38) C fl_X12_108 dX12_bent_38 0 rfl rfl ?_
    refine g_iload_n (pc := 41) C dX12_bent_41 rfl 3 rfl ?_
    refine g_iconst (pc := 42) (v := 0) C dX12_bent_42 (by decide) ?_
    refine g_iast (pc := 43) C dX12_bent_43 5 rfl h (fun g2 h => ?_)
    refine g_ws (ws' := (W_X12_bent E o_t a_t t_toldDoors t_barredDoors t_taped t_place0 t_length0 t_fault t_number0 t_open t_codeMany t_waiting t_saidMany t_clauses t_newMany t_rounds t_pinFrom t_pinTimes t_lines t_wasTold t_wasBarred t_goesNow t_jamsNow t_queued t_isKept t_now t_prongsOf t_wardsOf t_tape g2)) rfl ?_
    refine g_iincn (pc := 44) (j := 3) (d := 1) (lv' := fun v3 => [(3, .int v3), (0, .ref o_t), (1, .int x1), (2, .int x2)]) C dX12_bent_44 rfl (by decide) (by decide) (fun _ => rfl) h (fun v3 h => ?_)
    refine g_goto (pc := 47) (tgt := 31) C dX12_bent_47 (by decide) ?_
    refine g_sub [1, 2, 3, 0] rfl ?_
    exact ih _ h
set_option maxHeartbeats 4000000 in
set_option maxRecDepth 100000 in
theorem kL_X12_bent_52 {X : GC} {E : GE} (C : Cx X E cX12_bent RX12 3 7) (o_t : Nat) (a_t : Nat → Nat) (t_barredDoors : Int32) (t_place0 : Int32) (t_length0 : Int32) (t_fault : Int32) (t_number0 : Int32) (t_open : Int32) (t_codeMany : Int32) (t_waiting : Int32) (t_saidMany : Int32) (t_clauses : Int32) (t_newMany : Int32) (t_rounds : Int32) (t_pinFrom : Int32) (t_pinTimes : Int32) (t_lines : Int32) (t_wasTold : Int32) (t_wasBarred : Int32) (t_goesNow : Int32) (t_jamsNow : Int32) (t_queued : Int32) (t_isKept : Int32) (t_toldDoors : Int32) (t_taped : Int32) (t_now : (Nat → Int32)) (t_prongsOf : (Nat → Int32)) (t_wardsOf : (Nat → Int32)) (t_tape : (Nat → Int32)) (t_needOf : (Nat → Int32)) (x1 : Int32) (x2 : Int32) (k0 : Unit → Option (Int32 × Int32 × (Nat → Int32))) {r : Int32 × Int32 × (Nat → Int32)} (hret : RtI X E cX12_bent .int 0 0 (fun w => w = (W_X12_bent E o_t a_t t_toldDoors t_barredDoors r.2.1 t_place0 t_length0 t_fault t_number0 t_open t_codeMany t_waiting t_saidMany t_clauses t_newMany t_rounds t_pinFrom t_pinTimes t_lines t_wasTold t_wasBarred t_goesNow t_jamsNow t_queued t_isKept t_now t_prongsOf t_wardsOf t_tape r.2.2)) r.1) (hk0 : ∀ u, k0 u = some r → Gx X E 0 0 (W_X12_bent E o_t a_t t_toldDoors t_barredDoors t_taped t_place0 t_length0 t_fault t_number0 t_open t_codeMany t_waiting t_saidMany t_clauses t_newMany t_rounds t_pinFrom t_pinTimes t_lines t_wasTold t_wasBarred t_goesNow t_jamsNow t_queued t_isKept t_now t_prongsOf t_wardsOf t_tape t_needOf) 94 [(0, .ref o_t), (1, .int x1), (2, .int x2)] []) : ∀ (n : Nat) (s : Int32), L_X12_bent_52 t_toldDoors t_taped t_now t_prongsOf t_wardsOf t_tape t_needOf x1 x2 k0 n s = some r → Gx X E 0 0 (W_X12_bent E o_t a_t t_toldDoors t_barredDoors t_taped t_place0 t_length0 t_fault t_number0 t_open t_codeMany t_waiting t_saidMany t_clauses t_newMany t_rounds t_pinFrom t_pinTimes t_lines t_wasTold t_wasBarred t_goesNow t_jamsNow t_queued t_isKept t_now t_prongsOf t_wardsOf t_tape t_needOf) 52 [(0, .ref o_t), (1, .int x1), (2, .int x2), (3, .int s)] [] := by
  unfold L_X12_bent_52
  refine lp_ind _ (fun go ih s h => ?_)
  refine g_iload_n (pc := 52) C dX12_bent_52 rfl 3 rfl ?_
  refine g_iload_n (pc := 53) C dX12_bent_53 rfl 1 rfl ?_
  refine g_icmp_ge (pc := 54) (tgt := 94) C dX12_bent_54 (by decide) h (fun h => ?_) (fun h => ?_)
  · refine g_sub [0, 1, 2] rfl ?_
    exact hk0 _ h
  · refine g_aload_n (pc := 57) C dX12_bent_57 rfl 0 rfl ?_
    refine g_aload_n (pc := 58) C dX12_bent_58 rfl 0 rfl ?_
    refine g_iconst (pc := 59) (v := 2) C dX12_bent_59 (by decide) ?_
    refine g_iload_n (pc := 60) C dX12_bent_60 rfl 3 rfl ?_
    refine g_imul (pc := 61) C dX12_bent_61 ?_
    obtain ⟨u5, hu5, h⟩ := bs h
    refine g_callV (pc := 62) (st := [.ref o_t]) (st1 := [.int u5, .ref o_t]) (ws' := (W_X12_bent E o_t a_t t_toldDoors t_barredDoors t_taped t_place0 t_length0 t_fault t_number0 t_open t_codeMany t_waiting t_saidMany t_clauses t_newMany t_rounds t_pinFrom t_pinTimes t_lines t_wasTold t_wasBarred t_goesNow t_jamsNow t_queued t_isKept t_now t_prongsOf t_wardsOf t_tape t_needOf)) C mv_X12_octet mi_X12_octet ml_X12_387 (c_X12_octet X.2.1 E o_t a_t t_toldDoors t_barredDoors t_taped t_place0 t_length0 t_fault t_number0 t_open t_codeMany t_waiting t_saidMany t_clauses t_newMany t_rounds t_pinFrom t_pinTimes t_lines t_wasTold t_wasBarred t_goesNow t_jamsNow t_queued t_isKept t_tape ((2 : Int32) * s) u5 hu5) dX12_bent_62 (by decide) rfl (Nat.le_of_ble_eq_true rfl) 0 11 rfl rfl [0, 4] rfl (by decide) rfl rfl rfl rfl ?_
    obtain ⟨u6, hu6, h⟩ := bs h
    refine g_callV (pc := 65) (st := []) (st1 := [.int u6]) (ws' := (W_X12_bent E o_t a_t t_toldDoors t_barredDoors t_taped t_place0 t_length0 t_fault t_number0 t_open t_codeMany t_waiting t_saidMany t_clauses t_newMany t_rounds t_pinFrom t_pinTimes t_lines t_wasTold t_wasBarred t_goesNow t_jamsNow t_queued t_isKept t_now t_prongsOf t_wardsOf t_tape t_needOf)) C mv_X12_isDoor mi_X12_isDoor ml_X12_129 (c_X12_isDoor X.2.1 E o_t a_t t_toldDoors t_barredDoors t_taped t_place0 t_length0 t_fault t_number0 t_open t_codeMany t_waiting t_saidMany t_clauses t_newMany t_rounds t_pinFrom t_pinTimes t_lines t_wasTold t_wasBarred t_goesNow t_jamsNow t_queued t_isKept u5 u6 hu6) dX12_bent_65 (by decide) rfl (Nat.le_of_ble_eq_true rfl) 0 11 rfl rfl [0] rfl (by decide) rfl rfl rfl rfl ?_
    refine g_if_eq (pc := 68) (tgt := 85) C dX12_bent_68 (by decide) h (fun h => ?_) (fun h => ?_)
    · refine g_bipush (pc := 85) (v := -2) C dX12_bent_85 (by decide) ?_
      cases h
      exact hret _ _ _ dX12_bent_87 rfl rfl
    · refine g_aload_n (pc := 71) C dX12_bent_71 rfl 0 rfl ?_
      refine g_iconst (pc := 72) (v := 2) C dX12_bent_72 (by decide) ?_
      refine g_iload_n (pc := 73) C dX12_bent_73 rfl 3 rfl ?_
      refine g_imul (pc := 74) C dX12_bent_74 ?_
      refine g_iconst (pc := 75) (v := 1) C dX12_bent_75 (by decide) ?_
      refine g_iadd (pc := 76) C dX12_bent_76 ?_
      obtain ⟨u7, hu7, h⟩ := bs h
      refine g_callV (pc := 77) (st := []) (st1 := [.int u7]) (ws' := (W_X12_bent E o_t a_t t_toldDoors t_barredDoors t_taped t_place0 t_length0 t_fault t_number0 t_open t_codeMany t_waiting t_saidMany t_clauses t_newMany t_rounds t_pinFrom t_pinTimes t_lines t_wasTold t_wasBarred t_goesNow t_jamsNow t_queued t_isKept t_now t_prongsOf t_wardsOf t_tape t_needOf)) C mv_X12_octet mi_X12_octet ml_X12_387 (c_X12_octet X.2.1 E o_t a_t t_toldDoors t_barredDoors t_taped t_place0 t_length0 t_fault t_number0 t_open t_codeMany t_waiting t_saidMany t_clauses t_newMany t_rounds t_pinFrom t_pinTimes t_lines t_wasTold t_wasBarred t_goesNow t_jamsNow t_queued t_isKept t_tape (((2 : Int32) * s) + (1 : Int32)) u7 hu7) dX12_bent_77 (by decide) rfl (Nat.le_of_ble_eq_true rfl) 0 11 rfl rfl [0, 4] rfl (by decide) rfl rfl rfl rfl ?_
      refine g_bipush (pc := 80) (v := 6) C dX12_bent_80 (by decide) ?_
      refine g_icmp_lt (pc := 82) (tgt := 88) C dX12_bent_82 (by decide) h (fun h => ?_) (fun h => ?_)
      · refine g_iincn (pc := 88) (j := 3) (d := 1) (lv' := fun v8 => [(3, .int v8), (0, .ref o_t), (1, .int x1), (2, .int x2)]) C dX12_bent_88 rfl (by decide) (by decide) (fun _ => rfl) h (fun v8 h => ?_)
        refine g_goto (pc := 91) (tgt := 52) C dX12_bent_91 (by decide) ?_
        refine g_sub [1, 2, 3, 0] rfl ?_
        exact ih _ h
      · refine g_bipush (pc := 85) (v := -2) C dX12_bent_85 (by decide) ?_
        cases h
        exact hret _ _ _ dX12_bent_87 rfl rfl
set_option maxHeartbeats 4000000 in
set_option maxRecDepth 100000 in
theorem kL_X12_bent_96 {X : GC} {E : GE} (C : Cx X E cX12_bent RX12 3 7) (o_t : Nat) (a_t : Nat → Nat) (t_barredDoors : Int32) (t_place0 : Int32) (t_length0 : Int32) (t_fault : Int32) (t_number0 : Int32) (t_open : Int32) (t_codeMany : Int32) (t_waiting : Int32) (t_saidMany : Int32) (t_clauses : Int32) (t_newMany : Int32) (t_rounds : Int32) (t_pinFrom : Int32) (t_pinTimes : Int32) (t_lines : Int32) (t_wasTold : Int32) (t_wasBarred : Int32) (t_goesNow : Int32) (t_jamsNow : Int32) (t_queued : Int32) (t_isKept : Int32) (t_toldDoors : Int32) (t_taped : Int32) (t_now : (Nat → Int32)) (t_prongsOf : (Nat → Int32)) (t_wardsOf : (Nat → Int32)) (t_tape : (Nat → Int32)) (x1 : Int32) (k0 : Int32 × (Nat → Int32) → Option (Int32 × Int32 × (Nat → Int32))) {r : Int32 × Int32 × (Nat → Int32)} (hret : RtI X E cX12_bent .int 0 0 (fun w => w = (W_X12_bent E o_t a_t t_toldDoors t_barredDoors r.2.1 t_place0 t_length0 t_fault t_number0 t_open t_codeMany t_waiting t_saidMany t_clauses t_newMany t_rounds t_pinFrom t_pinTimes t_lines t_wasTold t_wasBarred t_goesNow t_jamsNow t_queued t_isKept t_now t_prongsOf t_wardsOf t_tape r.2.2)) r.1) (hk0 : ∀ u, k0 u = some r → Gx X E 0 0 (W_X12_bent E o_t a_t t_toldDoors t_barredDoors t_taped t_place0 t_length0 t_fault t_number0 t_open t_codeMany t_waiting t_saidMany t_clauses t_newMany t_rounds t_pinFrom t_pinTimes t_lines t_wasTold t_wasBarred t_goesNow t_jamsNow t_queued t_isKept t_now t_prongsOf t_wardsOf t_tape u.2) 160 [(0, .ref o_t), (2, .int u.1)] []) : ∀ (n : Nat) (s : Int32 × Int32 × (Nat → Int32)), L_X12_bent_96 t_toldDoors t_taped t_now t_prongsOf t_wardsOf t_tape x1 k0 n s = some r → Gx X E 0 0 (W_X12_bent E o_t a_t t_toldDoors t_barredDoors t_taped t_place0 t_length0 t_fault t_number0 t_open t_codeMany t_waiting t_saidMany t_clauses t_newMany t_rounds t_pinFrom t_pinTimes t_lines t_wasTold t_wasBarred t_goesNow t_jamsNow t_queued t_isKept t_now t_prongsOf t_wardsOf t_tape s.2.2) 96 [(0, .ref o_t), (1, .int x1), (2, .int s.1), (3, .int s.2.1)] [] := by
  unfold L_X12_bent_96
  refine lp_ind _ (fun go ih s h => ?_)
  refine g_iload_n (pc := 96) C dX12_bent_96 rfl 3 rfl ?_
  refine g_iload_n (pc := 97) C dX12_bent_97 rfl 1 rfl ?_
  refine g_icmp_ge (pc := 98) (tgt := 160) C dX12_bent_98 (by decide) h (fun h => ?_) (fun h => ?_)
  · refine g_sub [0, 2] rfl ?_
    exact hk0 _ h
  · refine g_aload_n (pc := 101) C dX12_bent_101 rfl 0 rfl ?_
    refine g_iconst (pc := 102) (v := 2) C dX12_bent_102 (by decide) ?_
    refine g_iload_n (pc := 103) C dX12_bent_103 rfl 3 rfl ?_
    refine g_imul (pc := 104) C dX12_bent_104 ?_
    refine g_iconst (pc := 105) (v := 1) C dX12_bent_105 (by decide) ?_
    refine g_iadd (pc := 106) C dX12_bent_106 ?_
    obtain ⟨u10, hu10, h⟩ := bs h
    refine g_callV (pc := 107) (st := []) (st1 := [.int u10]) (ws' := (W_X12_bent E o_t a_t t_toldDoors t_barredDoors t_taped t_place0 t_length0 t_fault t_number0 t_open t_codeMany t_waiting t_saidMany t_clauses t_newMany t_rounds t_pinFrom t_pinTimes t_lines t_wasTold t_wasBarred t_goesNow t_jamsNow t_queued t_isKept t_now t_prongsOf t_wardsOf t_tape s.2.2)) C mv_X12_octet mi_X12_octet ml_X12_387 (c_X12_octet X.2.1 E o_t a_t t_toldDoors t_barredDoors t_taped t_place0 t_length0 t_fault t_number0 t_open t_codeMany t_waiting t_saidMany t_clauses t_newMany t_rounds t_pinFrom t_pinTimes t_lines t_wasTold t_wasBarred t_goesNow t_jamsNow t_queued t_isKept t_tape (((2 : Int32) * s.2.1) + (1 : Int32)) u10 hu10) dX12_bent_107 (by decide) rfl (Nat.le_of_ble_eq_true rfl) 0 11 rfl rfl [0, 4] rfl (by decide) rfl rfl rfl rfl ?_
    refine g_istore (pc := 110) (lv' := [(4, .int u10), (0, .ref o_t), (1, .int x1), (2, .int s.1), (3, .int s.2.1)]) C dX12_bent_110 (by decide) rfl ?_
    refine g_aload_n (pc := 112) C dX12_bent_112 rfl 1 rfl ?_
    refine g_get (pc := 113) C fl_X12_108 dX12_bent_113 0 rfl rfl ?_
    refine g_iload (pc := 116) C dX12_bent_116 0 rfl ?_
    refine g_aload_n (pc := 118) C dX12_bent_118 rfl 1 rfl ?_
    refine g_get (pc := 119) C fl_X12_108 dX12_bent_119 0 rfl rfl ?_
    refine g_iload (pc := 122) C dX12_bent_122 0 rfl ?_
    refine g_iald (pc := 124) C dX12_bent_124 5 rfl h (fun v11 h => ?_)
    refine g_iconst (pc := 125) (v := 1) C dX12_bent_125 (by decide) ?_
    refine g_iadd (pc := 126) C dX12_bent_126 ?_
    refine g_iast (pc := 127) C dX12_bent_127 5 rfl h (fun g12 h => ?_)
    refine g_ws (ws' := (W_X12_bent E o_t a_t t_toldDoors t_barredDoors t_taped t_place0 t_length0 t_fault t_number0 t_open t_codeMany t_waiting t_saidMany t_clauses t_newMany t_rounds t_pinFrom t_pinTimes t_lines t_wasTold t_wasBarred t_goesNow t_jamsNow t_queued t_isKept t_now t_prongsOf t_wardsOf t_tape g12)) rfl ?_
    refine g_iload_n (pc := 128) C dX12_bent_128 rfl 3 rfl ?_
    refine g_if_eq (pc := 129) (tgt := 152) C dX12_bent_129 (by decide) h (fun h => ?_) (fun h => ?_)
    · refine g_iconst (pc := 152) (v := 0) C dX12_bent_152 (by decide) ?_
      refine g_istore_n (pc := 153) (lv' := [(2, .int (0 : Int32)), (4, .int u10), (0, .ref o_t), (1, .int x1), (3, .int s.2.1)]) C dX12_bent_153 rfl (by decide) rfl ?_
      refine g_iincn (pc := 154) (j := 4) (d := 1) (lv' := fun v13 => [(3, .int v13), (2, .int (0 : Int32)), (4, .int u10), (0, .ref o_t), (1, .int x1)]) C dX12_bent_154 rfl (by decide) (by decide) (fun _ => rfl) h (fun v13 h => ?_)
      refine g_goto (pc := 157) (tgt := 96) C dX12_bent_157 (by decide) ?_
      refine g_sub [3, 4, 1, 0] rfl ?_
      exact ih _ h
    · refine g_aload_n (pc := 132) C dX12_bent_132 rfl 1 rfl ?_
      refine g_iload (pc := 133) C dX12_bent_133 0 rfl ?_
      refine g_aload_n (pc := 135) C dX12_bent_135 rfl 1 rfl ?_
      refine g_iconst (pc := 136) (v := 2) C dX12_bent_136 (by decide) ?_
      refine g_iload_n (pc := 137) C dX12_bent_137 rfl 4 rfl ?_
      refine g_imul (pc := 138) C dX12_bent_138 ?_
      obtain ⟨u14, hu14, h⟩ := bs h
      refine g_callV (pc := 139) (st := [.int u10, .ref o_t]) (st1 := [.int u14, .int u10, .ref o_t]) (ws' := (W_X12_bent E o_t a_t t_toldDoors t_barredDoors t_taped t_place0 t_length0 t_fault t_number0 t_open t_codeMany t_waiting t_saidMany t_clauses t_newMany t_rounds t_pinFrom t_pinTimes t_lines t_wasTold t_wasBarred t_goesNow t_jamsNow t_queued t_isKept t_now t_prongsOf t_wardsOf t_tape g12)) C mv_X12_octet mi_X12_octet ml_X12_387 (c_X12_octet X.2.1 E o_t a_t t_toldDoors t_barredDoors t_taped t_place0 t_length0 t_fault t_number0 t_open t_codeMany t_waiting t_saidMany t_clauses t_newMany t_rounds t_pinFrom t_pinTimes t_lines t_wasTold t_wasBarred t_goesNow t_jamsNow t_queued t_isKept t_tape ((2 : Int32) * s.2.1) u14 hu14) dX12_bent_139 (by decide) rfl (Nat.le_of_ble_eq_true rfl) 0 11 rfl rfl [0, 4] rfl (by decide) rfl rfl rfl rfl ?_
      obtain ⟨u15, hu15, h⟩ := bs h
      refine g_callV (pc := 142) (st := []) (st1 := [.int u15]) (ws' := (W_X12_bent E o_t a_t t_toldDoors t_barredDoors t_taped t_place0 t_length0 t_fault t_number0 t_open t_codeMany t_waiting t_saidMany t_clauses t_newMany t_rounds t_pinFrom t_pinTimes t_lines t_wasTold t_wasBarred t_goesNow t_jamsNow t_queued t_isKept t_now t_prongsOf t_wardsOf t_tape g12)) C mv_X12_fits mi_X12_fits ml_X12_136 (c_X12_fits X.2.1 E o_t a_t t_toldDoors t_barredDoors t_taped t_place0 t_length0 t_fault t_number0 t_open t_codeMany t_waiting t_saidMany t_clauses t_newMany t_rounds t_pinFrom t_pinTimes t_lines t_wasTold t_wasBarred t_goesNow t_jamsNow t_queued t_isKept t_prongsOf t_wardsOf u10 u14 u15 hu15) dX12_bent_142 (by decide) rfl (Nat.le_of_ble_eq_true rfl) 0 11 rfl rfl [0, 2, 3] rfl (by decide) rfl rfl rfl rfl ?_
      refine g_if_eq (pc := 145) (tgt := 152) C dX12_bent_145 (by decide) h (fun h => ?_) (fun h => ?_)
      · refine g_iconst (pc := 152) (v := 0) C dX12_bent_152 (by decide) ?_
        refine g_istore_n (pc := 153) (lv' := [(2, .int (0 : Int32)), (4, .int u10), (0, .ref o_t), (1, .int x1), (3, .int s.2.1)]) C dX12_bent_153 rfl (by decide) rfl ?_
        refine g_iincn (pc := 154) (j := 4) (d := 1) (lv' := fun v16 => [(3, .int v16), (2, .int (0 : Int32)), (4, .int u10), (0, .ref o_t), (1, .int x1)]) C dX12_bent_154 rfl (by decide) (by decide) (fun _ => rfl) h (fun v16 h => ?_)
        refine g_goto (pc := 157) (tgt := 96) C dX12_bent_157 (by decide) ?_
        refine g_sub [3, 4, 1, 0] rfl ?_
        exact ih _ h
      · refine g_iconst (pc := 148) (v := 1) C dX12_bent_148 (by decide) ?_
        refine g_goto (pc := 149) (tgt := 153) C dX12_bent_149 (by decide) ?_
        refine g_istore_n (pc := 153) (lv' := [(2, .int (1 : Int32)), (4, .int u10), (0, .ref o_t), (1, .int x1), (3, .int s.2.1)]) C dX12_bent_153 rfl (by decide) rfl ?_
        refine g_iincn (pc := 154) (j := 4) (d := 1) (lv' := fun v17 => [(3, .int v17), (2, .int (1 : Int32)), (4, .int u10), (0, .ref o_t), (1, .int x1)]) C dX12_bent_154 rfl (by decide) (by decide) (fun _ => rfl) h (fun v17 h => ?_)
        refine g_goto (pc := 157) (tgt := 96) C dX12_bent_157 (by decide) ?_
        refine g_sub [3, 4, 1, 0] rfl ?_
        exact ih _ h
set_option maxHeartbeats 4000000 in
set_option maxRecDepth 100000 in
theorem kL_X12_bent_195 {X : GC} {E : GE} (C : Cx X E cX12_bent RX12 3 7) (o_t : Nat) (a_t : Nat → Nat) (t_barredDoors : Int32) (t_place0 : Int32) (t_length0 : Int32) (t_fault : Int32) (t_number0 : Int32) (t_open : Int32) (t_codeMany : Int32) (t_waiting : Int32) (t_saidMany : Int32) (t_clauses : Int32) (t_newMany : Int32) (t_rounds : Int32) (t_pinFrom : Int32) (t_pinTimes : Int32) (t_lines : Int32) (t_wasTold : Int32) (t_wasBarred : Int32) (t_goesNow : Int32) (t_jamsNow : Int32) (t_queued : Int32) (t_isKept : Int32) (t_toldDoors : Int32) (t_taped : Int32) (t_now : (Nat → Int32)) (t_prongsOf : (Nat → Int32)) (t_wardsOf : (Nat → Int32)) (t_tape : (Nat → Int32)) (t_needOf : (Nat → Int32)) (x2 : Int32) (x3 : Int32) (x4 : Int32) (k0 : Int32 → Option (Int32 × Int32 × (Nat → Int32))) {r : Int32 × Int32 × (Nat → Int32)} (hret : RtI X E cX12_bent .int 0 0 (fun w => w = (W_X12_bent E o_t a_t t_toldDoors t_barredDoors r.2.1 t_place0 t_length0 t_fault t_number0 t_open t_codeMany t_waiting t_saidMany t_clauses t_newMany t_rounds t_pinFrom t_pinTimes t_lines t_wasTold t_wasBarred t_goesNow t_jamsNow t_queued t_isKept t_now t_prongsOf t_wardsOf t_tape r.2.2)) r.1) (hk0 : ∀ u, k0 u = some r → Gx X E 0 0 (W_X12_bent E o_t a_t t_toldDoors t_barredDoors t_taped t_place0 t_length0 t_fault t_number0 t_open t_codeMany t_waiting t_saidMany t_clauses t_newMany t_rounds t_pinFrom t_pinTimes t_lines t_wasTold t_wasBarred t_goesNow t_jamsNow t_queued t_isKept t_now t_prongsOf t_wardsOf t_tape t_needOf) 246 [(0, .ref o_t), (2, .int x2), (3, .int x3), (4, .int x4), (5, .int u)] []) : ∀ (n : Nat) (s : Int32 × Int32), L_X12_bent_195 t_toldDoors t_taped t_now t_prongsOf t_wardsOf t_tape t_needOf x2 x3 x4 k0 n s = some r → Gx X E 0 0 (W_X12_bent E o_t a_t t_toldDoors t_barredDoors t_taped t_place0 t_length0 t_fault t_number0 t_open t_codeMany t_waiting t_saidMany t_clauses t_newMany t_rounds t_pinFrom t_pinTimes t_lines t_wasTold t_wasBarred t_goesNow t_jamsNow t_queued t_isKept t_now t_prongsOf t_wardsOf t_tape t_needOf) 195 [(0, .ref o_t), (2, .int x2), (3, .int x3), (4, .int x4), (5, .int s.1), (6, .int s.2)] [] := by
  unfold L_X12_bent_195
  refine lp_ind _ (fun go ih s h => ?_)
  refine g_iload (pc := 195) C dX12_bent_195 5 rfl ?_
  refine g_bipush (pc := 197) (v := 6) C dX12_bent_197 (by decide) ?_
  refine g_icmp_ge (pc := 199) (tgt := 246) C dX12_bent_199 (by decide) h (fun h => ?_) (fun h => ?_)
  · refine g_sub [0, 1, 2, 3, 4] rfl ?_
    exact hk0 _ h
  · refine g_iload (pc := 202) C dX12_bent_202 4 rfl ?_
    refine g_if_eq (pc := 204) (tgt := 237) C dX12_bent_204 (by decide) h (fun h => ?_) (fun h => ?_)
    · refine g_iconst (pc := 237) (v := 0) C dX12_bent_237 (by decide) ?_
      refine g_istore (pc := 238) (lv' := [(5, .int (0 : Int32)), (0, .ref o_t), (2, .int x2), (3, .int x3), (4, .int x4), (6, .int s.2)]) C dX12_bent_238 (by decide) rfl ?_
      refine g_iincn (pc := 240) (j := 5) (d := 1) (lv' := fun v20 => [(6, .int v20), (5, .int (0 : Int32)), (0, .ref o_t), (2, .int x2), (3, .int x3), (4, .int x4)]) C dX12_bent_240 rfl (by decide) (by decide) (fun _ => rfl) h (fun v20 h => ?_)
      refine g_goto (pc := 243) (tgt := 195) C dX12_bent_243 (by decide) ?_
      refine g_sub [2, 3, 4, 5, 1, 0] rfl ?_
      exact ih _ h
    · refine g_aload_n (pc := 207) C dX12_bent_207 rfl 0 rfl ?_
      refine g_get (pc := 208) C fl_X12_7 dX12_bent_208 0 rfl rfl ?_
      refine g_bipush (pc := 211) (v := 44) C dX12_bent_211 (by decide) ?_
      refine g_bipush (pc := 213) (v := 6) C dX12_bent_213 (by decide) ?_
      refine g_iload (pc := 215) C dX12_bent_215 3 rfl ?_
      refine g_imul (pc := 217) C dX12_bent_217 ?_
      refine g_iadd (pc := 218) C dX12_bent_218 ?_
      refine g_iload (pc := 219) C dX12_bent_219 5 rfl ?_
      refine g_iadd (pc := 221) C dX12_bent_221 ?_
      refine g_iald (pc := 222) C dX12_bent_222 1 rfl h (fun v21 h => ?_)
      refine g_aload_n (pc := 223) C dX12_bent_223 rfl 0 rfl ?_
      refine g_get (pc := 224) C fl_X12_108 dX12_bent_224 0 rfl rfl ?_
      refine g_iload (pc := 227) C dX12_bent_227 5 rfl ?_
      refine g_iald (pc := 229) C dX12_bent_229 5 rfl h (fun v22 h => ?_)
      refine g_icmp_lt (pc := 230) (tgt := 237) C dX12_bent_230 (by decide) h (fun h => ?_) (fun h => ?_)
      · refine g_iconst (pc := 237) (v := 0) C dX12_bent_237 (by decide) ?_
        refine g_istore (pc := 238) (lv' := [(5, .int (0 : Int32)), (0, .ref o_t), (2, .int x2), (3, .int x3), (4, .int x4), (6, .int s.2)]) C dX12_bent_238 (by decide) rfl ?_
        refine g_iincn (pc := 240) (j := 5) (d := 1) (lv' := fun v23 => [(6, .int v23), (5, .int (0 : Int32)), (0, .ref o_t), (2, .int x2), (3, .int x3), (4, .int x4)]) C dX12_bent_240 rfl (by decide) (by decide) (fun _ => rfl) h (fun v23 h => ?_)
        refine g_goto (pc := 243) (tgt := 195) C dX12_bent_243 (by decide) ?_
        refine g_sub [2, 3, 4, 5, 1, 0] rfl ?_
        exact ih _ h
      · refine g_iconst (pc := 233) (v := 1) C dX12_bent_233 (by decide) ?_
        refine g_goto (pc := 234) (tgt := 238) C dX12_bent_234 (by decide) ?_
        refine g_istore (pc := 238) (lv' := [(5, .int (1 : Int32)), (0, .ref o_t), (2, .int x2), (3, .int x3), (4, .int x4), (6, .int s.2)]) C dX12_bent_238 (by decide) rfl ?_
        refine g_iincn (pc := 240) (j := 5) (d := 1) (lv' := fun v24 => [(6, .int v24), (5, .int (1 : Int32)), (0, .ref o_t), (2, .int x2), (3, .int x3), (4, .int x4)]) C dX12_bent_240 rfl (by decide) (by decide) (fun _ => rfl) h (fun v24 h => ?_)
        refine g_goto (pc := 243) (tgt := 195) C dX12_bent_243 (by decide) ?_
        refine g_sub [2, 3, 4, 5, 1, 0] rfl ?_
        exact ih _ h
set_option maxHeartbeats 4000000 in
set_option maxRecDepth 100000 in
theorem kL_X12_bent_165 {X : GC} {E : GE} (C : Cx X E cX12_bent RX12 3 7) (o_t : Nat) (a_t : Nat → Nat) (t_barredDoors : Int32) (t_place0 : Int32) (t_length0 : Int32) (t_fault : Int32) (t_number0 : Int32) (t_open : Int32) (t_codeMany : Int32) (t_waiting : Int32) (t_saidMany : Int32) (t_clauses : Int32) (t_newMany : Int32) (t_rounds : Int32) (t_pinFrom : Int32) (t_pinTimes : Int32) (t_lines : Int32) (t_wasTold : Int32) (t_wasBarred : Int32) (t_goesNow : Int32) (t_jamsNow : Int32) (t_queued : Int32) (t_isKept : Int32) (t_toldDoors : Int32) (t_taped : Int32) (t_now : (Nat → Int32)) (t_prongsOf : (Nat → Int32)) (t_wardsOf : (Nat → Int32)) (t_tape : (Nat → Int32)) (t_needOf : (Nat → Int32)) (x2 : Int32) {r : Int32 × Int32 × (Nat → Int32)} (hret : RtI X E cX12_bent .int 0 0 (fun w => w = (W_X12_bent E o_t a_t t_toldDoors t_barredDoors r.2.1 t_place0 t_length0 t_fault t_number0 t_open t_codeMany t_waiting t_saidMany t_clauses t_newMany t_rounds t_pinFrom t_pinTimes t_lines t_wasTold t_wasBarred t_goesNow t_jamsNow t_queued t_isKept t_now t_prongsOf t_wardsOf t_tape r.2.2)) r.1) : ∀ (n : Nat) (s : Int32 × Int32), L_X12_bent_165 t_toldDoors t_taped t_now t_prongsOf t_wardsOf t_tape t_needOf x2 n s = some r → Gx X E 0 0 (W_X12_bent E o_t a_t t_toldDoors t_barredDoors t_taped t_place0 t_length0 t_fault t_number0 t_open t_codeMany t_waiting t_saidMany t_clauses t_newMany t_rounds t_pinFrom t_pinTimes t_lines t_wasTold t_wasBarred t_goesNow t_jamsNow t_queued t_isKept t_now t_prongsOf t_wardsOf t_tape t_needOf) 165 [(0, .ref o_t), (2, .int x2), (3, .int s.1), (4, .int s.2)] [] := by
  unfold L_X12_bent_165
  refine lp_ind _ (fun go ih s h => ?_)
  refine g_iload (pc := 165) C dX12_bent_165 3 rfl ?_
  refine g_bipush (pc := 167) (v := 10) C dX12_bent_167 (by decide) ?_
  refine g_icmp_ge (pc := 169) (tgt := 264) C dX12_bent_169 (by decide) h (fun h => ?_) (fun h => ?_)
  · refine g_iload_n (pc := 264) C dX12_bent_264 rfl 2 rfl ?_
    cases h
    exact hret _ _ _ dX12_bent_265 rfl rfl
  · refine g_iload_n (pc := 172) C dX12_bent_172 rfl 1 rfl ?_
    refine g_jn (fun s19 : Int32 => Gx X E 0 0 (W_X12_bent E o_t a_t t_toldDoors t_barredDoors t_taped t_place0 t_length0 t_fault t_number0 t_open t_codeMany t_waiting t_saidMany t_clauses t_newMany t_rounds t_pinFrom t_pinTimes t_lines t_wasTold t_wasBarred t_goesNow t_jamsNow t_queued t_isKept t_now t_prongsOf t_wardsOf t_tape t_needOf) 190 [(0, .ref o_t), (2, .int x2), (3, .int s.1), (4, .int s.2)] [.int s19]) h (fun s19 h => ?_) (fun j190 hj190 h => ?_)
    · refine g_istore (pc := 190) (lv' := [(5, .int s19), (0, .ref o_t), (2, .int x2), (3, .int s.1), (4, .int s.2)]) C dX12_bent_190 (by decide) rfl ?_
      refine g_iconst (pc := 192) (v := 0) C dX12_bent_192 (by decide) ?_
      refine g_istore (pc := 193) (lv' := [(6, .int (0 : Int32)), (5, .int s19), (0, .ref o_t), (2, .int x2), (3, .int s.1), (4, .int s.2)]) C dX12_bent_193 (by decide) rfl ?_
      refine g_sub [2, 3, 4, 5, 1, 0] rfl ?_
      refine kL_X12_bent_195 C o_t a_t t_barredDoors t_place0 t_length0 t_fault t_number0 t_open t_codeMany t_waiting t_saidMany t_clauses t_newMany t_rounds t_pinFrom t_pinTimes t_lines t_wasTold t_wasBarred t_goesNow t_jamsNow t_queued t_isKept t_toldDoors t_taped t_now t_prongsOf t_wardsOf t_tape t_needOf x2 s.1 s.2 _ hret (fun s25 h => ?_) _ _ h
      refine g_iload (pc := 246) C dX12_bent_246 4 rfl ?_
      refine g_if_eq (pc := 248) (tgt := 258) C dX12_bent_248 (by decide) h (fun h => ?_) (fun h => ?_)
      · refine g_iincn (pc := 258) (j := 3) (d := 1) (lv' := fun v26 => [(4, .int v26), (0, .ref o_t), (2, .int x2), (3, .int s.1), (5, .int s25)]) C dX12_bent_258 rfl (by decide) (by decide) (fun _ => rfl) h (fun v26 h => ?_)
        refine g_goto (pc := 261) (tgt := 165) C dX12_bent_261 (by decide) ?_
        refine g_sub [1, 2, 3, 0] rfl ?_
        exact ih _ h
      · refine g_iload_n (pc := 251) C dX12_bent_251 rfl 2 rfl ?_
        refine g_iconst (pc := 252) (v := 1) C dX12_bent_252 (by decide) ?_
        refine g_iload (pc := 253) C dX12_bent_253 3 rfl ?_
        refine g_ishl (pc := 255) C dX12_bent_255 ?_
        refine g_ior (pc := 256) C dX12_bent_256 ?_
        refine g_nm h (fun v27 h => ?_)
        refine g_istore_n (pc := 257) (lv' := [(3, .int v27), (0, .ref o_t), (2, .int x2), (4, .int s.2), (5, .int s25)]) C dX12_bent_257 rfl (by decide) rfl ?_
        refine g_iincn (pc := 258) (j := 3) (d := 1) (lv' := fun v28 => [(4, .int v28), (3, .int v27), (0, .ref o_t), (2, .int x2), (5, .int s25)]) C dX12_bent_258 rfl (by decide) (by decide) (fun _ => rfl) h (fun v28 h => ?_)
        refine g_goto (pc := 261) (tgt := 165) C dX12_bent_261 (by decide) ?_
        refine g_sub [2, 3, 1, 0] rfl ?_
        exact ih _ h
    refine g_jn (fun s29 : Unit => Gx X E 0 0 (W_X12_bent E o_t a_t t_toldDoors t_barredDoors t_taped t_place0 t_length0 t_fault t_number0 t_open t_codeMany t_waiting t_saidMany t_clauses t_newMany t_rounds t_pinFrom t_pinTimes t_lines t_wasTold t_wasBarred t_goesNow t_jamsNow t_queued t_isKept t_now t_prongsOf t_wardsOf t_tape t_needOf) 189 [(0, .ref o_t), (2, .int x2), (3, .int s.1), (4, .int s.2)] []) h (fun s29 h => ?_) (fun j189 hj189 h => ?_)
    · refine g_iconst (pc := 189) (v := 0) C dX12_bent_189 (by decide) ?_
      exact hj190 _ h
    refine g_if_eq (pc := 173) (tgt := 189) C dX12_bent_173 (by decide) h (fun h => ?_) (fun h => ?_)
    · exact hj189 _ h
    · refine g_aload_n (pc := 176) C dX12_bent_176 rfl 0 rfl ?_
      refine g_iload (pc := 177) C dX12_bent_177 3 rfl ?_
      obtain ⟨u30, hu30, h⟩ := bs h
      refine g_callV (pc := 179) (st := []) (st1 := [.int u30]) (ws' := (W_X12_bent E o_t a_t t_toldDoors t_barredDoors t_taped t_place0 t_length0 t_fault t_number0 t_open t_codeMany t_waiting t_saidMany t_clauses t_newMany t_rounds t_pinFrom t_pinTimes t_lines t_wasTold t_wasBarred t_goesNow t_jamsNow t_queued t_isKept t_now t_prongsOf t_wardsOf t_tape t_needOf)) C mv_X12_isWoman mi_X12_isWoman ml_X12_268 (c_X12_isWoman X.2.1 E o_t a_t t_toldDoors t_barredDoors t_taped t_place0 t_length0 t_fault t_number0 t_open t_codeMany t_waiting t_saidMany t_clauses t_newMany t_rounds t_pinFrom t_pinTimes t_lines t_wasTold t_wasBarred t_goesNow t_jamsNow t_queued t_isKept t_now s.2 u30 hu30) dX12_bent_179 (by decide) rfl (Nat.le_of_ble_eq_true rfl) 0 11 rfl rfl [0, 1] rfl (by decide) rfl rfl rfl rfl ?_
      refine g_if_eq (pc := 182) (tgt := 189) C dX12_bent_182 (by decide) h (fun h => ?_) (fun h => ?_)
      · exact hj189 _ h
      · refine g_iconst (pc := 185) (v := 1) C dX12_bent_185 (by decide) ?_
        refine g_goto (pc := 186) (tgt := 190) C dX12_bent_186 (by decide) ?_
        exact hj190 _ h
set_option maxHeartbeats 4000000 in
set_option maxRecDepth 100000 in
theorem c_X12_bent (l : Launch) (E : GE) (o_t : Nat) (a_t : Nat → Nat) (t_toldDoors : Int32) (t_barredDoors : Int32) (t_taped : Int32) (t_place0 : Int32) (t_length0 : Int32) (t_fault : Int32) (t_number0 : Int32) (t_open : Int32) (t_codeMany : Int32) (t_waiting : Int32) (t_saidMany : Int32) (t_clauses : Int32) (t_newMany : Int32) (t_rounds : Int32) (t_pinFrom : Int32) (t_pinTimes : Int32) (t_lines : Int32) (t_wasTold : Int32) (t_wasBarred : Int32) (t_goesNow : Int32) (t_jamsNow : Int32) (t_queued : Int32) (t_isKept : Int32) (t_now : (Nat → Int32)) (t_prongsOf : (Nat → Int32)) (t_wardsOf : (Nat → Int32)) (t_tape : (Nat → Int32)) (t_needOf : (Nat → Int32)) (x1 : Int32) (r : Int32 × Int32 × (Nat → Int32)) (h : f_X12_bent t_toldDoors t_taped t_now t_prongsOf t_wardsOf t_tape t_needOf x1 = some r) : Cn l E yX12_bent cX12_bent 7 (some .int) 3 0 0 [.ref o_t, .int x1] (W_X12_bent E o_t a_t t_toldDoors t_barredDoors t_taped t_place0 t_length0 t_fault t_number0 t_open t_codeMany t_waiting t_saidMany t_clauses t_newMany t_rounds t_pinFrom t_pinTimes t_lines t_wasTold t_wasBarred t_goesNow t_jamsNow t_queued t_isKept t_now t_prongsOf t_wardsOf t_tape t_needOf) (fun w => w = (W_X12_bent E o_t a_t t_toldDoors t_barredDoors r.2.1 t_place0 t_length0 t_fault t_number0 t_open t_codeMany t_waiting t_saidMany t_clauses t_newMany t_rounds t_pinFrom t_pinTimes t_lines t_wasTold t_wasBarred t_goesNow t_jamsNow t_queued t_isKept t_now t_prongsOf t_wardsOf t_tape r.2.2)) (some (.int r.1)) := by
  refine Cn.ofI (by decide +kernel) (Nat.le_of_ble_eq_true rfl) (fun X hX hR C hret => ?_)
  subst hX
  show Gx X E 0 0 (W_X12_bent E o_t a_t t_toldDoors t_barredDoors t_taped t_place0 t_length0 t_fault t_number0 t_open t_codeMany t_waiting t_saidMany t_clauses t_newMany t_rounds t_pinFrom t_pinTimes t_lines t_wasTold t_wasBarred t_goesNow t_jamsNow t_queued t_isKept t_now t_prongsOf t_wardsOf t_tape t_needOf) 0 [(0, .ref o_t), (1, .int x1)] []
  unfold f_X12_bent at h
  refine g_iload_n (pc := 0) C dX12_bent_0 rfl 1 rfl ?_
  refine g_iconst (pc := 1) (v := 1) C dX12_bent_1 (by decide) ?_
  refine g_bipush (pc := 2) (v := 12) C dX12_bent_2 (by decide) ?_
  obtain ⟨u1, hu1, h⟩ := bs h
  refine g_callS (pc := 4) (st := []) (st1 := [.int u1]) (ws' := (W_X12_bent E o_t a_t t_toldDoors t_barredDoors t_taped t_place0 t_length0 t_fault t_number0 t_open t_codeMany t_waiting t_saidMany t_clauses t_newMany t_rounds t_pinFrom t_pinTimes t_lines t_wasTold t_wasBarred t_goesNow t_jamsNow t_queued t_isKept t_now t_prongsOf t_wardsOf t_tape t_needOf)) C mv_X12_in ms_X12_in ml_X12_117 (c_X12_in X.2.1 E x1 (1 : Int32) (12 : Int32) u1 hu1) dX12_bent_4 (by decide) rfl (Nat.le_of_ble_eq_true rfl) [] rfl (by decide) rfl rfl rfl rfl ?_
  refine g_if_eq (pc := 7) (tgt := 20) C dX12_bent_7 (by decide) h (fun h => ?_) (fun h => ?_)
  · refine g_iconst (pc := 20) (v := -1) C dX12_bent_20 (by decide) ?_
    cases h
    exact hret _ _ _ dX12_bent_21 rfl rfl
  · refine g_iconst (pc := 10) (v := 2) C dX12_bent_10 (by decide) ?_
    refine g_iload_n (pc := 11) C dX12_bent_11 rfl 1 rfl ?_
    refine g_imul (pc := 12) C dX12_bent_12 ?_
    refine g_aload_n (pc := 13) C dX12_bent_13 rfl 0 rfl ?_
    refine g_get (pc := 14) C fl_X12_139 dX12_bent_14 0 rfl rfl ?_
    refine g_icmp_le (pc := 17) (tgt := 22) C dX12_bent_17 (by decide) h (fun h => ?_) (fun h => ?_)
    · refine g_aload_n (pc := 22) C dX12_bent_22 rfl 0 rfl ?_
      refine g_iconst (pc := 23) (v := 0) C dX12_bent_23 (by decide) ?_
      refine g_put (pc := 24) (ws' := (W_X12_bent E o_t a_t t_toldDoors t_barredDoors (0 : Int32) t_place0 t_length0 t_fault t_number0 t_open t_codeMany t_waiting t_saidMany t_clauses t_newMany t_rounds t_pinFrom t_pinTimes t_lines t_wasTold t_wasBarred t_goesNow t_jamsNow t_queued t_isKept t_now t_prongsOf t_wardsOf t_tape t_needOf)) C .int fl_X12_139 dX12_bent_24 0 rfl (by decide +kernel) rfl rfl (Nat.le_of_ble_eq_true rfl) rfl ?_
      refine g_iconst (pc := 27) (v := 1) C dX12_bent_27 (by decide) ?_
      refine g_istore_n (pc := 28) (lv' := [(2, .int (1 : Int32)), (0, .ref o_t), (1, .int x1)]) C dX12_bent_28 rfl (by decide) rfl ?_
      refine g_iconst (pc := 29) (v := 0) C dX12_bent_29 (by decide) ?_
      refine g_istore_n (pc := 30) (lv' := [(3, .int (0 : Int32)), (2, .int (1 : Int32)), (0, .ref o_t), (1, .int x1)]) C dX12_bent_30 rfl (by decide) rfl ?_
      refine g_sub [2, 3, 1, 0] rfl ?_
      refine kL_X12_bent_31 C o_t a_t t_barredDoors t_place0 t_length0 t_fault t_number0 t_open t_codeMany t_waiting t_saidMany t_clauses t_newMany t_rounds t_pinFrom t_pinTimes t_lines t_wasTold t_wasBarred t_goesNow t_jamsNow t_queued t_isKept t_toldDoors (0 : Int32) t_now t_prongsOf t_wardsOf t_tape x1 (1 : Int32) _ hret (fun s4 h => ?_) _ _ h
      refine g_iconst (pc := 50) (v := 0) C dX12_bent_50 (by decide) ?_
      refine g_istore_n (pc := 51) (lv' := [(3, .int (0 : Int32)), (0, .ref o_t), (1, .int x1), (2, .int (1 : Int32))]) C dX12_bent_51 rfl (by decide) rfl ?_
      refine g_sub [1, 2, 3, 0] rfl ?_
      refine kL_X12_bent_52 C o_t a_t t_barredDoors t_place0 t_length0 t_fault t_number0 t_open t_codeMany t_waiting t_saidMany t_clauses t_newMany t_rounds t_pinFrom t_pinTimes t_lines t_wasTold t_wasBarred t_goesNow t_jamsNow t_queued t_isKept t_toldDoors (0 : Int32) t_now t_prongsOf t_wardsOf t_tape s4 x1 (1 : Int32) _ hret (fun s9 h => ?_) _ _ h
      refine g_iconst (pc := 94) (v := 0) C dX12_bent_94 (by decide) ?_
      refine g_istore_n (pc := 95) (lv' := [(3, .int (0 : Int32)), (0, .ref o_t), (1, .int x1), (2, .int (1 : Int32))]) C dX12_bent_95 rfl (by decide) rfl ?_
      refine g_sub [1, 2, 3, 0] rfl ?_
      refine kL_X12_bent_96 C o_t a_t t_barredDoors t_place0 t_length0 t_fault t_number0 t_open t_codeMany t_waiting t_saidMany t_clauses t_newMany t_rounds t_pinFrom t_pinTimes t_lines t_wasTold t_wasBarred t_goesNow t_jamsNow t_queued t_isKept t_toldDoors (0 : Int32) t_now t_prongsOf t_wardsOf t_tape x1 _ hret (fun s18 h => ?_) _ _ h
      refine g_iconst (pc := 160) (v := 0) C dX12_bent_160 (by decide) ?_
      refine g_istore_n (pc := 161) (lv' := [(3, .int (0 : Int32)), (0, .ref o_t), (2, .int s18.1)]) C dX12_bent_161 rfl (by decide) rfl ?_
      refine g_iconst (pc := 162) (v := 0) C dX12_bent_162 (by decide) ?_
      refine g_istore (pc := 163) (lv' := [(4, .int (0 : Int32)), (3, .int (0 : Int32)), (0, .ref o_t), (2, .int s18.1)]) C dX12_bent_163 (by decide) rfl ?_
      refine g_sub [2, 3, 1, 0] rfl ?_
      refine kL_X12_bent_165 C o_t a_t t_barredDoors t_place0 t_length0 t_fault t_number0 t_open t_codeMany t_waiting t_saidMany t_clauses t_newMany t_rounds t_pinFrom t_pinTimes t_lines t_wasTold t_wasBarred t_goesNow t_jamsNow t_queued t_isKept t_toldDoors (0 : Int32) t_now t_prongsOf t_wardsOf t_tape s18.2 s18.1 hret  _ _ h
    · refine g_iconst (pc := 20) (v := -1) C dX12_bent_20 (by decide) ?_
      cases h
      exact hret _ _ _ dX12_bent_21 rfl rfl
abbrev W_X12_byLaw (E : GE) (O_t : Nat) (a_t : Nat → Nat) (t_toldDoors : Int32) (t_barredDoors : Int32) (t_taped : Int32) (t_place0 : Int32) (t_length0 : Int32) (t_fault : Int32) (t_number0 : Int32) (t_open : Int32) (t_codeMany : Int32) (t_waiting : Int32) (t_saidMany : Int32) (t_clauses : Int32) (t_newMany : Int32) (t_rounds : Int32) (t_pinFrom : Int32) (t_pinTimes : Int32) (t_lines : Int32) (t_wasTold : Int32) (t_wasBarred : Int32) (t_goesNow : Int32) (t_jamsNow : Int32) (t_queued : Int32) (t_isKept : Int32) (t_codes : (Nat → Int32)) (t_clauseOf : (Nat → Int32)) (t_codeFrom : (Nat → Int32)) (t_codeHalf : (Nat → Int32)) (t_codeTo : (Nat → Int32)) (t_stack : (Nat → Int32)) (t_facts : (Nat → Int32)) : va_W := [(O_t, ob_X12 a_t t_toldDoors t_barredDoors t_taped t_place0 t_length0 t_fault t_number0 t_open t_codeMany t_waiting t_saidMany t_clauses t_newMany t_rounds t_pinFrom t_pinTimes t_lines t_wasTold t_wasBarred t_goesNow t_jamsNow t_queued t_isKept), (a_t 30, .inl (E.2.1, 260, .inl t_codes)), (a_t 31, .inl (E.2.1, 16, .inl t_clauseOf)), (a_t 32, .inl (E.2.1, 16, .inl t_codeFrom)), (a_t 33, .inl (E.2.1, 16, .inl t_codeHalf)), (a_t 34, .inl (E.2.1, 16, .inl t_codeTo)), (a_t 35, .inl (E.2.1, 260, .inl t_stack)), (a_t 36, .inl (E.2.1, 10, .inl t_facts))]
def L_X12_byLaw_2 (t_clauses : Int32) (t_codes : (Nat → Int32)) (t_clauseOf : (Nat → Int32)) (t_codeFrom : (Nat → Int32)) (t_codeHalf : (Nat → Int32)) (t_codeTo : (Nat → Int32)) (t_facts : (Nat → Int32)) (x1 : Int32) (x2 : Int32) (k0 : Int32 × (Nat → Int32) → Option (Int32 × (Nat → Int32))) : Nat → Int32 × (Nat → Int32) → Option (Int32 × (Nat → Int32)) := lp fun go s => if t_clauses ≤ s.1 then (some ((0 : Int32), s.2)) else rd t_clauseOf 16 s.1 fun v1 => if v1 = x1 then (rd t_codeHalf 16 s.1 fun v3 => rd t_codeTo 16 s.1 fun v4 => (f_X12_reckonsTo t_codes s.2 t_facts v3 v4).bind fun u5 => if u5.1 = (1 : Int32) then (k0 (s.1, u5.2)) else nm (s.1 + (1 : Int32)) fun v6 => go (v6, u5.2)) else nm (s.1 + (1 : Int32)) fun v2 => go (v2, s.2)
def f_X12_byLaw (t_clauses : Int32) (t_codes : (Nat → Int32)) (t_clauseOf : (Nat → Int32)) (t_codeFrom : (Nat → Int32)) (t_codeHalf : (Nat → Int32)) (t_codeTo : (Nat → Int32)) (t_stack : (Nat → Int32)) (t_facts : (Nat → Int32)) (x1 : Int32) (x2 : Int32) : Option (Int32 × (Nat → Int32)) := L_X12_byLaw_2 t_clauses t_codes t_clauseOf t_codeFrom t_codeHalf t_codeTo t_facts x1 x2 (fun s7 => rd t_codeFrom 16 s7.1 fun v8 => rd t_codeHalf 16 s7.1 fun v9 => (f_X12_reckonsTo t_codes s7.2 t_facts v8 v9).bind fun u10 => if 0 ≤ u10.1 then (if u10.1 ≤ x2 then (some (u10.1, u10.2)) else some (x2, u10.2)) else some ((0 : Int32), u10.2)) fu ((0 : Int32), t_stack)
theorem dX12_byLaw_0 : decode cX12_byLaw 0 = .ok (.iconst 0, 1) := by decide +kernel
theorem dX12_byLaw_1 : decode cX12_byLaw 1 = .ok (.istore_n 3, 1) := by decide +kernel
theorem dX12_byLaw_2 : decode cX12_byLaw 2 = .ok (.iload_n 3, 1) := by decide +kernel
theorem dX12_byLaw_3 : decode cX12_byLaw 3 = .ok (.aload_n 0, 1) := by decide +kernel
theorem dX12_byLaw_4 : decode cX12_byLaw 4 = .ok (.getfield 239, 3) := by decide +kernel
theorem dX12_byLaw_7 : decode cX12_byLaw 7 = .ok (.if_icmp .ge 82, 3) := by decide +kernel
theorem dX12_byLaw_10 : decode cX12_byLaw 10 = .ok (.aload_n 0, 1) := by decide +kernel
theorem dX12_byLaw_11 : decode cX12_byLaw 11 = .ok (.getfield 68, 3) := by decide +kernel
theorem dX12_byLaw_14 : decode cX12_byLaw 14 = .ok (.iload_n 3, 1) := by decide +kernel
theorem dX12_byLaw_15 : decode cX12_byLaw 15 = .ok (.iaload, 1) := by decide +kernel
theorem dX12_byLaw_16 : decode cX12_byLaw 16 = .ok (.iload_n 1, 1) := by decide +kernel
theorem dX12_byLaw_17 : decode cX12_byLaw 17 = .ok (.if_icmp .ne 66, 3) := by decide +kernel
theorem dX12_byLaw_20 : decode cX12_byLaw 20 = .ok (.aload_n 0, 1) := by decide +kernel
theorem dX12_byLaw_21 : decode cX12_byLaw 21 = .ok (.aload_n 0, 1) := by decide +kernel
theorem dX12_byLaw_22 : decode cX12_byLaw 22 = .ok (.getfield 74, 3) := by decide +kernel
theorem dX12_byLaw_25 : decode cX12_byLaw 25 = .ok (.iload_n 3, 1) := by decide +kernel
theorem dX12_byLaw_26 : decode cX12_byLaw 26 = .ok (.iaload, 1) := by decide +kernel
theorem dX12_byLaw_27 : decode cX12_byLaw 27 = .ok (.aload_n 0, 1) := by decide +kernel
theorem dX12_byLaw_28 : decode cX12_byLaw 28 = .ok (.getfield 77, 3) := by decide +kernel
theorem dX12_byLaw_31 : decode cX12_byLaw 31 = .ok (.iload_n 3, 1) := by decide +kernel
theorem dX12_byLaw_32 : decode cX12_byLaw 32 = .ok (.iaload, 1) := by decide +kernel
theorem dX12_byLaw_33 : decode cX12_byLaw 33 = .ok (.invokevirtual 246, 3) := by decide +kernel
theorem dX12_byLaw_36 : decode cX12_byLaw 36 = .ok (.iconst 1, 1) := by decide +kernel
theorem dX12_byLaw_37 : decode cX12_byLaw 37 = .ok (.if_icmp .eq 6, 3) := by decide +kernel
theorem dX12_byLaw_40 : decode cX12_byLaw 40 = .ok (.goto 43, 3) := by decide +kernel
theorem dX12_byLaw_43 : decode cX12_byLaw 43 = .ok (.aload_n 0, 1) := by decide +kernel
theorem dX12_byLaw_44 : decode cX12_byLaw 44 = .ok (.aload_n 0, 1) := by decide +kernel
theorem dX12_byLaw_45 : decode cX12_byLaw 45 = .ok (.getfield 71, 3) := by decide +kernel
theorem dX12_byLaw_48 : decode cX12_byLaw 48 = .ok (.iload_n 3, 1) := by decide +kernel
theorem dX12_byLaw_49 : decode cX12_byLaw 49 = .ok (.iaload, 1) := by decide +kernel
theorem dX12_byLaw_50 : decode cX12_byLaw 50 = .ok (.aload_n 0, 1) := by decide +kernel
theorem dX12_byLaw_51 : decode cX12_byLaw 51 = .ok (.getfield 74, 3) := by decide +kernel
theorem dX12_byLaw_54 : decode cX12_byLaw 54 = .ok (.iload_n 3, 1) := by decide +kernel
theorem dX12_byLaw_55 : decode cX12_byLaw 55 = .ok (.iaload, 1) := by decide +kernel
theorem dX12_byLaw_56 : decode cX12_byLaw 56 = .ok (.invokevirtual 246, 3) := by decide +kernel
theorem dX12_byLaw_59 : decode cX12_byLaw 59 = .ok (.istore 4, 2) := by decide +kernel
theorem dX12_byLaw_61 : decode cX12_byLaw 61 = .ok (.iload 4, 2) := by decide +kernel
theorem dX12_byLaw_63 : decode cX12_byLaw 63 = .ok (.ifCond .ge 7, 3) := by decide +kernel
theorem dX12_byLaw_66 : decode cX12_byLaw 66 = .ok (.iconst 0, 1) := by decide +kernel
theorem dX12_byLaw_67 : decode cX12_byLaw 67 = .ok (.goto 15, 3) := by decide +kernel
theorem dX12_byLaw_70 : decode cX12_byLaw 70 = .ok (.iload 4, 2) := by decide +kernel
theorem dX12_byLaw_72 : decode cX12_byLaw 72 = .ok (.iload_n 2, 1) := by decide +kernel
theorem dX12_byLaw_73 : decode cX12_byLaw 73 = .ok (.if_icmp .le 7, 3) := by decide +kernel
theorem dX12_byLaw_76 : decode cX12_byLaw 76 = .ok (.iload_n 2, 1) := by decide +kernel
theorem dX12_byLaw_77 : decode cX12_byLaw 77 = .ok (.goto 5, 3) := by decide +kernel
theorem dX12_byLaw_80 : decode cX12_byLaw 80 = .ok (.iload 4, 2) := by decide +kernel
theorem dX12_byLaw_82 : decode cX12_byLaw 82 = .ok (.ireturn, 1) := by decide +kernel
theorem dX12_byLaw_83 : decode cX12_byLaw 83 = .ok (.iinc 3 1, 3) := by decide +kernel
theorem dX12_byLaw_86 : decode cX12_byLaw 86 = .ok (.goto (-84), 3) := by decide +kernel
theorem dX12_byLaw_89 : decode cX12_byLaw 89 = .ok (.iconst 0, 1) := by decide +kernel
theorem dX12_byLaw_90 : decode cX12_byLaw 90 = .ok (.ireturn, 1) := by decide +kernel
set_option maxHeartbeats 4000000 in
set_option maxRecDepth 100000 in
theorem kL_X12_byLaw_2 {X : GC} {E : GE} (C : Cx X E cX12_byLaw RX12 3 5) (o_t : Nat) (a_t : Nat → Nat) (t_toldDoors : Int32) (t_barredDoors : Int32) (t_taped : Int32) (t_place0 : Int32) (t_length0 : Int32) (t_fault : Int32) (t_number0 : Int32) (t_open : Int32) (t_codeMany : Int32) (t_waiting : Int32) (t_saidMany : Int32) (t_newMany : Int32) (t_rounds : Int32) (t_pinFrom : Int32) (t_pinTimes : Int32) (t_lines : Int32) (t_wasTold : Int32) (t_wasBarred : Int32) (t_goesNow : Int32) (t_jamsNow : Int32) (t_queued : Int32) (t_isKept : Int32) (t_clauses : Int32) (t_codes : (Nat → Int32)) (t_clauseOf : (Nat → Int32)) (t_codeFrom : (Nat → Int32)) (t_codeHalf : (Nat → Int32)) (t_codeTo : (Nat → Int32)) (t_facts : (Nat → Int32)) (x1 : Int32) (x2 : Int32) (k0 : Int32 × (Nat → Int32) → Option (Int32 × (Nat → Int32))) {r : Int32 × (Nat → Int32)} (hret : RtI X E cX12_byLaw .int 0 0 (fun w => w = (W_X12_byLaw E o_t a_t t_toldDoors t_barredDoors t_taped t_place0 t_length0 t_fault t_number0 t_open t_codeMany t_waiting t_saidMany t_clauses t_newMany t_rounds t_pinFrom t_pinTimes t_lines t_wasTold t_wasBarred t_goesNow t_jamsNow t_queued t_isKept t_codes t_clauseOf t_codeFrom t_codeHalf t_codeTo r.2 t_facts)) r.1) (hk0 : ∀ u, k0 u = some r → Gx X E 0 0 (W_X12_byLaw E o_t a_t t_toldDoors t_barredDoors t_taped t_place0 t_length0 t_fault t_number0 t_open t_codeMany t_waiting t_saidMany t_clauses t_newMany t_rounds t_pinFrom t_pinTimes t_lines t_wasTold t_wasBarred t_goesNow t_jamsNow t_queued t_isKept t_codes t_clauseOf t_codeFrom t_codeHalf t_codeTo u.2 t_facts) 43 [(0, .ref o_t), (2, .int x2), (3, .int u.1)] []) : ∀ (n : Nat) (s : Int32 × (Nat → Int32)), L_X12_byLaw_2 t_clauses t_codes t_clauseOf t_codeFrom t_codeHalf t_codeTo t_facts x1 x2 k0 n s = some r → Gx X E 0 0 (W_X12_byLaw E o_t a_t t_toldDoors t_barredDoors t_taped t_place0 t_length0 t_fault t_number0 t_open t_codeMany t_waiting t_saidMany t_clauses t_newMany t_rounds t_pinFrom t_pinTimes t_lines t_wasTold t_wasBarred t_goesNow t_jamsNow t_queued t_isKept t_codes t_clauseOf t_codeFrom t_codeHalf t_codeTo s.2 t_facts) 2 [(0, .ref o_t), (1, .int x1), (2, .int x2), (3, .int s.1)] [] := by
  unfold L_X12_byLaw_2
  refine lp_ind _ (fun go ih s h => ?_)
  refine g_iload_n (pc := 2) C dX12_byLaw_2 rfl 3 rfl ?_
  refine g_aload_n (pc := 3) C dX12_byLaw_3 rfl 0 rfl ?_
  refine g_get (pc := 4) C fl_X12_239 dX12_byLaw_4 0 rfl rfl ?_
  refine g_icmp_ge (pc := 7) (tgt := 89) C dX12_byLaw_7 (by decide) h (fun h => ?_) (fun h => ?_)
  · refine g_iconst (pc := 89) (v := 0) C dX12_byLaw_89 (by decide) ?_
    cases h
    exact hret _ _ _ dX12_byLaw_90 rfl rfl
  · refine g_aload_n (pc := 10) C dX12_byLaw_10 rfl 0 rfl ?_
    refine g_get (pc := 11) C fl_X12_68 dX12_byLaw_11 0 rfl rfl ?_
    refine g_iload_n (pc := 14) C dX12_byLaw_14 rfl 3 rfl ?_
    refine g_iald (pc := 15) C dX12_byLaw_15 2 rfl h (fun v1 h => ?_)
    refine g_iload_n (pc := 16) C dX12_byLaw_16 rfl 1 rfl ?_
    refine g_icmp_ne (pc := 17) (tgt := 83) C dX12_byLaw_17 (by decide) h (fun h => ?_) (fun h => ?_)
    · refine g_iincn (pc := 83) (j := 3) (d := 1) (lv' := fun v2 => [(3, .int v2), (0, .ref o_t), (1, .int x1), (2, .int x2)]) C dX12_byLaw_83 rfl (by decide) (by decide) (fun _ => rfl) h (fun v2 h => ?_)
      refine g_goto (pc := 86) (tgt := 2) C dX12_byLaw_86 (by decide) ?_
      refine g_sub [1, 2, 3, 0] rfl ?_
      exact ih _ h
    · refine g_aload_n (pc := 20) C dX12_byLaw_20 rfl 0 rfl ?_
      refine g_aload_n (pc := 21) C dX12_byLaw_21 rfl 0 rfl ?_
      refine g_get (pc := 22) C fl_X12_74 dX12_byLaw_22 0 rfl rfl ?_
      refine g_iload_n (pc := 25) C dX12_byLaw_25 rfl 3 rfl ?_
      refine g_iald (pc := 26) C dX12_byLaw_26 4 rfl h (fun v3 h => ?_)
      refine g_aload_n (pc := 27) C dX12_byLaw_27 rfl 0 rfl ?_
      refine g_get (pc := 28) C fl_X12_77 dX12_byLaw_28 0 rfl rfl ?_
      refine g_iload_n (pc := 31) C dX12_byLaw_31 rfl 3 rfl ?_
      refine g_iald (pc := 32) C dX12_byLaw_32 5 rfl h (fun v4 h => ?_)
      obtain ⟨u5, hu5, h⟩ := bs h
      refine g_callV (pc := 33) (st := []) (st1 := [.int u5.1]) (ws' := (W_X12_byLaw E o_t a_t t_toldDoors t_barredDoors t_taped t_place0 t_length0 t_fault t_number0 t_open t_codeMany t_waiting t_saidMany t_clauses t_newMany t_rounds t_pinFrom t_pinTimes t_lines t_wasTold t_wasBarred t_goesNow t_jamsNow t_queued t_isKept t_codes t_clauseOf t_codeFrom t_codeHalf t_codeTo u5.2 t_facts)) C mv_X12_reckonsTo mi_X12_reckonsTo ml_X12_246 (c_X12_reckonsTo X.2.1 E o_t a_t t_toldDoors t_barredDoors t_taped t_place0 t_length0 t_fault t_number0 t_open t_codeMany t_waiting t_saidMany t_clauses t_newMany t_rounds t_pinFrom t_pinTimes t_lines t_wasTold t_wasBarred t_goesNow t_jamsNow t_queued t_isKept t_codes s.2 t_facts v3 v4 u5 hu5) dX12_byLaw_33 (by decide) rfl (Nat.le_of_ble_eq_true rfl) 0 11 rfl rfl [0, 1, 6, 7] rfl (by decide) rfl rfl rfl rfl ?_
      refine g_iconst (pc := 36) (v := 1) C dX12_byLaw_36 (by decide) ?_
      refine g_icmp_eq (pc := 37) (tgt := 43) C dX12_byLaw_37 (by decide) h (fun h => ?_) (fun h => ?_)
      · refine g_sub [0, 2, 3] rfl ?_
        exact hk0 _ h
      · refine g_goto (pc := 40) (tgt := 83) C dX12_byLaw_40 (by decide) ?_
        refine g_iincn (pc := 83) (j := 3) (d := 1) (lv' := fun v6 => [(3, .int v6), (0, .ref o_t), (1, .int x1), (2, .int x2)]) C dX12_byLaw_83 rfl (by decide) (by decide) (fun _ => rfl) h (fun v6 h => ?_)
        refine g_goto (pc := 86) (tgt := 2) C dX12_byLaw_86 (by decide) ?_
        refine g_sub [1, 2, 3, 0] rfl ?_
        exact ih _ h
set_option maxHeartbeats 4000000 in
set_option maxRecDepth 100000 in
theorem c_X12_byLaw (l : Launch) (E : GE) (o_t : Nat) (a_t : Nat → Nat) (t_toldDoors : Int32) (t_barredDoors : Int32) (t_taped : Int32) (t_place0 : Int32) (t_length0 : Int32) (t_fault : Int32) (t_number0 : Int32) (t_open : Int32) (t_codeMany : Int32) (t_waiting : Int32) (t_saidMany : Int32) (t_clauses : Int32) (t_newMany : Int32) (t_rounds : Int32) (t_pinFrom : Int32) (t_pinTimes : Int32) (t_lines : Int32) (t_wasTold : Int32) (t_wasBarred : Int32) (t_goesNow : Int32) (t_jamsNow : Int32) (t_queued : Int32) (t_isKept : Int32) (t_codes : (Nat → Int32)) (t_clauseOf : (Nat → Int32)) (t_codeFrom : (Nat → Int32)) (t_codeHalf : (Nat → Int32)) (t_codeTo : (Nat → Int32)) (t_stack : (Nat → Int32)) (t_facts : (Nat → Int32)) (x1 : Int32) (x2 : Int32) (r : Int32 × (Nat → Int32)) (h : f_X12_byLaw t_clauses t_codes t_clauseOf t_codeFrom t_codeHalf t_codeTo t_stack t_facts x1 x2 = some r) : Cn l E yX12_byLaw cX12_byLaw 5 (some .int) 3 0 0 [.ref o_t, .int x1, .int x2] (W_X12_byLaw E o_t a_t t_toldDoors t_barredDoors t_taped t_place0 t_length0 t_fault t_number0 t_open t_codeMany t_waiting t_saidMany t_clauses t_newMany t_rounds t_pinFrom t_pinTimes t_lines t_wasTold t_wasBarred t_goesNow t_jamsNow t_queued t_isKept t_codes t_clauseOf t_codeFrom t_codeHalf t_codeTo t_stack t_facts) (fun w => w = (W_X12_byLaw E o_t a_t t_toldDoors t_barredDoors t_taped t_place0 t_length0 t_fault t_number0 t_open t_codeMany t_waiting t_saidMany t_clauses t_newMany t_rounds t_pinFrom t_pinTimes t_lines t_wasTold t_wasBarred t_goesNow t_jamsNow t_queued t_isKept t_codes t_clauseOf t_codeFrom t_codeHalf t_codeTo r.2 t_facts)) (some (.int r.1)) := by
  refine Cn.ofI (by decide +kernel) (Nat.le_of_ble_eq_true rfl) (fun X hX hR C hret => ?_)
  subst hX
  show Gx X E 0 0 (W_X12_byLaw E o_t a_t t_toldDoors t_barredDoors t_taped t_place0 t_length0 t_fault t_number0 t_open t_codeMany t_waiting t_saidMany t_clauses t_newMany t_rounds t_pinFrom t_pinTimes t_lines t_wasTold t_wasBarred t_goesNow t_jamsNow t_queued t_isKept t_codes t_clauseOf t_codeFrom t_codeHalf t_codeTo t_stack t_facts) 0 [(0, .ref o_t), (1, .int x1), (2, .int x2)] []
  unfold f_X12_byLaw at h
  refine g_iconst (pc := 0) (v := 0) C dX12_byLaw_0 (by decide) ?_
  refine g_istore_n (pc := 1) (lv' := [(3, .int (0 : Int32)), (0, .ref o_t), (1, .int x1), (2, .int x2)]) C dX12_byLaw_1 rfl (by decide) rfl ?_
  refine g_sub [1, 2, 3, 0] rfl ?_
  refine kL_X12_byLaw_2 C o_t a_t t_toldDoors t_barredDoors t_taped t_place0 t_length0 t_fault t_number0 t_open t_codeMany t_waiting t_saidMany t_newMany t_rounds t_pinFrom t_pinTimes t_lines t_wasTold t_wasBarred t_goesNow t_jamsNow t_queued t_isKept t_clauses t_codes t_clauseOf t_codeFrom t_codeHalf t_codeTo t_facts x1 x2 _ hret (fun s7 h => ?_) _ _ h
  refine g_aload_n (pc := 43) C dX12_byLaw_43 rfl 0 rfl ?_
  refine g_aload_n (pc := 44) C dX12_byLaw_44 rfl 0 rfl ?_
  refine g_get (pc := 45) C fl_X12_71 dX12_byLaw_45 0 rfl rfl ?_
  refine g_iload_n (pc := 48) C dX12_byLaw_48 rfl 2 rfl ?_
  refine g_iald (pc := 49) C dX12_byLaw_49 3 rfl h (fun v8 h => ?_)
  refine g_aload_n (pc := 50) C dX12_byLaw_50 rfl 0 rfl ?_
  refine g_get (pc := 51) C fl_X12_74 dX12_byLaw_51 0 rfl rfl ?_
  refine g_iload_n (pc := 54) C dX12_byLaw_54 rfl 2 rfl ?_
  refine g_iald (pc := 55) C dX12_byLaw_55 4 rfl h (fun v9 h => ?_)
  obtain ⟨u10, hu10, h⟩ := bs h
  refine g_callV (pc := 56) (st := []) (st1 := [.int u10.1]) (ws' := (W_X12_byLaw E o_t a_t t_toldDoors t_barredDoors t_taped t_place0 t_length0 t_fault t_number0 t_open t_codeMany t_waiting t_saidMany t_clauses t_newMany t_rounds t_pinFrom t_pinTimes t_lines t_wasTold t_wasBarred t_goesNow t_jamsNow t_queued t_isKept t_codes t_clauseOf t_codeFrom t_codeHalf t_codeTo u10.2 t_facts)) C mv_X12_reckonsTo mi_X12_reckonsTo ml_X12_246 (c_X12_reckonsTo X.2.1 E o_t a_t t_toldDoors t_barredDoors t_taped t_place0 t_length0 t_fault t_number0 t_open t_codeMany t_waiting t_saidMany t_clauses t_newMany t_rounds t_pinFrom t_pinTimes t_lines t_wasTold t_wasBarred t_goesNow t_jamsNow t_queued t_isKept t_codes s7.2 t_facts v8 v9 u10 hu10) dX12_byLaw_56 (by decide) rfl (Nat.le_of_ble_eq_true rfl) 0 11 rfl rfl [0, 1, 6, 7] rfl (by decide) rfl rfl rfl rfl ?_
  refine g_istore (pc := 59) (lv' := [(4, .int u10.1), (0, .ref o_t), (2, .int x2), (3, .int s7.1)]) C dX12_byLaw_59 (by decide) rfl ?_
  refine g_iload (pc := 61) C dX12_byLaw_61 0 rfl ?_
  refine g_if_ge (pc := 63) (tgt := 70) C dX12_byLaw_63 (by decide) h (fun h => ?_) (fun h => ?_)
  · refine g_iload (pc := 70) C dX12_byLaw_70 0 rfl ?_
    refine g_iload_n (pc := 72) C dX12_byLaw_72 rfl 2 rfl ?_
    refine g_icmp_le (pc := 73) (tgt := 80) C dX12_byLaw_73 (by decide) h (fun h => ?_) (fun h => ?_)
    · refine g_iload (pc := 80) C dX12_byLaw_80 0 rfl ?_
      cases h
      exact hret _ _ _ dX12_byLaw_82 rfl rfl
    · refine g_iload_n (pc := 76) C dX12_byLaw_76 rfl 2 rfl ?_
      refine g_goto (pc := 77) (tgt := 82) C dX12_byLaw_77 (by decide) ?_
      cases h
      exact hret _ _ _ dX12_byLaw_82 rfl rfl
  · refine g_iconst (pc := 66) (v := 0) C dX12_byLaw_66 (by decide) ?_
    refine g_goto (pc := 67) (tgt := 82) C dX12_byLaw_67 (by decide) ?_
    cases h
    exact hret _ _ _ dX12_byLaw_82 rfl rfl
abbrev W_X12_canOpen (E : GE) (O_t : Nat) (a_t : Nat → Nat) (t_toldDoors : Int32) (t_barredDoors : Int32) (t_taped : Int32) (t_place0 : Int32) (t_length0 : Int32) (t_fault : Int32) (t_number0 : Int32) (t_open : Int32) (t_codeMany : Int32) (t_waiting : Int32) (t_saidMany : Int32) (t_clauses : Int32) (t_newMany : Int32) (t_rounds : Int32) (t_pinFrom : Int32) (t_pinTimes : Int32) (t_lines : Int32) (t_wasTold : Int32) (t_wasBarred : Int32) (t_goesNow : Int32) (t_jamsNow : Int32) (t_queued : Int32) (t_isKept : Int32) : va_W := [(O_t, ob_X12 a_t t_toldDoors t_barredDoors t_taped t_place0 t_length0 t_fault t_number0 t_open t_codeMany t_waiting t_saidMany t_clauses t_newMany t_rounds t_pinFrom t_pinTimes t_lines t_wasTold t_wasBarred t_goesNow t_jamsNow t_queued t_isKept)]
def f_X12_canOpen (t_toldDoors : Int32) (t_barredDoors : Int32) (x1 : Int32) : Option (Int32) := (f_X12_isDoor t_toldDoors x1).bind fun u1 => if u1 = 0 then (some (0 : Int32)) else (f_X12_has t_barredDoors x1).bind fun u2 => if u2 = 0 then (some (1 : Int32)) else some (0 : Int32)
theorem dX12_canOpen_0 : decode cX12_canOpen 0 = .ok (.aload_n 0, 1) := by decide +kernel
theorem dX12_canOpen_1 : decode cX12_canOpen 1 = .ok (.iload_n 1, 1) := by decide +kernel
theorem dX12_canOpen_2 : decode cX12_canOpen 2 = .ok (.invokevirtual 129, 3) := by decide +kernel
theorem dX12_canOpen_5 : decode cX12_canOpen 5 = .ok (.ifCond .eq 18, 3) := by decide +kernel
theorem dX12_canOpen_8 : decode cX12_canOpen 8 = .ok (.aload_n 0, 1) := by decide +kernel
theorem dX12_canOpen_9 : decode cX12_canOpen 9 = .ok (.getfield 133, 3) := by decide +kernel
theorem dX12_canOpen_12 : decode cX12_canOpen 12 = .ok (.iload_n 1, 1) := by decide +kernel
theorem dX12_canOpen_13 : decode cX12_canOpen 13 = .ok (.invokestatic 125, 3) := by decide +kernel
theorem dX12_canOpen_16 : decode cX12_canOpen 16 = .ok (.ifCond .ne 7, 3) := by decide +kernel
theorem dX12_canOpen_19 : decode cX12_canOpen 19 = .ok (.iconst 1, 1) := by decide +kernel
theorem dX12_canOpen_20 : decode cX12_canOpen 20 = .ok (.goto 4, 3) := by decide +kernel
theorem dX12_canOpen_23 : decode cX12_canOpen 23 = .ok (.iconst 0, 1) := by decide +kernel
theorem dX12_canOpen_24 : decode cX12_canOpen 24 = .ok (.ireturn, 1) := by decide +kernel
set_option maxHeartbeats 4000000 in
set_option maxRecDepth 100000 in
theorem c_X12_canOpen (l : Launch) (E : GE) (o_t : Nat) (a_t : Nat → Nat) (t_toldDoors : Int32) (t_barredDoors : Int32) (t_taped : Int32) (t_place0 : Int32) (t_length0 : Int32) (t_fault : Int32) (t_number0 : Int32) (t_open : Int32) (t_codeMany : Int32) (t_waiting : Int32) (t_saidMany : Int32) (t_clauses : Int32) (t_newMany : Int32) (t_rounds : Int32) (t_pinFrom : Int32) (t_pinTimes : Int32) (t_lines : Int32) (t_wasTold : Int32) (t_wasBarred : Int32) (t_goesNow : Int32) (t_jamsNow : Int32) (t_queued : Int32) (t_isKept : Int32) (x1 : Int32) (r : Int32) (h : f_X12_canOpen t_toldDoors t_barredDoors x1 = some r) : Cn l E yX12_canOpen cX12_canOpen 2 (some .boolean) 3 0 0 [.ref o_t, .int x1] (W_X12_canOpen E o_t a_t t_toldDoors t_barredDoors t_taped t_place0 t_length0 t_fault t_number0 t_open t_codeMany t_waiting t_saidMany t_clauses t_newMany t_rounds t_pinFrom t_pinTimes t_lines t_wasTold t_wasBarred t_goesNow t_jamsNow t_queued t_isKept) (fun w => w = (W_X12_canOpen E o_t a_t t_toldDoors t_barredDoors t_taped t_place0 t_length0 t_fault t_number0 t_open t_codeMany t_waiting t_saidMany t_clauses t_newMany t_rounds t_pinFrom t_pinTimes t_lines t_wasTold t_wasBarred t_goesNow t_jamsNow t_queued t_isKept)) (some (.int r)) := by
  refine Cn.ofI (by decide +kernel) (Nat.le_of_ble_eq_true rfl) (fun X hX hR C hret => ?_)
  subst hX
  show Gx X E 0 0 (W_X12_canOpen E o_t a_t t_toldDoors t_barredDoors t_taped t_place0 t_length0 t_fault t_number0 t_open t_codeMany t_waiting t_saidMany t_clauses t_newMany t_rounds t_pinFrom t_pinTimes t_lines t_wasTold t_wasBarred t_goesNow t_jamsNow t_queued t_isKept) 0 [(0, .ref o_t), (1, .int x1)] []
  unfold f_X12_canOpen at h
  refine g_aload_n (pc := 0) C dX12_canOpen_0 rfl 0 rfl ?_
  refine g_iload_n (pc := 1) C dX12_canOpen_1 rfl 1 rfl ?_
  obtain ⟨u1, hu1, h⟩ := bs h
  refine g_callV (pc := 2) (st := []) (st1 := [.int u1]) (ws' := (W_X12_canOpen E o_t a_t t_toldDoors t_barredDoors t_taped t_place0 t_length0 t_fault t_number0 t_open t_codeMany t_waiting t_saidMany t_clauses t_newMany t_rounds t_pinFrom t_pinTimes t_lines t_wasTold t_wasBarred t_goesNow t_jamsNow t_queued t_isKept)) C mv_X12_isDoor mi_X12_isDoor ml_X12_129 (c_X12_isDoor X.2.1 E o_t a_t t_toldDoors t_barredDoors t_taped t_place0 t_length0 t_fault t_number0 t_open t_codeMany t_waiting t_saidMany t_clauses t_newMany t_rounds t_pinFrom t_pinTimes t_lines t_wasTold t_wasBarred t_goesNow t_jamsNow t_queued t_isKept x1 u1 hu1) dX12_canOpen_2 (by decide) rfl (Nat.le_of_ble_eq_true rfl) 0 11 rfl rfl [0] rfl (by decide) rfl rfl rfl rfl ?_
  refine g_if_eq (pc := 5) (tgt := 23) C dX12_canOpen_5 (by decide) h (fun h => ?_) (fun h => ?_)
  · refine g_iconst (pc := 23) (v := 0) C dX12_canOpen_23 (by decide) ?_
    cases h
    exact hret _ _ _ dX12_canOpen_24 nb0 rfl
  · refine g_aload_n (pc := 8) C dX12_canOpen_8 rfl 0 rfl ?_
    refine g_get (pc := 9) C fl_X12_133 dX12_canOpen_9 0 rfl rfl ?_
    refine g_iload_n (pc := 12) C dX12_canOpen_12 rfl 1 rfl ?_
    obtain ⟨u2, hu2, h⟩ := bs h
    refine g_callS (pc := 13) (st := []) (st1 := [.int u2]) (ws' := (W_X12_canOpen E o_t a_t t_toldDoors t_barredDoors t_taped t_place0 t_length0 t_fault t_number0 t_open t_codeMany t_waiting t_saidMany t_clauses t_newMany t_rounds t_pinFrom t_pinTimes t_lines t_wasTold t_wasBarred t_goesNow t_jamsNow t_queued t_isKept)) C mv_X12_has ms_X12_has ml_X12_125 (c_X12_has X.2.1 E t_barredDoors x1 u2 hu2) dX12_canOpen_13 (by decide) rfl (Nat.le_of_ble_eq_true rfl) [] rfl (by decide) rfl rfl rfl rfl ?_
    refine g_if_ne (pc := 16) (tgt := 23) C dX12_canOpen_16 (by decide) h (fun h => ?_) (fun h => ?_)
    · refine g_iconst (pc := 23) (v := 0) C dX12_canOpen_23 (by decide) ?_
      cases h
      exact hret _ _ _ dX12_canOpen_24 nb0 rfl
    · refine g_iconst (pc := 19) (v := 1) C dX12_canOpen_19 (by decide) ?_
      refine g_goto (pc := 20) (tgt := 24) C dX12_canOpen_20 (by decide) ?_
      cases h
      exact hret _ _ _ dX12_canOpen_24 nb1 rfl
abbrev W_X12_check (E : GE) (O_t : Nat) (a_t : Nat → Nat) (t_toldDoors : Int32) (t_barredDoors : Int32) (t_taped : Int32) (t_place0 : Int32) (t_length0 : Int32) (t_fault : Int32) (t_number0 : Int32) (t_open : Int32) (t_codeMany : Int32) (t_waiting : Int32) (t_saidMany : Int32) (t_clauses : Int32) (t_newMany : Int32) (t_rounds : Int32) (t_pinFrom : Int32) (t_pinTimes : Int32) (t_lines : Int32) (t_wasTold : Int32) (t_wasBarred : Int32) (t_goesNow : Int32) (t_jamsNow : Int32) (t_queued : Int32) (t_isKept : Int32) (t_now : (Nat → Int32)) (t_tape : (Nat → Int32)) : va_W := [(O_t, ob_X12 a_t t_toldDoors t_barredDoors t_taped t_place0 t_length0 t_fault t_number0 t_open t_codeMany t_waiting t_saidMany t_clauses t_newMany t_rounds t_pinFrom t_pinTimes t_lines t_wasTold t_wasBarred t_goesNow t_jamsNow t_queued t_isKept), (a_t 0, .inl (E.2.1, 166, .inl t_now)), (a_t 13, .inl (E.2.2.1, 260, .inl t_tape))]
def L_X12_check_28 (t_taped : Int32) (t_now : (Nat → Int32)) (t_tape : (Nat → Int32)) (x1 : Int32) : Nat → Int32 → Option (Int32 × Int32) := lp fun go s => if x1 ≤ s then (some ((-1 : Int32), t_taped)) else (f_X12_octet t_tape s).bind fun u2 => (f_X12_isWoman t_now s).bind fun u3 => jn (fun s4 : Int32 => if u2 = s4 then (nm (s + (1 : Int32)) fun v5 => go v5) else some (s, t_taped)) fun j61 => if u3 = 0 then (j61 (255 : Int32)) else rd t_now 166 ((34 : Int32) + s) fun v6 => j61 v6
def f_X12_check (t_taped : Int32) (t_now : (Nat → Int32)) (t_tape : (Nat → Int32)) (x1 : Int32) : Option (Int32 × Int32) := (f_X12_in x1 (0 : Int32) (10 : Int32)).bind fun u1 => if u1 = 0 then (some ((-2 : Int32), t_taped)) else if x1 ≤ t_taped then (L_X12_check_28 (0 : Int32) t_now t_tape x1 fu (0 : Int32)) else some ((-2 : Int32), t_taped)
theorem dX12_check_0 : decode cX12_check 0 = .ok (.iload_n 1, 1) := by decide +kernel
theorem dX12_check_1 : decode cX12_check 1 = .ok (.iconst 0, 1) := by decide +kernel
theorem dX12_check_2 : decode cX12_check 2 = .ok (.bipush 10, 2) := by decide +kernel
theorem dX12_check_4 : decode cX12_check 4 = .ok (.invokestatic 117, 3) := by decide +kernel
theorem dX12_check_7 : decode cX12_check 7 = .ok (.ifCond .eq 11, 3) := by decide +kernel
theorem dX12_check_10 : decode cX12_check 10 = .ok (.iload_n 1, 1) := by decide +kernel
theorem dX12_check_11 : decode cX12_check 11 = .ok (.aload_n 0, 1) := by decide +kernel
theorem dX12_check_12 : decode cX12_check 12 = .ok (.getfield 139, 3) := by decide +kernel
theorem dX12_check_15 : decode cX12_check 15 = .ok (.if_icmp .le 6, 3) := by decide +kernel
theorem dX12_check_18 : decode cX12_check 18 = .ok (.bipush (-2), 2) := by decide +kernel
theorem dX12_check_20 : decode cX12_check 20 = .ok (.ireturn, 1) := by decide +kernel
theorem dX12_check_21 : decode cX12_check 21 = .ok (.aload_n 0, 1) := by decide +kernel
theorem dX12_check_22 : decode cX12_check 22 = .ok (.iconst 0, 1) := by decide +kernel
theorem dX12_check_23 : decode cX12_check 23 = .ok (.putfield 139, 3) := by decide +kernel
theorem dX12_check_26 : decode cX12_check 26 = .ok (.iconst 0, 1) := by decide +kernel
theorem dX12_check_27 : decode cX12_check 27 = .ok (.istore_n 2, 1) := by decide +kernel
theorem dX12_check_28 : decode cX12_check 28 = .ok (.iload_n 2, 1) := by decide +kernel
theorem dX12_check_29 : decode cX12_check 29 = .ok (.iload_n 1, 1) := by decide +kernel
theorem dX12_check_30 : decode cX12_check 30 = .ok (.if_icmp .ge 42, 3) := by decide +kernel
theorem dX12_check_33 : decode cX12_check 33 = .ok (.aload_n 0, 1) := by decide +kernel
theorem dX12_check_34 : decode cX12_check 34 = .ok (.iload_n 2, 1) := by decide +kernel
theorem dX12_check_35 : decode cX12_check 35 = .ok (.invokevirtual 387, 3) := by decide +kernel
theorem dX12_check_38 : decode cX12_check 38 = .ok (.aload_n 0, 1) := by decide +kernel
theorem dX12_check_39 : decode cX12_check 39 = .ok (.iload_n 2, 1) := by decide +kernel
theorem dX12_check_40 : decode cX12_check 40 = .ok (.invokevirtual 268, 3) := by decide +kernel
theorem dX12_check_43 : decode cX12_check 43 = .ok (.ifCond .eq 15, 3) := by decide +kernel
theorem dX12_check_46 : decode cX12_check 46 = .ok (.aload_n 0, 1) := by decide +kernel
theorem dX12_check_47 : decode cX12_check 47 = .ok (.getfield 7, 3) := by decide +kernel
theorem dX12_check_50 : decode cX12_check 50 = .ok (.bipush 34, 2) := by decide +kernel
theorem dX12_check_52 : decode cX12_check 52 = .ok (.iload_n 2, 1) := by decide +kernel
theorem dX12_check_53 : decode cX12_check 53 = .ok (.iadd, 1) := by decide +kernel
theorem dX12_check_54 : decode cX12_check 54 = .ok (.iaload, 1) := by decide +kernel
theorem dX12_check_55 : decode cX12_check 55 = .ok (.goto 6, 3) := by decide +kernel
theorem dX12_check_58 : decode cX12_check 58 = .ok (.sipush 255, 3) := by decide +kernel
theorem dX12_check_61 : decode cX12_check 61 = .ok (.if_icmp .eq 5, 3) := by decide +kernel
theorem dX12_check_64 : decode cX12_check 64 = .ok (.iload_n 2, 1) := by decide +kernel
theorem dX12_check_65 : decode cX12_check 65 = .ok (.ireturn, 1) := by decide +kernel
theorem dX12_check_66 : decode cX12_check 66 = .ok (.iinc 2 1, 3) := by decide +kernel
theorem dX12_check_69 : decode cX12_check 69 = .ok (.goto (-41), 3) := by decide +kernel
theorem dX12_check_72 : decode cX12_check 72 = .ok (.iconst (-1), 1) := by decide +kernel
theorem dX12_check_73 : decode cX12_check 73 = .ok (.ireturn, 1) := by decide +kernel
set_option maxHeartbeats 4000000 in
set_option maxRecDepth 100000 in
theorem kL_X12_check_28 {X : GC} {E : GE} (C : Cx X E cX12_check RX12 3 3) (o_t : Nat) (a_t : Nat → Nat) (t_toldDoors : Int32) (t_barredDoors : Int32) (t_place0 : Int32) (t_length0 : Int32) (t_fault : Int32) (t_number0 : Int32) (t_open : Int32) (t_codeMany : Int32) (t_waiting : Int32) (t_saidMany : Int32) (t_clauses : Int32) (t_newMany : Int32) (t_rounds : Int32) (t_pinFrom : Int32) (t_pinTimes : Int32) (t_lines : Int32) (t_wasTold : Int32) (t_wasBarred : Int32) (t_goesNow : Int32) (t_jamsNow : Int32) (t_queued : Int32) (t_isKept : Int32) (t_taped : Int32) (t_now : (Nat → Int32)) (t_tape : (Nat → Int32)) (x1 : Int32) {r : Int32 × Int32} (hret : RtI X E cX12_check .int 0 0 (fun w => w = (W_X12_check E o_t a_t t_toldDoors t_barredDoors r.2 t_place0 t_length0 t_fault t_number0 t_open t_codeMany t_waiting t_saidMany t_clauses t_newMany t_rounds t_pinFrom t_pinTimes t_lines t_wasTold t_wasBarred t_goesNow t_jamsNow t_queued t_isKept t_now t_tape)) r.1) : ∀ (n : Nat) (s : Int32), L_X12_check_28 t_taped t_now t_tape x1 n s = some r → Gx X E 0 0 (W_X12_check E o_t a_t t_toldDoors t_barredDoors t_taped t_place0 t_length0 t_fault t_number0 t_open t_codeMany t_waiting t_saidMany t_clauses t_newMany t_rounds t_pinFrom t_pinTimes t_lines t_wasTold t_wasBarred t_goesNow t_jamsNow t_queued t_isKept t_now t_tape) 28 [(0, .ref o_t), (1, .int x1), (2, .int s)] [] := by
  unfold L_X12_check_28
  refine lp_ind _ (fun go ih s h => ?_)
  refine g_iload_n (pc := 28) C dX12_check_28 rfl 2 rfl ?_
  refine g_iload_n (pc := 29) C dX12_check_29 rfl 1 rfl ?_
  refine g_icmp_ge (pc := 30) (tgt := 72) C dX12_check_30 (by decide) h (fun h => ?_) (fun h => ?_)
  · refine g_iconst (pc := 72) (v := -1) C dX12_check_72 (by decide) ?_
    cases h
    exact hret _ _ _ dX12_check_73 rfl rfl
  · refine g_aload_n (pc := 33) C dX12_check_33 rfl 0 rfl ?_
    refine g_iload_n (pc := 34) C dX12_check_34 rfl 2 rfl ?_
    obtain ⟨u2, hu2, h⟩ := bs h
    refine g_callV (pc := 35) (st := []) (st1 := [.int u2]) (ws' := (W_X12_check E o_t a_t t_toldDoors t_barredDoors t_taped t_place0 t_length0 t_fault t_number0 t_open t_codeMany t_waiting t_saidMany t_clauses t_newMany t_rounds t_pinFrom t_pinTimes t_lines t_wasTold t_wasBarred t_goesNow t_jamsNow t_queued t_isKept t_now t_tape)) C mv_X12_octet mi_X12_octet ml_X12_387 (c_X12_octet X.2.1 E o_t a_t t_toldDoors t_barredDoors t_taped t_place0 t_length0 t_fault t_number0 t_open t_codeMany t_waiting t_saidMany t_clauses t_newMany t_rounds t_pinFrom t_pinTimes t_lines t_wasTold t_wasBarred t_goesNow t_jamsNow t_queued t_isKept t_tape s u2 hu2) dX12_check_35 (by decide) rfl (Nat.le_of_ble_eq_true rfl) 0 11 rfl rfl [0, 2] rfl (by decide) rfl rfl rfl rfl ?_
    refine g_aload_n (pc := 38) C dX12_check_38 rfl 0 rfl ?_
    refine g_iload_n (pc := 39) C dX12_check_39 rfl 2 rfl ?_
    obtain ⟨u3, hu3, h⟩ := bs h
    refine g_callV (pc := 40) (st := [.int u2]) (st1 := [.int u3, .int u2]) (ws' := (W_X12_check E o_t a_t t_toldDoors t_barredDoors t_taped t_place0 t_length0 t_fault t_number0 t_open t_codeMany t_waiting t_saidMany t_clauses t_newMany t_rounds t_pinFrom t_pinTimes t_lines t_wasTold t_wasBarred t_goesNow t_jamsNow t_queued t_isKept t_now t_tape)) C mv_X12_isWoman mi_X12_isWoman ml_X12_268 (c_X12_isWoman X.2.1 E o_t a_t t_toldDoors t_barredDoors t_taped t_place0 t_length0 t_fault t_number0 t_open t_codeMany t_waiting t_saidMany t_clauses t_newMany t_rounds t_pinFrom t_pinTimes t_lines t_wasTold t_wasBarred t_goesNow t_jamsNow t_queued t_isKept t_now s u3 hu3) dX12_check_40 (by decide) rfl (Nat.le_of_ble_eq_true rfl) 0 11 rfl rfl [0, 1] rfl (by decide) rfl rfl rfl rfl ?_
    refine g_jn (fun s4 : Int32 => Gx X E 0 0 (W_X12_check E o_t a_t t_toldDoors t_barredDoors t_taped t_place0 t_length0 t_fault t_number0 t_open t_codeMany t_waiting t_saidMany t_clauses t_newMany t_rounds t_pinFrom t_pinTimes t_lines t_wasTold t_wasBarred t_goesNow t_jamsNow t_queued t_isKept t_now t_tape) 61 [(0, .ref o_t), (1, .int x1), (2, .int s)] [.int s4, .int u2]) h (fun s4 h => ?_) (fun j61 hj61 h => ?_)
    · refine g_icmp_eq (pc := 61) (tgt := 66) C dX12_check_61 (by decide) h (fun h => ?_) (fun h => ?_)
      · refine g_iincn (pc := 66) (j := 2) (d := 1) (lv' := fun v5 => [(2, .int v5), (0, .ref o_t), (1, .int x1)]) C dX12_check_66 rfl (by decide) (by decide) (fun _ => rfl) h (fun v5 h => ?_)
        refine g_goto (pc := 69) (tgt := 28) C dX12_check_69 (by decide) ?_
        refine g_sub [1, 2, 0] rfl ?_
        exact ih _ h
      · refine g_iload_n (pc := 64) C dX12_check_64 rfl 2 rfl ?_
        cases h
        exact hret _ _ _ dX12_check_65 rfl rfl
    refine g_if_eq (pc := 43) (tgt := 58) C dX12_check_43 (by decide) h (fun h => ?_) (fun h => ?_)
    · refine g_sipush (pc := 58) (v := 255) C dX12_check_58 (by decide) ?_
      exact hj61 _ h
    · refine g_aload_n (pc := 46) C dX12_check_46 rfl 0 rfl ?_
      refine g_get (pc := 47) C fl_X12_7 dX12_check_47 0 rfl rfl ?_
      refine g_bipush (pc := 50) (v := 34) C dX12_check_50 (by decide) ?_
      refine g_iload_n (pc := 52) C dX12_check_52 rfl 2 rfl ?_
      refine g_iadd (pc := 53) C dX12_check_53 ?_
      refine g_iald (pc := 54) C dX12_check_54 1 rfl h (fun v6 h => ?_)
      refine g_goto (pc := 55) (tgt := 61) C dX12_check_55 (by decide) ?_
      exact hj61 _ h
set_option maxHeartbeats 4000000 in
set_option maxRecDepth 100000 in
theorem c_X12_check (l : Launch) (E : GE) (o_t : Nat) (a_t : Nat → Nat) (t_toldDoors : Int32) (t_barredDoors : Int32) (t_taped : Int32) (t_place0 : Int32) (t_length0 : Int32) (t_fault : Int32) (t_number0 : Int32) (t_open : Int32) (t_codeMany : Int32) (t_waiting : Int32) (t_saidMany : Int32) (t_clauses : Int32) (t_newMany : Int32) (t_rounds : Int32) (t_pinFrom : Int32) (t_pinTimes : Int32) (t_lines : Int32) (t_wasTold : Int32) (t_wasBarred : Int32) (t_goesNow : Int32) (t_jamsNow : Int32) (t_queued : Int32) (t_isKept : Int32) (t_now : (Nat → Int32)) (t_tape : (Nat → Int32)) (x1 : Int32) (r : Int32 × Int32) (h : f_X12_check t_taped t_now t_tape x1 = some r) : Cn l E yX12_check cX12_check 3 (some .int) 3 0 0 [.ref o_t, .int x1] (W_X12_check E o_t a_t t_toldDoors t_barredDoors t_taped t_place0 t_length0 t_fault t_number0 t_open t_codeMany t_waiting t_saidMany t_clauses t_newMany t_rounds t_pinFrom t_pinTimes t_lines t_wasTold t_wasBarred t_goesNow t_jamsNow t_queued t_isKept t_now t_tape) (fun w => w = (W_X12_check E o_t a_t t_toldDoors t_barredDoors r.2 t_place0 t_length0 t_fault t_number0 t_open t_codeMany t_waiting t_saidMany t_clauses t_newMany t_rounds t_pinFrom t_pinTimes t_lines t_wasTold t_wasBarred t_goesNow t_jamsNow t_queued t_isKept t_now t_tape)) (some (.int r.1)) := by
  refine Cn.ofI (by decide +kernel) (Nat.le_of_ble_eq_true rfl) (fun X hX hR C hret => ?_)
  subst hX
  show Gx X E 0 0 (W_X12_check E o_t a_t t_toldDoors t_barredDoors t_taped t_place0 t_length0 t_fault t_number0 t_open t_codeMany t_waiting t_saidMany t_clauses t_newMany t_rounds t_pinFrom t_pinTimes t_lines t_wasTold t_wasBarred t_goesNow t_jamsNow t_queued t_isKept t_now t_tape) 0 [(0, .ref o_t), (1, .int x1)] []
  unfold f_X12_check at h
  refine g_iload_n (pc := 0) C dX12_check_0 rfl 1 rfl ?_
  refine g_iconst (pc := 1) (v := 0) C dX12_check_1 (by decide) ?_
  refine g_bipush (pc := 2) (v := 10) C dX12_check_2 (by decide) ?_
  obtain ⟨u1, hu1, h⟩ := bs h
  refine g_callS (pc := 4) (st := []) (st1 := [.int u1]) (ws' := (W_X12_check E o_t a_t t_toldDoors t_barredDoors t_taped t_place0 t_length0 t_fault t_number0 t_open t_codeMany t_waiting t_saidMany t_clauses t_newMany t_rounds t_pinFrom t_pinTimes t_lines t_wasTold t_wasBarred t_goesNow t_jamsNow t_queued t_isKept t_now t_tape)) C mv_X12_in ms_X12_in ml_X12_117 (c_X12_in X.2.1 E x1 (0 : Int32) (10 : Int32) u1 hu1) dX12_check_4 (by decide) rfl (Nat.le_of_ble_eq_true rfl) [] rfl (by decide) rfl rfl rfl rfl ?_
  refine g_if_eq (pc := 7) (tgt := 18) C dX12_check_7 (by decide) h (fun h => ?_) (fun h => ?_)
  · refine g_bipush (pc := 18) (v := -2) C dX12_check_18 (by decide) ?_
    cases h
    exact hret _ _ _ dX12_check_20 rfl rfl
  · refine g_iload_n (pc := 10) C dX12_check_10 rfl 1 rfl ?_
    refine g_aload_n (pc := 11) C dX12_check_11 rfl 0 rfl ?_
    refine g_get (pc := 12) C fl_X12_139 dX12_check_12 0 rfl rfl ?_
    refine g_icmp_le (pc := 15) (tgt := 21) C dX12_check_15 (by decide) h (fun h => ?_) (fun h => ?_)
    · refine g_aload_n (pc := 21) C dX12_check_21 rfl 0 rfl ?_
      refine g_iconst (pc := 22) (v := 0) C dX12_check_22 (by decide) ?_
      refine g_put (pc := 23) (ws' := (W_X12_check E o_t a_t t_toldDoors t_barredDoors (0 : Int32) t_place0 t_length0 t_fault t_number0 t_open t_codeMany t_waiting t_saidMany t_clauses t_newMany t_rounds t_pinFrom t_pinTimes t_lines t_wasTold t_wasBarred t_goesNow t_jamsNow t_queued t_isKept t_now t_tape)) C .int fl_X12_139 dX12_check_23 0 rfl (by decide +kernel) rfl rfl (Nat.le_of_ble_eq_true rfl) rfl ?_
      refine g_iconst (pc := 26) (v := 0) C dX12_check_26 (by decide) ?_
      refine g_istore_n (pc := 27) (lv' := [(2, .int (0 : Int32)), (0, .ref o_t), (1, .int x1)]) C dX12_check_27 rfl (by decide) rfl ?_
      refine g_sub [1, 2, 0] rfl ?_
      refine kL_X12_check_28 C o_t a_t t_toldDoors t_barredDoors t_place0 t_length0 t_fault t_number0 t_open t_codeMany t_waiting t_saidMany t_clauses t_newMany t_rounds t_pinFrom t_pinTimes t_lines t_wasTold t_wasBarred t_goesNow t_jamsNow t_queued t_isKept (0 : Int32) t_now t_tape x1 hret  _ _ h
    · refine g_bipush (pc := 18) (v := -2) C dX12_check_18 (by decide) ?_
      cases h
      exact hret _ _ _ dX12_check_20 rfl rfl
abbrev W_X12_curls (E : GE) (O_t : Nat) (a_t : Nat → Nat) (t_toldDoors : Int32) (t_barredDoors : Int32) (t_taped : Int32) (t_place0 : Int32) (t_length0 : Int32) (t_fault : Int32) (t_number0 : Int32) (t_open : Int32) (t_codeMany : Int32) (t_waiting : Int32) (t_saidMany : Int32) (t_clauses : Int32) (t_newMany : Int32) (t_rounds : Int32) (t_pinFrom : Int32) (t_pinTimes : Int32) (t_lines : Int32) (t_wasTold : Int32) (t_wasBarred : Int32) (t_goesNow : Int32) (t_jamsNow : Int32) (t_queued : Int32) (t_isKept : Int32) (t_tape : (Nat → Int32)) : va_W := [(O_t, ob_X12 a_t t_toldDoors t_barredDoors t_taped t_place0 t_length0 t_fault t_number0 t_open t_codeMany t_waiting t_saidMany t_clauses t_newMany t_rounds t_pinFrom t_pinTimes t_lines t_wasTold t_wasBarred t_goesNow t_jamsNow t_queued t_isKept), (a_t 13, .inl (E.2.2.1, 260, .inl t_tape))]
def L_X12_curls_47 (t_taped : Int32) (t_tape : (Nat → Int32)) (x1 : Int32) (x2 : Int32) (x3 : Int32) (k0 : Unit → Option (Int32 × Int32)) : Nat → Int32 → Option (Int32 × Int32) := lp fun go s => if (4 : Int32) ≤ s then (k0 ()) else (f_X12_octet t_tape (((6 : Int32) * x3) + s)).bind fun u3 => if u3 ≤ (5 : Int32) then (nm (s + (1 : Int32)) fun v4 => go v4) else some ((-3 : Int32), t_taped)
def L_X12_curls_39 (t_taped : Int32) (t_tape : (Nat → Int32)) (x1 : Int32) (x2 : Int32) (k0 : Unit → Option (Int32 × Int32)) : Nat → Int32 → Option (Int32 × Int32) := lp fun go s => if x1 ≤ s then (k0 ()) else L_X12_curls_47 t_taped t_tape x1 x2 s (fun s5 => nm (s + (1 : Int32)) fun v6 => go v6) fu (0 : Int32)
def L_X12_curls_105 (t_taped : Int32) (t_tape : (Nat → Int32)) (x1 : Int32) (x2 : Int32) (x3 : Int32) (x4 : Int32) (x5 : Int32) (k0 : Int32 → Option (Int32 × Int32)) : Nat → Int32 × Int32 → Option (Int32 × Int32) := lp fun go s => if x1 ≤ s.2 then (k0 s.1) else if s.1 = 0 then (k0 s.1) else (f_X12_fitsGuess t_tape x5 s.2).bind fun u8 => nm (s.2 + (1 : Int32)) fun v9 => go (u8, v9)
def L_X12_curls_94 (t_taped : Int32) (t_tape : (Nat → Int32)) (x1 : Int32) (x2 : Int32) (k0 : Int32 × Int32 → Option (Int32 × Int32)) : Nat → Int32 × Int32 × Int32 → Option (Int32 × Int32) := lp fun go s => if s.2.2 < 0 then (k0 (s.1, s.2.1)) else L_X12_curls_105 t_taped t_tape x1 x2 s.1 s.2.1 s.2.2 (fun s10 => if s10 = 0 then (nm (s.2.2 + (-1 : Int32)) fun v13 => go (s.1, s.2.1, v13)) else nm (s.1 + (1 : Int32)) fun v11 => nm (s.2.2 + (-1 : Int32)) fun v12 => go (v11, s.2.2, v12)) fu ((1 : Int32), (0 : Int32))
def f_X12_curls (t_taped : Int32) (t_tape : (Nat → Int32)) (x1 : Int32) (x2 : Int32) : Option (Int32 × Int32) := (f_X12_in x1 (0 : Int32) (8 : Int32)).bind fun u1 => if u1 = 0 then (some ((-1 : Int32), t_taped)) else (f_X12_in x2 (0 : Int32) (1 : Int32)).bind fun u2 => if u2 = 0 then (some ((-1 : Int32), t_taped)) else if ((6 : Int32) * x1) ≤ t_taped then (L_X12_curls_39 (0 : Int32) t_tape x1 x2 (fun s7 => L_X12_curls_94 (0 : Int32) t_tape x1 x2 (fun s14 => if x2 = 0 then (some (s14.1, (0 : Int32))) else some (s14.2, (0 : Int32))) fu ((0 : Int32), (-2 : Int32), (1295 : Int32))) fu (0 : Int32)) else some ((-1 : Int32), t_taped)
theorem dX12_curls_0 : decode cX12_curls 0 = .ok (.iload_n 1, 1) := by decide +kernel
theorem dX12_curls_1 : decode cX12_curls 1 = .ok (.iconst 0, 1) := by decide +kernel
theorem dX12_curls_2 : decode cX12_curls 2 = .ok (.bipush 8, 2) := by decide +kernel
theorem dX12_curls_4 : decode cX12_curls 4 = .ok (.invokestatic 117, 3) := by decide +kernel
theorem dX12_curls_7 : decode cX12_curls 7 = .ok (.ifCond .eq 23, 3) := by decide +kernel
theorem dX12_curls_10 : decode cX12_curls 10 = .ok (.iload_n 2, 1) := by decide +kernel
theorem dX12_curls_11 : decode cX12_curls 11 = .ok (.iconst 0, 1) := by decide +kernel
theorem dX12_curls_12 : decode cX12_curls 12 = .ok (.iconst 1, 1) := by decide +kernel
theorem dX12_curls_13 : decode cX12_curls 13 = .ok (.invokestatic 117, 3) := by decide +kernel
theorem dX12_curls_16 : decode cX12_curls 16 = .ok (.ifCond .eq 14, 3) := by decide +kernel
theorem dX12_curls_19 : decode cX12_curls 19 = .ok (.bipush 6, 2) := by decide +kernel
theorem dX12_curls_21 : decode cX12_curls 21 = .ok (.iload_n 1, 1) := by decide +kernel
theorem dX12_curls_22 : decode cX12_curls 22 = .ok (.imul, 1) := by decide +kernel
theorem dX12_curls_23 : decode cX12_curls 23 = .ok (.aload_n 0, 1) := by decide +kernel
theorem dX12_curls_24 : decode cX12_curls 24 = .ok (.getfield 139, 3) := by decide +kernel
theorem dX12_curls_27 : decode cX12_curls 27 = .ok (.if_icmp .le 5, 3) := by decide +kernel
theorem dX12_curls_30 : decode cX12_curls 30 = .ok (.iconst (-1), 1) := by decide +kernel
theorem dX12_curls_31 : decode cX12_curls 31 = .ok (.ireturn, 1) := by decide +kernel
theorem dX12_curls_32 : decode cX12_curls 32 = .ok (.aload_n 0, 1) := by decide +kernel
theorem dX12_curls_33 : decode cX12_curls 33 = .ok (.iconst 0, 1) := by decide +kernel
theorem dX12_curls_34 : decode cX12_curls 34 = .ok (.putfield 139, 3) := by decide +kernel
theorem dX12_curls_37 : decode cX12_curls 37 = .ok (.iconst 0, 1) := by decide +kernel
theorem dX12_curls_38 : decode cX12_curls 38 = .ok (.istore_n 3, 1) := by decide +kernel
theorem dX12_curls_39 : decode cX12_curls 39 = .ok (.iload_n 3, 1) := by decide +kernel
theorem dX12_curls_40 : decode cX12_curls 40 = .ok (.iload_n 1, 1) := by decide +kernel
theorem dX12_curls_41 : decode cX12_curls 41 = .ok (.if_icmp .ge 42, 3) := by decide +kernel
theorem dX12_curls_44 : decode cX12_curls 44 = .ok (.iconst 0, 1) := by decide +kernel
theorem dX12_curls_45 : decode cX12_curls 45 = .ok (.istore 4, 2) := by decide +kernel
theorem dX12_curls_47 : decode cX12_curls 47 = .ok (.iload 4, 2) := by decide +kernel
theorem dX12_curls_49 : decode cX12_curls 49 = .ok (.iconst 4, 1) := by decide +kernel
theorem dX12_curls_50 : decode cX12_curls 50 = .ok (.if_icmp .ge 27, 3) := by decide +kernel
theorem dX12_curls_53 : decode cX12_curls 53 = .ok (.aload_n 0, 1) := by decide +kernel
theorem dX12_curls_54 : decode cX12_curls 54 = .ok (.bipush 6, 2) := by decide +kernel
theorem dX12_curls_56 : decode cX12_curls 56 = .ok (.iload_n 3, 1) := by decide +kernel
theorem dX12_curls_57 : decode cX12_curls 57 = .ok (.imul, 1) := by decide +kernel
theorem dX12_curls_58 : decode cX12_curls 58 = .ok (.iload 4, 2) := by decide +kernel
theorem dX12_curls_60 : decode cX12_curls 60 = .ok (.iadd, 1) := by decide +kernel
theorem dX12_curls_61 : decode cX12_curls 61 = .ok (.invokevirtual 387, 3) := by decide +kernel
theorem dX12_curls_64 : decode cX12_curls 64 = .ok (.iconst 5, 1) := by decide +kernel
theorem dX12_curls_65 : decode cX12_curls 65 = .ok (.if_icmp .le 6, 3) := by decide +kernel
theorem dX12_curls_68 : decode cX12_curls 68 = .ok (.bipush (-3), 2) := by decide +kernel
theorem dX12_curls_70 : decode cX12_curls 70 = .ok (.ireturn, 1) := by decide +kernel
theorem dX12_curls_71 : decode cX12_curls 71 = .ok (.iinc 4 1, 3) := by decide +kernel
theorem dX12_curls_74 : decode cX12_curls 74 = .ok (.goto (-27), 3) := by decide +kernel
theorem dX12_curls_77 : decode cX12_curls 77 = .ok (.iinc 3 1, 3) := by decide +kernel
theorem dX12_curls_80 : decode cX12_curls 80 = .ok (.goto (-41), 3) := by decide +kernel
theorem dX12_curls_83 : decode cX12_curls 83 = .ok (.iconst 0, 1) := by decide +kernel
theorem dX12_curls_84 : decode cX12_curls 84 = .ok (.istore_n 3, 1) := by decide +kernel
theorem dX12_curls_85 : decode cX12_curls 85 = .ok (.bipush (-2), 2) := by decide +kernel
theorem dX12_curls_87 : decode cX12_curls 87 = .ok (.istore 4, 2) := by decide +kernel
theorem dX12_curls_89 : decode cX12_curls 89 = .ok (.sipush 1295, 3) := by decide +kernel
theorem dX12_curls_92 : decode cX12_curls 92 = .ok (.istore 5, 2) := by decide +kernel
theorem dX12_curls_94 : decode cX12_curls 94 = .ok (.iload 5, 2) := by decide +kernel
theorem dX12_curls_96 : decode cX12_curls 96 = .ok (.ifCond .lt 58, 3) := by decide +kernel
theorem dX12_curls_99 : decode cX12_curls 99 = .ok (.iconst 1, 1) := by decide +kernel
theorem dX12_curls_100 : decode cX12_curls 100 = .ok (.istore 6, 2) := by decide +kernel
theorem dX12_curls_102 : decode cX12_curls 102 = .ok (.iconst 0, 1) := by decide +kernel
theorem dX12_curls_103 : decode cX12_curls 103 = .ok (.istore 7, 2) := by decide +kernel
theorem dX12_curls_105 : decode cX12_curls 105 = .ok (.iload 7, 2) := by decide +kernel
theorem dX12_curls_107 : decode cX12_curls 107 = .ok (.iload_n 1, 1) := by decide +kernel
theorem dX12_curls_108 : decode cX12_curls 108 = .ok (.if_icmp .ge 24, 3) := by decide +kernel
theorem dX12_curls_111 : decode cX12_curls 111 = .ok (.iload 6, 2) := by decide +kernel
theorem dX12_curls_113 : decode cX12_curls 113 = .ok (.ifCond .eq 19, 3) := by decide +kernel
theorem dX12_curls_116 : decode cX12_curls 116 = .ok (.aload_n 0, 1) := by decide +kernel
theorem dX12_curls_117 : decode cX12_curls 117 = .ok (.iload 5, 2) := by decide +kernel
theorem dX12_curls_119 : decode cX12_curls 119 = .ok (.iload 7, 2) := by decide +kernel
theorem dX12_curls_121 : decode cX12_curls 121 = .ok (.invokevirtual 399, 3) := by decide +kernel
theorem dX12_curls_124 : decode cX12_curls 124 = .ok (.istore 6, 2) := by decide +kernel
theorem dX12_curls_126 : decode cX12_curls 126 = .ok (.iinc 7 1, 3) := by decide +kernel
theorem dX12_curls_129 : decode cX12_curls 129 = .ok (.goto (-24), 3) := by decide +kernel
theorem dX12_curls_132 : decode cX12_curls 132 = .ok (.iload 6, 2) := by decide +kernel
theorem dX12_curls_134 : decode cX12_curls 134 = .ok (.ifCond .ne 6, 3) := by decide +kernel
theorem dX12_curls_137 : decode cX12_curls 137 = .ok (.goto 11, 3) := by decide +kernel
theorem dX12_curls_140 : decode cX12_curls 140 = .ok (.iload_n 3, 1) := by decide +kernel
theorem dX12_curls_141 : decode cX12_curls 141 = .ok (.iconst 1, 1) := by decide +kernel
theorem dX12_curls_142 : decode cX12_curls 142 = .ok (.iadd, 1) := by decide +kernel
theorem dX12_curls_143 : decode cX12_curls 143 = .ok (.istore_n 3, 1) := by decide +kernel
theorem dX12_curls_144 : decode cX12_curls 144 = .ok (.iload 5, 2) := by decide +kernel
theorem dX12_curls_146 : decode cX12_curls 146 = .ok (.istore 4, 2) := by decide +kernel
theorem dX12_curls_148 : decode cX12_curls 148 = .ok (.iinc 5 (-1), 3) := by decide +kernel
theorem dX12_curls_151 : decode cX12_curls 151 = .ok (.goto (-57), 3) := by decide +kernel
theorem dX12_curls_154 : decode cX12_curls 154 = .ok (.iload_n 2, 1) := by decide +kernel
theorem dX12_curls_155 : decode cX12_curls 155 = .ok (.ifCond .ne 7, 3) := by decide +kernel
theorem dX12_curls_158 : decode cX12_curls 158 = .ok (.iload_n 3, 1) := by decide +kernel
theorem dX12_curls_159 : decode cX12_curls 159 = .ok (.goto 5, 3) := by decide +kernel
theorem dX12_curls_162 : decode cX12_curls 162 = .ok (.iload 4, 2) := by decide +kernel
theorem dX12_curls_164 : decode cX12_curls 164 = .ok (.ireturn, 1) := by decide +kernel
set_option maxHeartbeats 4000000 in
set_option maxRecDepth 100000 in
theorem kL_X12_curls_47 {X : GC} {E : GE} (C : Cx X E cX12_curls RX12 3 8) (o_t : Nat) (a_t : Nat → Nat) (t_toldDoors : Int32) (t_barredDoors : Int32) (t_place0 : Int32) (t_length0 : Int32) (t_fault : Int32) (t_number0 : Int32) (t_open : Int32) (t_codeMany : Int32) (t_waiting : Int32) (t_saidMany : Int32) (t_clauses : Int32) (t_newMany : Int32) (t_rounds : Int32) (t_pinFrom : Int32) (t_pinTimes : Int32) (t_lines : Int32) (t_wasTold : Int32) (t_wasBarred : Int32) (t_goesNow : Int32) (t_jamsNow : Int32) (t_queued : Int32) (t_isKept : Int32) (t_taped : Int32) (t_tape : (Nat → Int32)) (x1 : Int32) (x2 : Int32) (x3 : Int32) (k0 : Unit → Option (Int32 × Int32)) {r : Int32 × Int32} (hret : RtI X E cX12_curls .int 0 0 (fun w => w = (W_X12_curls E o_t a_t t_toldDoors t_barredDoors r.2 t_place0 t_length0 t_fault t_number0 t_open t_codeMany t_waiting t_saidMany t_clauses t_newMany t_rounds t_pinFrom t_pinTimes t_lines t_wasTold t_wasBarred t_goesNow t_jamsNow t_queued t_isKept t_tape)) r.1) (hk0 : ∀ u, k0 u = some r → Gx X E 0 0 (W_X12_curls E o_t a_t t_toldDoors t_barredDoors t_taped t_place0 t_length0 t_fault t_number0 t_open t_codeMany t_waiting t_saidMany t_clauses t_newMany t_rounds t_pinFrom t_pinTimes t_lines t_wasTold t_wasBarred t_goesNow t_jamsNow t_queued t_isKept t_tape) 77 [(0, .ref o_t), (1, .int x1), (2, .int x2), (3, .int x3)] []) : ∀ (n : Nat) (s : Int32), L_X12_curls_47 t_taped t_tape x1 x2 x3 k0 n s = some r → Gx X E 0 0 (W_X12_curls E o_t a_t t_toldDoors t_barredDoors t_taped t_place0 t_length0 t_fault t_number0 t_open t_codeMany t_waiting t_saidMany t_clauses t_newMany t_rounds t_pinFrom t_pinTimes t_lines t_wasTold t_wasBarred t_goesNow t_jamsNow t_queued t_isKept t_tape) 47 [(0, .ref o_t), (1, .int x1), (2, .int x2), (3, .int x3), (4, .int s)] [] := by
  unfold L_X12_curls_47
  refine lp_ind _ (fun go ih s h => ?_)
  refine g_iload (pc := 47) C dX12_curls_47 4 rfl ?_
  refine g_iconst (pc := 49) (v := 4) C dX12_curls_49 (by decide) ?_
  refine g_icmp_ge (pc := 50) (tgt := 77) C dX12_curls_50 (by decide) h (fun h => ?_) (fun h => ?_)
  · refine g_sub [0, 1, 2, 3] rfl ?_
    exact hk0 _ h
  · refine g_aload_n (pc := 53) C dX12_curls_53 rfl 0 rfl ?_
    refine g_bipush (pc := 54) (v := 6) C dX12_curls_54 (by decide) ?_
    refine g_iload_n (pc := 56) C dX12_curls_56 rfl 3 rfl ?_
    refine g_imul (pc := 57) C dX12_curls_57 ?_
    refine g_iload (pc := 58) C dX12_curls_58 4 rfl ?_
    refine g_iadd (pc := 60) C dX12_curls_60 ?_
    obtain ⟨u3, hu3, h⟩ := bs h
    refine g_callV (pc := 61) (st := []) (st1 := [.int u3]) (ws' := (W_X12_curls E o_t a_t t_toldDoors t_barredDoors t_taped t_place0 t_length0 t_fault t_number0 t_open t_codeMany t_waiting t_saidMany t_clauses t_newMany t_rounds t_pinFrom t_pinTimes t_lines t_wasTold t_wasBarred t_goesNow t_jamsNow t_queued t_isKept t_tape)) C mv_X12_octet mi_X12_octet ml_X12_387 (c_X12_octet X.2.1 E o_t a_t t_toldDoors t_barredDoors t_taped t_place0 t_length0 t_fault t_number0 t_open t_codeMany t_waiting t_saidMany t_clauses t_newMany t_rounds t_pinFrom t_pinTimes t_lines t_wasTold t_wasBarred t_goesNow t_jamsNow t_queued t_isKept t_tape (((6 : Int32) * x3) + s) u3 hu3) dX12_curls_61 (by decide) rfl (Nat.le_of_ble_eq_true rfl) 0 11 rfl rfl [0, 1] rfl (by decide) rfl rfl rfl rfl ?_
    refine g_iconst (pc := 64) (v := 5) C dX12_curls_64 (by decide) ?_
    refine g_icmp_le (pc := 65) (tgt := 71) C dX12_curls_65 (by decide) h (fun h => ?_) (fun h => ?_)
    · refine g_iincn (pc := 71) (j := 4) (d := 1) (lv' := fun v4 => [(4, .int v4), (0, .ref o_t), (1, .int x1), (2, .int x2), (3, .int x3)]) C dX12_curls_71 rfl (by decide) (by decide) (fun _ => rfl) h (fun v4 h => ?_)
      refine g_goto (pc := 74) (tgt := 47) C dX12_curls_74 (by decide) ?_
      refine g_sub [1, 2, 3, 4, 0] rfl ?_
      exact ih _ h
    · refine g_bipush (pc := 68) (v := -3) C dX12_curls_68 (by decide) ?_
      cases h
      exact hret _ _ _ dX12_curls_70 rfl rfl
set_option maxHeartbeats 4000000 in
set_option maxRecDepth 100000 in
theorem kL_X12_curls_39 {X : GC} {E : GE} (C : Cx X E cX12_curls RX12 3 8) (o_t : Nat) (a_t : Nat → Nat) (t_toldDoors : Int32) (t_barredDoors : Int32) (t_place0 : Int32) (t_length0 : Int32) (t_fault : Int32) (t_number0 : Int32) (t_open : Int32) (t_codeMany : Int32) (t_waiting : Int32) (t_saidMany : Int32) (t_clauses : Int32) (t_newMany : Int32) (t_rounds : Int32) (t_pinFrom : Int32) (t_pinTimes : Int32) (t_lines : Int32) (t_wasTold : Int32) (t_wasBarred : Int32) (t_goesNow : Int32) (t_jamsNow : Int32) (t_queued : Int32) (t_isKept : Int32) (t_taped : Int32) (t_tape : (Nat → Int32)) (x1 : Int32) (x2 : Int32) (k0 : Unit → Option (Int32 × Int32)) {r : Int32 × Int32} (hret : RtI X E cX12_curls .int 0 0 (fun w => w = (W_X12_curls E o_t a_t t_toldDoors t_barredDoors r.2 t_place0 t_length0 t_fault t_number0 t_open t_codeMany t_waiting t_saidMany t_clauses t_newMany t_rounds t_pinFrom t_pinTimes t_lines t_wasTold t_wasBarred t_goesNow t_jamsNow t_queued t_isKept t_tape)) r.1) (hk0 : ∀ u, k0 u = some r → Gx X E 0 0 (W_X12_curls E o_t a_t t_toldDoors t_barredDoors t_taped t_place0 t_length0 t_fault t_number0 t_open t_codeMany t_waiting t_saidMany t_clauses t_newMany t_rounds t_pinFrom t_pinTimes t_lines t_wasTold t_wasBarred t_goesNow t_jamsNow t_queued t_isKept t_tape) 83 [(0, .ref o_t), (1, .int x1), (2, .int x2)] []) : ∀ (n : Nat) (s : Int32), L_X12_curls_39 t_taped t_tape x1 x2 k0 n s = some r → Gx X E 0 0 (W_X12_curls E o_t a_t t_toldDoors t_barredDoors t_taped t_place0 t_length0 t_fault t_number0 t_open t_codeMany t_waiting t_saidMany t_clauses t_newMany t_rounds t_pinFrom t_pinTimes t_lines t_wasTold t_wasBarred t_goesNow t_jamsNow t_queued t_isKept t_tape) 39 [(0, .ref o_t), (1, .int x1), (2, .int x2), (3, .int s)] [] := by
  unfold L_X12_curls_39
  refine lp_ind _ (fun go ih s h => ?_)
  refine g_iload_n (pc := 39) C dX12_curls_39 rfl 3 rfl ?_
  refine g_iload_n (pc := 40) C dX12_curls_40 rfl 1 rfl ?_
  refine g_icmp_ge (pc := 41) (tgt := 83) C dX12_curls_41 (by decide) h (fun h => ?_) (fun h => ?_)
  · refine g_sub [0, 1, 2] rfl ?_
    exact hk0 _ h
  · refine g_iconst (pc := 44) (v := 0) C dX12_curls_44 (by decide) ?_
    refine g_istore (pc := 45) (lv' := [(4, .int (0 : Int32)), (0, .ref o_t), (1, .int x1), (2, .int x2), (3, .int s)]) C dX12_curls_45 (by decide) rfl ?_
    refine g_sub [1, 2, 3, 4, 0] rfl ?_
    refine kL_X12_curls_47 C o_t a_t t_toldDoors t_barredDoors t_place0 t_length0 t_fault t_number0 t_open t_codeMany t_waiting t_saidMany t_clauses t_newMany t_rounds t_pinFrom t_pinTimes t_lines t_wasTold t_wasBarred t_goesNow t_jamsNow t_queued t_isKept t_taped t_tape x1 x2 s _ hret (fun s5 h => ?_) _ _ h
    refine g_iincn (pc := 77) (j := 3) (d := 1) (lv' := fun v6 => [(3, .int v6), (0, .ref o_t), (1, .int x1), (2, .int x2)]) C dX12_curls_77 rfl (by decide) (by decide) (fun _ => rfl) h (fun v6 h => ?_)
    refine g_goto (pc := 80) (tgt := 39) C dX12_curls_80 (by decide) ?_
    refine g_sub [1, 2, 3, 0] rfl ?_
    exact ih _ h
set_option maxHeartbeats 4000000 in
set_option maxRecDepth 100000 in
theorem kL_X12_curls_105 {X : GC} {E : GE} (C : Cx X E cX12_curls RX12 3 8) (o_t : Nat) (a_t : Nat → Nat) (t_toldDoors : Int32) (t_barredDoors : Int32) (t_place0 : Int32) (t_length0 : Int32) (t_fault : Int32) (t_number0 : Int32) (t_open : Int32) (t_codeMany : Int32) (t_waiting : Int32) (t_saidMany : Int32) (t_clauses : Int32) (t_newMany : Int32) (t_rounds : Int32) (t_pinFrom : Int32) (t_pinTimes : Int32) (t_lines : Int32) (t_wasTold : Int32) (t_wasBarred : Int32) (t_goesNow : Int32) (t_jamsNow : Int32) (t_queued : Int32) (t_isKept : Int32) (t_taped : Int32) (t_tape : (Nat → Int32)) (x1 : Int32) (x2 : Int32) (x3 : Int32) (x4 : Int32) (x5 : Int32) (k0 : Int32 → Option (Int32 × Int32)) {r : Int32 × Int32} (hret : RtI X E cX12_curls .int 0 0 (fun w => w = (W_X12_curls E o_t a_t t_toldDoors t_barredDoors r.2 t_place0 t_length0 t_fault t_number0 t_open t_codeMany t_waiting t_saidMany t_clauses t_newMany t_rounds t_pinFrom t_pinTimes t_lines t_wasTold t_wasBarred t_goesNow t_jamsNow t_queued t_isKept t_tape)) r.1) (hk0 : ∀ u, k0 u = some r → Gx X E 0 0 (W_X12_curls E o_t a_t t_toldDoors t_barredDoors t_taped t_place0 t_length0 t_fault t_number0 t_open t_codeMany t_waiting t_saidMany t_clauses t_newMany t_rounds t_pinFrom t_pinTimes t_lines t_wasTold t_wasBarred t_goesNow t_jamsNow t_queued t_isKept t_tape) 132 [(0, .ref o_t), (1, .int x1), (2, .int x2), (3, .int x3), (4, .int x4), (5, .int x5), (6, .int u)] []) : ∀ (n : Nat) (s : Int32 × Int32), L_X12_curls_105 t_taped t_tape x1 x2 x3 x4 x5 k0 n s = some r → Gx X E 0 0 (W_X12_curls E o_t a_t t_toldDoors t_barredDoors t_taped t_place0 t_length0 t_fault t_number0 t_open t_codeMany t_waiting t_saidMany t_clauses t_newMany t_rounds t_pinFrom t_pinTimes t_lines t_wasTold t_wasBarred t_goesNow t_jamsNow t_queued t_isKept t_tape) 105 [(0, .ref o_t), (1, .int x1), (2, .int x2), (3, .int x3), (4, .int x4), (5, .int x5), (6, .int s.1), (7, .int s.2)] [] := by
  unfold L_X12_curls_105
  refine lp_ind _ (fun go ih s h => ?_)
  refine g_iload (pc := 105) C dX12_curls_105 7 rfl ?_
  refine g_iload_n (pc := 107) C dX12_curls_107 rfl 1 rfl ?_
  refine g_icmp_ge (pc := 108) (tgt := 132) C dX12_curls_108 (by decide) h (fun h => ?_) (fun h => ?_)
  · refine g_sub [0, 1, 2, 3, 4, 5, 6] rfl ?_
    exact hk0 _ h
  · refine g_iload (pc := 111) C dX12_curls_111 6 rfl ?_
    refine g_if_eq (pc := 113) (tgt := 132) C dX12_curls_113 (by decide) h (fun h => ?_) (fun h => ?_)
    · refine g_sub [0, 1, 2, 3, 4, 5, 6] rfl ?_
      exact hk0 _ h
    · refine g_aload_n (pc := 116) C dX12_curls_116 rfl 0 rfl ?_
      refine g_iload (pc := 117) C dX12_curls_117 5 rfl ?_
      refine g_iload (pc := 119) C dX12_curls_119 7 rfl ?_
      obtain ⟨u8, hu8, h⟩ := bs h
      refine g_callV (pc := 121) (st := []) (st1 := [.int u8]) (ws' := (W_X12_curls E o_t a_t t_toldDoors t_barredDoors t_taped t_place0 t_length0 t_fault t_number0 t_open t_codeMany t_waiting t_saidMany t_clauses t_newMany t_rounds t_pinFrom t_pinTimes t_lines t_wasTold t_wasBarred t_goesNow t_jamsNow t_queued t_isKept t_tape)) C mv_X12_fitsGuess mi_X12_fitsGuess ml_X12_399 (c_X12_fitsGuess X.2.1 E o_t a_t t_toldDoors t_barredDoors t_taped t_place0 t_length0 t_fault t_number0 t_open t_codeMany t_waiting t_saidMany t_clauses t_newMany t_rounds t_pinFrom t_pinTimes t_lines t_wasTold t_wasBarred t_goesNow t_jamsNow t_queued t_isKept t_tape x5 s.2 u8 hu8) dX12_curls_121 (by decide) rfl (Nat.le_of_ble_eq_true rfl) 0 11 rfl rfl [0, 1] rfl (by decide) rfl rfl rfl rfl ?_
      refine g_istore (pc := 124) (lv' := [(6, .int u8), (0, .ref o_t), (1, .int x1), (2, .int x2), (3, .int x3), (4, .int x4), (5, .int x5), (7, .int s.2)]) C dX12_curls_124 (by decide) rfl ?_
      refine g_iincn (pc := 126) (j := 7) (d := 1) (lv' := fun v9 => [(7, .int v9), (6, .int u8), (0, .ref o_t), (1, .int x1), (2, .int x2), (3, .int x3), (4, .int x4), (5, .int x5)]) C dX12_curls_126 rfl (by decide) (by decide) (fun _ => rfl) h (fun v9 h => ?_)
      refine g_goto (pc := 129) (tgt := 105) C dX12_curls_129 (by decide) ?_
      refine g_sub [2, 3, 4, 5, 6, 7, 1, 0] rfl ?_
      exact ih _ h
set_option maxHeartbeats 4000000 in
set_option maxRecDepth 100000 in
theorem kL_X12_curls_94 {X : GC} {E : GE} (C : Cx X E cX12_curls RX12 3 8) (o_t : Nat) (a_t : Nat → Nat) (t_toldDoors : Int32) (t_barredDoors : Int32) (t_place0 : Int32) (t_length0 : Int32) (t_fault : Int32) (t_number0 : Int32) (t_open : Int32) (t_codeMany : Int32) (t_waiting : Int32) (t_saidMany : Int32) (t_clauses : Int32) (t_newMany : Int32) (t_rounds : Int32) (t_pinFrom : Int32) (t_pinTimes : Int32) (t_lines : Int32) (t_wasTold : Int32) (t_wasBarred : Int32) (t_goesNow : Int32) (t_jamsNow : Int32) (t_queued : Int32) (t_isKept : Int32) (t_taped : Int32) (t_tape : (Nat → Int32)) (x1 : Int32) (x2 : Int32) (k0 : Int32 × Int32 → Option (Int32 × Int32)) {r : Int32 × Int32} (hret : RtI X E cX12_curls .int 0 0 (fun w => w = (W_X12_curls E o_t a_t t_toldDoors t_barredDoors r.2 t_place0 t_length0 t_fault t_number0 t_open t_codeMany t_waiting t_saidMany t_clauses t_newMany t_rounds t_pinFrom t_pinTimes t_lines t_wasTold t_wasBarred t_goesNow t_jamsNow t_queued t_isKept t_tape)) r.1) (hk0 : ∀ u, k0 u = some r → Gx X E 0 0 (W_X12_curls E o_t a_t t_toldDoors t_barredDoors t_taped t_place0 t_length0 t_fault t_number0 t_open t_codeMany t_waiting t_saidMany t_clauses t_newMany t_rounds t_pinFrom t_pinTimes t_lines t_wasTold t_wasBarred t_goesNow t_jamsNow t_queued t_isKept t_tape) 154 [(2, .int x2), (3, .int u.1), (4, .int u.2)] []) : ∀ (n : Nat) (s : Int32 × Int32 × Int32), L_X12_curls_94 t_taped t_tape x1 x2 k0 n s = some r → Gx X E 0 0 (W_X12_curls E o_t a_t t_toldDoors t_barredDoors t_taped t_place0 t_length0 t_fault t_number0 t_open t_codeMany t_waiting t_saidMany t_clauses t_newMany t_rounds t_pinFrom t_pinTimes t_lines t_wasTold t_wasBarred t_goesNow t_jamsNow t_queued t_isKept t_tape) 94 [(0, .ref o_t), (1, .int x1), (2, .int x2), (3, .int s.1), (4, .int s.2.1), (5, .int s.2.2)] [] := by
  unfold L_X12_curls_94
  refine lp_ind _ (fun go ih s h => ?_)
  refine g_iload (pc := 94) C dX12_curls_94 5 rfl ?_
  refine g_if_lt (pc := 96) (tgt := 154) C dX12_curls_96 (by decide) h (fun h => ?_) (fun h => ?_)
  · refine g_sub [2, 3, 4] rfl ?_
    exact hk0 _ h
  · refine g_iconst (pc := 99) (v := 1) C dX12_curls_99 (by decide) ?_
    refine g_istore (pc := 100) (lv' := [(6, .int (1 : Int32)), (0, .ref o_t), (1, .int x1), (2, .int x2), (3, .int s.1), (4, .int s.2.1), (5, .int s.2.2)]) C dX12_curls_100 (by decide) rfl ?_
    refine g_iconst (pc := 102) (v := 0) C dX12_curls_102 (by decide) ?_
    refine g_istore (pc := 103) (lv' := [(7, .int (0 : Int32)), (6, .int (1 : Int32)), (0, .ref o_t), (1, .int x1), (2, .int x2), (3, .int s.1), (4, .int s.2.1), (5, .int s.2.2)]) C dX12_curls_103 (by decide) rfl ?_
    refine g_sub [2, 3, 4, 5, 6, 7, 1, 0] rfl ?_
    refine kL_X12_curls_105 C o_t a_t t_toldDoors t_barredDoors t_place0 t_length0 t_fault t_number0 t_open t_codeMany t_waiting t_saidMany t_clauses t_newMany t_rounds t_pinFrom t_pinTimes t_lines t_wasTold t_wasBarred t_goesNow t_jamsNow t_queued t_isKept t_taped t_tape x1 x2 s.1 s.2.1 s.2.2 _ hret (fun s10 h => ?_) _ _ h
    refine g_iload (pc := 132) C dX12_curls_132 6 rfl ?_
    refine g_if_ne (pc := 134) (tgt := 140) C dX12_curls_134 (by decide) h (fun h => ?_) (fun h => ?_)
    · refine g_iload_n (pc := 140) C dX12_curls_140 rfl 3 rfl ?_
      refine g_iconst (pc := 141) (v := 1) C dX12_curls_141 (by decide) ?_
      refine g_iadd (pc := 142) C dX12_curls_142 ?_
      refine g_nm h (fun v11 h => ?_)
      refine g_istore_n (pc := 143) (lv' := [(3, .int v11), (0, .ref o_t), (1, .int x1), (2, .int x2), (4, .int s.2.1), (5, .int s.2.2), (6, .int s10)]) C dX12_curls_143 rfl (by decide) rfl ?_
      refine g_iload (pc := 144) C dX12_curls_144 5 rfl ?_
      refine g_istore (pc := 146) (lv' := [(4, .int s.2.2), (3, .int v11), (0, .ref o_t), (1, .int x1), (2, .int x2), (5, .int s.2.2), (6, .int s10)]) C dX12_curls_146 (by decide) rfl ?_
      refine g_iincn (pc := 148) (j := 5) (d := -1) (lv' := fun v12 => [(5, .int v12), (4, .int s.2.2), (3, .int v11), (0, .ref o_t), (1, .int x1), (2, .int x2), (6, .int s10)]) C dX12_curls_148 rfl (by decide) (by decide) (fun _ => rfl) h (fun v12 h => ?_)
      refine g_goto (pc := 151) (tgt := 94) C dX12_curls_151 (by decide) ?_
      refine g_sub [3, 4, 5, 2, 1, 0] rfl ?_
      exact ih _ h
    · refine g_goto (pc := 137) (tgt := 148) C dX12_curls_137 (by decide) ?_
      refine g_iincn (pc := 148) (j := 5) (d := -1) (lv' := fun v13 => [(5, .int v13), (0, .ref o_t), (1, .int x1), (2, .int x2), (3, .int s.1), (4, .int s.2.1), (6, .int s10)]) C dX12_curls_148 rfl (by decide) (by decide) (fun _ => rfl) h (fun v13 h => ?_)
      refine g_goto (pc := 151) (tgt := 94) C dX12_curls_151 (by decide) ?_
      refine g_sub [1, 2, 3, 4, 5, 0] rfl ?_
      exact ih _ h
set_option maxHeartbeats 4000000 in
set_option maxRecDepth 100000 in
theorem c_X12_curls (l : Launch) (E : GE) (o_t : Nat) (a_t : Nat → Nat) (t_toldDoors : Int32) (t_barredDoors : Int32) (t_taped : Int32) (t_place0 : Int32) (t_length0 : Int32) (t_fault : Int32) (t_number0 : Int32) (t_open : Int32) (t_codeMany : Int32) (t_waiting : Int32) (t_saidMany : Int32) (t_clauses : Int32) (t_newMany : Int32) (t_rounds : Int32) (t_pinFrom : Int32) (t_pinTimes : Int32) (t_lines : Int32) (t_wasTold : Int32) (t_wasBarred : Int32) (t_goesNow : Int32) (t_jamsNow : Int32) (t_queued : Int32) (t_isKept : Int32) (t_tape : (Nat → Int32)) (x1 : Int32) (x2 : Int32) (r : Int32 × Int32) (h : f_X12_curls t_taped t_tape x1 x2 = some r) : Cn l E yX12_curls cX12_curls 8 (some .int) 3 0 0 [.ref o_t, .int x1, .int x2] (W_X12_curls E o_t a_t t_toldDoors t_barredDoors t_taped t_place0 t_length0 t_fault t_number0 t_open t_codeMany t_waiting t_saidMany t_clauses t_newMany t_rounds t_pinFrom t_pinTimes t_lines t_wasTold t_wasBarred t_goesNow t_jamsNow t_queued t_isKept t_tape) (fun w => w = (W_X12_curls E o_t a_t t_toldDoors t_barredDoors r.2 t_place0 t_length0 t_fault t_number0 t_open t_codeMany t_waiting t_saidMany t_clauses t_newMany t_rounds t_pinFrom t_pinTimes t_lines t_wasTold t_wasBarred t_goesNow t_jamsNow t_queued t_isKept t_tape)) (some (.int r.1)) := by
  refine Cn.ofI (by decide +kernel) (Nat.le_of_ble_eq_true rfl) (fun X hX hR C hret => ?_)
  subst hX
  show Gx X E 0 0 (W_X12_curls E o_t a_t t_toldDoors t_barredDoors t_taped t_place0 t_length0 t_fault t_number0 t_open t_codeMany t_waiting t_saidMany t_clauses t_newMany t_rounds t_pinFrom t_pinTimes t_lines t_wasTold t_wasBarred t_goesNow t_jamsNow t_queued t_isKept t_tape) 0 [(0, .ref o_t), (1, .int x1), (2, .int x2)] []
  unfold f_X12_curls at h
  refine g_iload_n (pc := 0) C dX12_curls_0 rfl 1 rfl ?_
  refine g_iconst (pc := 1) (v := 0) C dX12_curls_1 (by decide) ?_
  refine g_bipush (pc := 2) (v := 8) C dX12_curls_2 (by decide) ?_
  obtain ⟨u1, hu1, h⟩ := bs h
  refine g_callS (pc := 4) (st := []) (st1 := [.int u1]) (ws' := (W_X12_curls E o_t a_t t_toldDoors t_barredDoors t_taped t_place0 t_length0 t_fault t_number0 t_open t_codeMany t_waiting t_saidMany t_clauses t_newMany t_rounds t_pinFrom t_pinTimes t_lines t_wasTold t_wasBarred t_goesNow t_jamsNow t_queued t_isKept t_tape)) C mv_X12_in ms_X12_in ml_X12_117 (c_X12_in X.2.1 E x1 (0 : Int32) (8 : Int32) u1 hu1) dX12_curls_4 (by decide) rfl (Nat.le_of_ble_eq_true rfl) [] rfl (by decide) rfl rfl rfl rfl ?_
  refine g_if_eq (pc := 7) (tgt := 30) C dX12_curls_7 (by decide) h (fun h => ?_) (fun h => ?_)
  · refine g_iconst (pc := 30) (v := -1) C dX12_curls_30 (by decide) ?_
    cases h
    exact hret _ _ _ dX12_curls_31 rfl rfl
  · refine g_iload_n (pc := 10) C dX12_curls_10 rfl 2 rfl ?_
    refine g_iconst (pc := 11) (v := 0) C dX12_curls_11 (by decide) ?_
    refine g_iconst (pc := 12) (v := 1) C dX12_curls_12 (by decide) ?_
    obtain ⟨u2, hu2, h⟩ := bs h
    refine g_callS (pc := 13) (st := []) (st1 := [.int u2]) (ws' := (W_X12_curls E o_t a_t t_toldDoors t_barredDoors t_taped t_place0 t_length0 t_fault t_number0 t_open t_codeMany t_waiting t_saidMany t_clauses t_newMany t_rounds t_pinFrom t_pinTimes t_lines t_wasTold t_wasBarred t_goesNow t_jamsNow t_queued t_isKept t_tape)) C mv_X12_in ms_X12_in ml_X12_117 (c_X12_in X.2.1 E x2 (0 : Int32) (1 : Int32) u2 hu2) dX12_curls_13 (by decide) rfl (Nat.le_of_ble_eq_true rfl) [] rfl (by decide) rfl rfl rfl rfl ?_
    refine g_if_eq (pc := 16) (tgt := 30) C dX12_curls_16 (by decide) h (fun h => ?_) (fun h => ?_)
    · refine g_iconst (pc := 30) (v := -1) C dX12_curls_30 (by decide) ?_
      cases h
      exact hret _ _ _ dX12_curls_31 rfl rfl
    · refine g_bipush (pc := 19) (v := 6) C dX12_curls_19 (by decide) ?_
      refine g_iload_n (pc := 21) C dX12_curls_21 rfl 1 rfl ?_
      refine g_imul (pc := 22) C dX12_curls_22 ?_
      refine g_aload_n (pc := 23) C dX12_curls_23 rfl 0 rfl ?_
      refine g_get (pc := 24) C fl_X12_139 dX12_curls_24 0 rfl rfl ?_
      refine g_icmp_le (pc := 27) (tgt := 32) C dX12_curls_27 (by decide) h (fun h => ?_) (fun h => ?_)
      · refine g_aload_n (pc := 32) C dX12_curls_32 rfl 0 rfl ?_
        refine g_iconst (pc := 33) (v := 0) C dX12_curls_33 (by decide) ?_
        refine g_put (pc := 34) (ws' := (W_X12_curls E o_t a_t t_toldDoors t_barredDoors (0 : Int32) t_place0 t_length0 t_fault t_number0 t_open t_codeMany t_waiting t_saidMany t_clauses t_newMany t_rounds t_pinFrom t_pinTimes t_lines t_wasTold t_wasBarred t_goesNow t_jamsNow t_queued t_isKept t_tape)) C .int fl_X12_139 dX12_curls_34 0 rfl (by decide +kernel) rfl rfl (Nat.le_of_ble_eq_true rfl) rfl ?_
        refine g_iconst (pc := 37) (v := 0) C dX12_curls_37 (by decide) ?_
        refine g_istore_n (pc := 38) (lv' := [(3, .int (0 : Int32)), (0, .ref o_t), (1, .int x1), (2, .int x2)]) C dX12_curls_38 rfl (by decide) rfl ?_
        refine g_sub [1, 2, 3, 0] rfl ?_
        refine kL_X12_curls_39 C o_t a_t t_toldDoors t_barredDoors t_place0 t_length0 t_fault t_number0 t_open t_codeMany t_waiting t_saidMany t_clauses t_newMany t_rounds t_pinFrom t_pinTimes t_lines t_wasTold t_wasBarred t_goesNow t_jamsNow t_queued t_isKept (0 : Int32) t_tape x1 x2 _ hret (fun s7 h => ?_) _ _ h
        refine g_iconst (pc := 83) (v := 0) C dX12_curls_83 (by decide) ?_
        refine g_istore_n (pc := 84) (lv' := [(3, .int (0 : Int32)), (0, .ref o_t), (1, .int x1), (2, .int x2)]) C dX12_curls_84 rfl (by decide) rfl ?_
        refine g_bipush (pc := 85) (v := -2) C dX12_curls_85 (by decide) ?_
        refine g_istore (pc := 87) (lv' := [(4, .int (-2 : Int32)), (3, .int (0 : Int32)), (0, .ref o_t), (1, .int x1), (2, .int x2)]) C dX12_curls_87 (by decide) rfl ?_
        refine g_sipush (pc := 89) (v := 1295) C dX12_curls_89 (by decide) ?_
        refine g_istore (pc := 92) (lv' := [(5, .int (1295 : Int32)), (4, .int (-2 : Int32)), (3, .int (0 : Int32)), (0, .ref o_t), (1, .int x1), (2, .int x2)]) C dX12_curls_92 (by decide) rfl ?_
        refine g_sub [3, 4, 5, 2, 1, 0] rfl ?_
        refine kL_X12_curls_94 C o_t a_t t_toldDoors t_barredDoors t_place0 t_length0 t_fault t_number0 t_open t_codeMany t_waiting t_saidMany t_clauses t_newMany t_rounds t_pinFrom t_pinTimes t_lines t_wasTold t_wasBarred t_goesNow t_jamsNow t_queued t_isKept (0 : Int32) t_tape x1 x2 _ hret (fun s14 h => ?_) _ _ h
        refine g_iload_n (pc := 154) C dX12_curls_154 rfl 0 rfl ?_
        refine g_if_ne (pc := 155) (tgt := 162) C dX12_curls_155 (by decide) h (fun h => ?_) (fun h => ?_)
        · refine g_iload (pc := 162) C dX12_curls_162 2 rfl ?_
          cases h
          exact hret _ _ _ dX12_curls_164 rfl rfl
        · refine g_iload_n (pc := 158) C dX12_curls_158 rfl 1 rfl ?_
          refine g_goto (pc := 159) (tgt := 164) C dX12_curls_159 (by decide) ?_
          cases h
          exact hret _ _ _ dX12_curls_164 rfl rfl
      · refine g_iconst (pc := 30) (v := -1) C dX12_curls_30 (by decide) ?_
        cases h
        exact hret _ _ _ dX12_curls_31 rfl rfl
abbrev W_X12_dish (E : GE) (O_t : Nat) (a_t : Nat → Nat) (t_toldDoors : Int32) (t_barredDoors : Int32) (t_taped : Int32) (t_place0 : Int32) (t_length0 : Int32) (t_fault : Int32) (t_number0 : Int32) (t_open : Int32) (t_codeMany : Int32) (t_waiting : Int32) (t_saidMany : Int32) (t_clauses : Int32) (t_newMany : Int32) (t_rounds : Int32) (t_pinFrom : Int32) (t_pinTimes : Int32) (t_lines : Int32) (t_wasTold : Int32) (t_wasBarred : Int32) (t_goesNow : Int32) (t_jamsNow : Int32) (t_queued : Int32) (t_isKept : Int32) (t_tape : (Nat → Int32)) : va_W := [(O_t, ob_X12 a_t t_toldDoors t_barredDoors t_taped t_place0 t_length0 t_fault t_number0 t_open t_codeMany t_waiting t_saidMany t_clauses t_newMany t_rounds t_pinFrom t_pinTimes t_lines t_wasTold t_wasBarred t_goesNow t_jamsNow t_queued t_isKept), (a_t 13, .inl (E.2.2.1, 260, .inl t_tape))]
def L_X12_dish_39 (t_taped : Int32) (t_tape : (Nat → Int32)) (x1 : Int32) (x2 : Int32) (k0 : Int32 → Option (Int32 × Int32)) : Nat → Int32 × Int32 → Option (Int32 × Int32) := lp fun go s => if (256 : Int32) ≤ s.2 then (k0 s.1) else (f_X12_alikeTo t_tape x1 s.2).bind fun u3 => (f_X12_alikeTo t_tape x1 s.1).bind fun u4 => if u3 ≤ u4 then (nm (s.2 + (1 : Int32)) fun v5 => go (s.1, v5)) else nm (s.2 + (1 : Int32)) fun v6 => go (s.2, v6)
def L_X12_dish_93 (t_taped : Int32) (t_tape : (Nat → Int32)) (x1 : Int32) (x3 : Int32) : Nat → Int32 → Option (Int32 × Int32) := lp fun go s => if x1 ≤ s then (some ((-2 : Int32), t_taped)) else (f_X12_octet t_tape s).bind fun u8 => if u8 = x3 then (nm (s + (1 : Int32)) fun v9 => go v9) else some (s, t_taped)
def f_X12_dish (t_taped : Int32) (t_tape : (Nat → Int32)) (x1 : Int32) (x2 : Int32) : Option (Int32 × Int32) := (f_X12_in x1 (1 : Int32) (12 : Int32)).bind fun u1 => if u1 = 0 then (some ((-1 : Int32), t_taped)) else (f_X12_in x2 (0 : Int32) (2 : Int32)).bind fun u2 => if u2 = 0 then (some ((-1 : Int32), t_taped)) else if x1 ≤ t_taped then (L_X12_dish_39 (0 : Int32) t_tape x1 x2 (fun s7 => if x2 = 0 then ((f_X12_alikeTo t_tape x1 s7).bind fun u10 => some (u10, (0 : Int32))) else if x2 = (1 : Int32) then (some (s7, (0 : Int32))) else L_X12_dish_93 (0 : Int32) t_tape x1 s7 fu (0 : Int32)) fu ((0 : Int32), (1 : Int32))) else some ((-1 : Int32), t_taped)
theorem dX12_dish_0 : decode cX12_dish 0 = .ok (.iload_n 1, 1) := by decide +kernel
theorem dX12_dish_1 : decode cX12_dish 1 = .ok (.iconst 1, 1) := by decide +kernel
theorem dX12_dish_2 : decode cX12_dish 2 = .ok (.bipush 12, 2) := by decide +kernel
theorem dX12_dish_4 : decode cX12_dish 4 = .ok (.invokestatic 117, 3) := by decide +kernel
theorem dX12_dish_7 : decode cX12_dish 7 = .ok (.ifCond .eq 20, 3) := by decide +kernel
theorem dX12_dish_10 : decode cX12_dish 10 = .ok (.iload_n 2, 1) := by decide +kernel
theorem dX12_dish_11 : decode cX12_dish 11 = .ok (.iconst 0, 1) := by decide +kernel
theorem dX12_dish_12 : decode cX12_dish 12 = .ok (.iconst 2, 1) := by decide +kernel
theorem dX12_dish_13 : decode cX12_dish 13 = .ok (.invokestatic 117, 3) := by decide +kernel
theorem dX12_dish_16 : decode cX12_dish 16 = .ok (.ifCond .eq 11, 3) := by decide +kernel
theorem dX12_dish_19 : decode cX12_dish 19 = .ok (.iload_n 1, 1) := by decide +kernel
theorem dX12_dish_20 : decode cX12_dish 20 = .ok (.aload_n 0, 1) := by decide +kernel
theorem dX12_dish_21 : decode cX12_dish 21 = .ok (.getfield 139, 3) := by decide +kernel
theorem dX12_dish_24 : decode cX12_dish 24 = .ok (.if_icmp .le 5, 3) := by decide +kernel
theorem dX12_dish_27 : decode cX12_dish 27 = .ok (.iconst (-1), 1) := by decide +kernel
theorem dX12_dish_28 : decode cX12_dish 28 = .ok (.ireturn, 1) := by decide +kernel
theorem dX12_dish_29 : decode cX12_dish 29 = .ok (.aload_n 0, 1) := by decide +kernel
theorem dX12_dish_30 : decode cX12_dish 30 = .ok (.iconst 0, 1) := by decide +kernel
theorem dX12_dish_31 : decode cX12_dish 31 = .ok (.putfield 139, 3) := by decide +kernel
theorem dX12_dish_34 : decode cX12_dish 34 = .ok (.iconst 0, 1) := by decide +kernel
theorem dX12_dish_35 : decode cX12_dish 35 = .ok (.istore_n 3, 1) := by decide +kernel
theorem dX12_dish_36 : decode cX12_dish 36 = .ok (.iconst 1, 1) := by decide +kernel
theorem dX12_dish_37 : decode cX12_dish 37 = .ok (.istore 4, 2) := by decide +kernel
theorem dX12_dish_39 : decode cX12_dish 39 = .ok (.iload 4, 2) := by decide +kernel
theorem dX12_dish_41 : decode cX12_dish 41 = .ok (.sipush 256, 3) := by decide +kernel
theorem dX12_dish_44 : decode cX12_dish 44 = .ok (.if_icmp .ge 28, 3) := by decide +kernel
theorem dX12_dish_47 : decode cX12_dish 47 = .ok (.aload_n 0, 1) := by decide +kernel
theorem dX12_dish_48 : decode cX12_dish 48 = .ok (.iload_n 1, 1) := by decide +kernel
theorem dX12_dish_49 : decode cX12_dish 49 = .ok (.iload 4, 2) := by decide +kernel
theorem dX12_dish_51 : decode cX12_dish 51 = .ok (.invokevirtual 402, 3) := by decide +kernel
theorem dX12_dish_54 : decode cX12_dish 54 = .ok (.aload_n 0, 1) := by decide +kernel
theorem dX12_dish_55 : decode cX12_dish 55 = .ok (.iload_n 1, 1) := by decide +kernel
theorem dX12_dish_56 : decode cX12_dish 56 = .ok (.iload_n 3, 1) := by decide +kernel
theorem dX12_dish_57 : decode cX12_dish 57 = .ok (.invokevirtual 402, 3) := by decide +kernel
theorem dX12_dish_60 : decode cX12_dish 60 = .ok (.if_icmp .le 6, 3) := by decide +kernel
theorem dX12_dish_63 : decode cX12_dish 63 = .ok (.iload 4, 2) := by decide +kernel
theorem dX12_dish_65 : decode cX12_dish 65 = .ok (.istore_n 3, 1) := by decide +kernel
theorem dX12_dish_66 : decode cX12_dish 66 = .ok (.iinc 4 1, 3) := by decide +kernel
theorem dX12_dish_69 : decode cX12_dish 69 = .ok (.goto (-30), 3) := by decide +kernel
theorem dX12_dish_72 : decode cX12_dish 72 = .ok (.iload_n 2, 1) := by decide +kernel
theorem dX12_dish_73 : decode cX12_dish 73 = .ok (.ifCond .ne 10, 3) := by decide +kernel
theorem dX12_dish_76 : decode cX12_dish 76 = .ok (.aload_n 0, 1) := by decide +kernel
theorem dX12_dish_77 : decode cX12_dish 77 = .ok (.iload_n 1, 1) := by decide +kernel
theorem dX12_dish_78 : decode cX12_dish 78 = .ok (.iload_n 3, 1) := by decide +kernel
theorem dX12_dish_79 : decode cX12_dish 79 = .ok (.invokevirtual 402, 3) := by decide +kernel
theorem dX12_dish_82 : decode cX12_dish 82 = .ok (.ireturn, 1) := by decide +kernel
theorem dX12_dish_83 : decode cX12_dish 83 = .ok (.iload_n 2, 1) := by decide +kernel
theorem dX12_dish_84 : decode cX12_dish 84 = .ok (.iconst 1, 1) := by decide +kernel
theorem dX12_dish_85 : decode cX12_dish 85 = .ok (.if_icmp .ne 5, 3) := by decide +kernel
theorem dX12_dish_88 : decode cX12_dish 88 = .ok (.iload_n 3, 1) := by decide +kernel
theorem dX12_dish_89 : decode cX12_dish 89 = .ok (.ireturn, 1) := by decide +kernel
theorem dX12_dish_90 : decode cX12_dish 90 = .ok (.iconst 0, 1) := by decide +kernel
theorem dX12_dish_91 : decode cX12_dish 91 = .ok (.istore 4, 2) := by decide +kernel
theorem dX12_dish_93 : decode cX12_dish 93 = .ok (.iload 4, 2) := by decide +kernel
theorem dX12_dish_95 : decode cX12_dish 95 = .ok (.iload_n 1, 1) := by decide +kernel
theorem dX12_dish_96 : decode cX12_dish 96 = .ok (.if_icmp .ge 22, 3) := by decide +kernel
theorem dX12_dish_99 : decode cX12_dish 99 = .ok (.aload_n 0, 1) := by decide +kernel
theorem dX12_dish_100 : decode cX12_dish 100 = .ok (.iload 4, 2) := by decide +kernel
theorem dX12_dish_102 : decode cX12_dish 102 = .ok (.invokevirtual 387, 3) := by decide +kernel
theorem dX12_dish_105 : decode cX12_dish 105 = .ok (.iload_n 3, 1) := by decide +kernel
theorem dX12_dish_106 : decode cX12_dish 106 = .ok (.if_icmp .eq 6, 3) := by decide +kernel
theorem dX12_dish_109 : decode cX12_dish 109 = .ok (.iload 4, 2) := by decide +kernel
theorem dX12_dish_111 : decode cX12_dish 111 = .ok (.ireturn, 1) := by decide +kernel
theorem dX12_dish_112 : decode cX12_dish 112 = .ok (.iinc 4 1, 3) := by decide +kernel
theorem dX12_dish_115 : decode cX12_dish 115 = .ok (.goto (-22), 3) := by decide +kernel
theorem dX12_dish_118 : decode cX12_dish 118 = .ok (.bipush (-2), 2) := by decide +kernel
theorem dX12_dish_120 : decode cX12_dish 120 = .ok (.ireturn, 1) := by decide +kernel
set_option maxHeartbeats 4000000 in
set_option maxRecDepth 100000 in
theorem kL_X12_dish_39 {X : GC} {E : GE} (C : Cx X E cX12_dish RX12 3 5) (o_t : Nat) (a_t : Nat → Nat) (t_toldDoors : Int32) (t_barredDoors : Int32) (t_place0 : Int32) (t_length0 : Int32) (t_fault : Int32) (t_number0 : Int32) (t_open : Int32) (t_codeMany : Int32) (t_waiting : Int32) (t_saidMany : Int32) (t_clauses : Int32) (t_newMany : Int32) (t_rounds : Int32) (t_pinFrom : Int32) (t_pinTimes : Int32) (t_lines : Int32) (t_wasTold : Int32) (t_wasBarred : Int32) (t_goesNow : Int32) (t_jamsNow : Int32) (t_queued : Int32) (t_isKept : Int32) (t_taped : Int32) (t_tape : (Nat → Int32)) (x1 : Int32) (x2 : Int32) (k0 : Int32 → Option (Int32 × Int32)) {r : Int32 × Int32} (hret : RtI X E cX12_dish .int 0 0 (fun w => w = (W_X12_dish E o_t a_t t_toldDoors t_barredDoors r.2 t_place0 t_length0 t_fault t_number0 t_open t_codeMany t_waiting t_saidMany t_clauses t_newMany t_rounds t_pinFrom t_pinTimes t_lines t_wasTold t_wasBarred t_goesNow t_jamsNow t_queued t_isKept t_tape)) r.1) (hk0 : ∀ u, k0 u = some r → Gx X E 0 0 (W_X12_dish E o_t a_t t_toldDoors t_barredDoors t_taped t_place0 t_length0 t_fault t_number0 t_open t_codeMany t_waiting t_saidMany t_clauses t_newMany t_rounds t_pinFrom t_pinTimes t_lines t_wasTold t_wasBarred t_goesNow t_jamsNow t_queued t_isKept t_tape) 72 [(0, .ref o_t), (1, .int x1), (2, .int x2), (3, .int u)] []) : ∀ (n : Nat) (s : Int32 × Int32), L_X12_dish_39 t_taped t_tape x1 x2 k0 n s = some r → Gx X E 0 0 (W_X12_dish E o_t a_t t_toldDoors t_barredDoors t_taped t_place0 t_length0 t_fault t_number0 t_open t_codeMany t_waiting t_saidMany t_clauses t_newMany t_rounds t_pinFrom t_pinTimes t_lines t_wasTold t_wasBarred t_goesNow t_jamsNow t_queued t_isKept t_tape) 39 [(0, .ref o_t), (1, .int x1), (2, .int x2), (3, .int s.1), (4, .int s.2)] [] := by
  unfold L_X12_dish_39
  refine lp_ind _ (fun go ih s h => ?_)
  refine g_iload (pc := 39) C dX12_dish_39 4 rfl ?_
  refine g_sipush (pc := 41) (v := 256) C dX12_dish_41 (by decide) ?_
  refine g_icmp_ge (pc := 44) (tgt := 72) C dX12_dish_44 (by decide) h (fun h => ?_) (fun h => ?_)
  · refine g_sub [0, 1, 2, 3] rfl ?_
    exact hk0 _ h
  · refine g_aload_n (pc := 47) C dX12_dish_47 rfl 0 rfl ?_
    refine g_iload_n (pc := 48) C dX12_dish_48 rfl 1 rfl ?_
    refine g_iload (pc := 49) C dX12_dish_49 4 rfl ?_
    obtain ⟨u3, hu3, h⟩ := bs h
    refine g_callV (pc := 51) (st := []) (st1 := [.int u3]) (ws' := (W_X12_dish E o_t a_t t_toldDoors t_barredDoors t_taped t_place0 t_length0 t_fault t_number0 t_open t_codeMany t_waiting t_saidMany t_clauses t_newMany t_rounds t_pinFrom t_pinTimes t_lines t_wasTold t_wasBarred t_goesNow t_jamsNow t_queued t_isKept t_tape)) C mv_X12_alikeTo mi_X12_alikeTo ml_X12_402 (c_X12_alikeTo X.2.1 E o_t a_t t_toldDoors t_barredDoors t_taped t_place0 t_length0 t_fault t_number0 t_open t_codeMany t_waiting t_saidMany t_clauses t_newMany t_rounds t_pinFrom t_pinTimes t_lines t_wasTold t_wasBarred t_goesNow t_jamsNow t_queued t_isKept t_tape x1 s.2 u3 hu3) dX12_dish_51 (by decide) rfl (Nat.le_of_ble_eq_true rfl) 0 11 rfl rfl [0, 1] rfl (by decide) rfl rfl rfl rfl ?_
    refine g_aload_n (pc := 54) C dX12_dish_54 rfl 0 rfl ?_
    refine g_iload_n (pc := 55) C dX12_dish_55 rfl 1 rfl ?_
    refine g_iload_n (pc := 56) C dX12_dish_56 rfl 3 rfl ?_
    obtain ⟨u4, hu4, h⟩ := bs h
    refine g_callV (pc := 57) (st := [.int u3]) (st1 := [.int u4, .int u3]) (ws' := (W_X12_dish E o_t a_t t_toldDoors t_barredDoors t_taped t_place0 t_length0 t_fault t_number0 t_open t_codeMany t_waiting t_saidMany t_clauses t_newMany t_rounds t_pinFrom t_pinTimes t_lines t_wasTold t_wasBarred t_goesNow t_jamsNow t_queued t_isKept t_tape)) C mv_X12_alikeTo mi_X12_alikeTo ml_X12_402 (c_X12_alikeTo X.2.1 E o_t a_t t_toldDoors t_barredDoors t_taped t_place0 t_length0 t_fault t_number0 t_open t_codeMany t_waiting t_saidMany t_clauses t_newMany t_rounds t_pinFrom t_pinTimes t_lines t_wasTold t_wasBarred t_goesNow t_jamsNow t_queued t_isKept t_tape x1 s.1 u4 hu4) dX12_dish_57 (by decide) rfl (Nat.le_of_ble_eq_true rfl) 0 11 rfl rfl [0, 1] rfl (by decide) rfl rfl rfl rfl ?_
    refine g_icmp_le (pc := 60) (tgt := 66) C dX12_dish_60 (by decide) h (fun h => ?_) (fun h => ?_)
    · refine g_iincn (pc := 66) (j := 4) (d := 1) (lv' := fun v5 => [(4, .int v5), (0, .ref o_t), (1, .int x1), (2, .int x2), (3, .int s.1)]) C dX12_dish_66 rfl (by decide) (by decide) (fun _ => rfl) h (fun v5 h => ?_)
      refine g_goto (pc := 69) (tgt := 39) C dX12_dish_69 (by decide) ?_
      refine g_sub [1, 2, 3, 4, 0] rfl ?_
      exact ih _ h
    · refine g_iload (pc := 63) C dX12_dish_63 4 rfl ?_
      refine g_istore_n (pc := 65) (lv' := [(3, .int s.2), (0, .ref o_t), (1, .int x1), (2, .int x2), (4, .int s.2)]) C dX12_dish_65 rfl (by decide) rfl ?_
      refine g_iincn (pc := 66) (j := 4) (d := 1) (lv' := fun v6 => [(4, .int v6), (3, .int s.2), (0, .ref o_t), (1, .int x1), (2, .int x2)]) C dX12_dish_66 rfl (by decide) (by decide) (fun _ => rfl) h (fun v6 h => ?_)
      refine g_goto (pc := 69) (tgt := 39) C dX12_dish_69 (by decide) ?_
      refine g_sub [2, 3, 4, 1, 0] rfl ?_
      exact ih _ h
set_option maxHeartbeats 4000000 in
set_option maxRecDepth 100000 in
theorem kL_X12_dish_93 {X : GC} {E : GE} (C : Cx X E cX12_dish RX12 3 5) (o_t : Nat) (a_t : Nat → Nat) (t_toldDoors : Int32) (t_barredDoors : Int32) (t_place0 : Int32) (t_length0 : Int32) (t_fault : Int32) (t_number0 : Int32) (t_open : Int32) (t_codeMany : Int32) (t_waiting : Int32) (t_saidMany : Int32) (t_clauses : Int32) (t_newMany : Int32) (t_rounds : Int32) (t_pinFrom : Int32) (t_pinTimes : Int32) (t_lines : Int32) (t_wasTold : Int32) (t_wasBarred : Int32) (t_goesNow : Int32) (t_jamsNow : Int32) (t_queued : Int32) (t_isKept : Int32) (t_taped : Int32) (t_tape : (Nat → Int32)) (x1 : Int32) (x3 : Int32) {r : Int32 × Int32} (hret : RtI X E cX12_dish .int 0 0 (fun w => w = (W_X12_dish E o_t a_t t_toldDoors t_barredDoors r.2 t_place0 t_length0 t_fault t_number0 t_open t_codeMany t_waiting t_saidMany t_clauses t_newMany t_rounds t_pinFrom t_pinTimes t_lines t_wasTold t_wasBarred t_goesNow t_jamsNow t_queued t_isKept t_tape)) r.1) : ∀ (n : Nat) (s : Int32), L_X12_dish_93 t_taped t_tape x1 x3 n s = some r → Gx X E 0 0 (W_X12_dish E o_t a_t t_toldDoors t_barredDoors t_taped t_place0 t_length0 t_fault t_number0 t_open t_codeMany t_waiting t_saidMany t_clauses t_newMany t_rounds t_pinFrom t_pinTimes t_lines t_wasTold t_wasBarred t_goesNow t_jamsNow t_queued t_isKept t_tape) 93 [(0, .ref o_t), (1, .int x1), (3, .int x3), (4, .int s)] [] := by
  unfold L_X12_dish_93
  refine lp_ind _ (fun go ih s h => ?_)
  refine g_iload (pc := 93) C dX12_dish_93 3 rfl ?_
  refine g_iload_n (pc := 95) C dX12_dish_95 rfl 1 rfl ?_
  refine g_icmp_ge (pc := 96) (tgt := 118) C dX12_dish_96 (by decide) h (fun h => ?_) (fun h => ?_)
  · refine g_bipush (pc := 118) (v := -2) C dX12_dish_118 (by decide) ?_
    cases h
    exact hret _ _ _ dX12_dish_120 rfl rfl
  · refine g_aload_n (pc := 99) C dX12_dish_99 rfl 0 rfl ?_
    refine g_iload (pc := 100) C dX12_dish_100 3 rfl ?_
    obtain ⟨u8, hu8, h⟩ := bs h
    refine g_callV (pc := 102) (st := []) (st1 := [.int u8]) (ws' := (W_X12_dish E o_t a_t t_toldDoors t_barredDoors t_taped t_place0 t_length0 t_fault t_number0 t_open t_codeMany t_waiting t_saidMany t_clauses t_newMany t_rounds t_pinFrom t_pinTimes t_lines t_wasTold t_wasBarred t_goesNow t_jamsNow t_queued t_isKept t_tape)) C mv_X12_octet mi_X12_octet ml_X12_387 (c_X12_octet X.2.1 E o_t a_t t_toldDoors t_barredDoors t_taped t_place0 t_length0 t_fault t_number0 t_open t_codeMany t_waiting t_saidMany t_clauses t_newMany t_rounds t_pinFrom t_pinTimes t_lines t_wasTold t_wasBarred t_goesNow t_jamsNow t_queued t_isKept t_tape s u8 hu8) dX12_dish_102 (by decide) rfl (Nat.le_of_ble_eq_true rfl) 0 11 rfl rfl [0, 1] rfl (by decide) rfl rfl rfl rfl ?_
    refine g_iload_n (pc := 105) C dX12_dish_105 rfl 2 rfl ?_
    refine g_icmp_eq (pc := 106) (tgt := 112) C dX12_dish_106 (by decide) h (fun h => ?_) (fun h => ?_)
    · refine g_iincn (pc := 112) (j := 3) (d := 1) (lv' := fun v9 => [(4, .int v9), (0, .ref o_t), (1, .int x1), (3, .int x3)]) C dX12_dish_112 rfl (by decide) (by decide) (fun _ => rfl) h (fun v9 h => ?_)
      refine g_goto (pc := 115) (tgt := 93) C dX12_dish_115 (by decide) ?_
      refine g_sub [1, 2, 3, 0] rfl ?_
      exact ih _ h
    · refine g_iload (pc := 109) C dX12_dish_109 3 rfl ?_
      cases h
      exact hret _ _ _ dX12_dish_111 rfl rfl
set_option maxHeartbeats 4000000 in
set_option maxRecDepth 100000 in
theorem c_X12_dish (l : Launch) (E : GE) (o_t : Nat) (a_t : Nat → Nat) (t_toldDoors : Int32) (t_barredDoors : Int32) (t_taped : Int32) (t_place0 : Int32) (t_length0 : Int32) (t_fault : Int32) (t_number0 : Int32) (t_open : Int32) (t_codeMany : Int32) (t_waiting : Int32) (t_saidMany : Int32) (t_clauses : Int32) (t_newMany : Int32) (t_rounds : Int32) (t_pinFrom : Int32) (t_pinTimes : Int32) (t_lines : Int32) (t_wasTold : Int32) (t_wasBarred : Int32) (t_goesNow : Int32) (t_jamsNow : Int32) (t_queued : Int32) (t_isKept : Int32) (t_tape : (Nat → Int32)) (x1 : Int32) (x2 : Int32) (r : Int32 × Int32) (h : f_X12_dish t_taped t_tape x1 x2 = some r) : Cn l E yX12_dish cX12_dish 5 (some .int) 3 0 0 [.ref o_t, .int x1, .int x2] (W_X12_dish E o_t a_t t_toldDoors t_barredDoors t_taped t_place0 t_length0 t_fault t_number0 t_open t_codeMany t_waiting t_saidMany t_clauses t_newMany t_rounds t_pinFrom t_pinTimes t_lines t_wasTold t_wasBarred t_goesNow t_jamsNow t_queued t_isKept t_tape) (fun w => w = (W_X12_dish E o_t a_t t_toldDoors t_barredDoors r.2 t_place0 t_length0 t_fault t_number0 t_open t_codeMany t_waiting t_saidMany t_clauses t_newMany t_rounds t_pinFrom t_pinTimes t_lines t_wasTold t_wasBarred t_goesNow t_jamsNow t_queued t_isKept t_tape)) (some (.int r.1)) := by
  refine Cn.ofI (by decide +kernel) (Nat.le_of_ble_eq_true rfl) (fun X hX hR C hret => ?_)
  subst hX
  show Gx X E 0 0 (W_X12_dish E o_t a_t t_toldDoors t_barredDoors t_taped t_place0 t_length0 t_fault t_number0 t_open t_codeMany t_waiting t_saidMany t_clauses t_newMany t_rounds t_pinFrom t_pinTimes t_lines t_wasTold t_wasBarred t_goesNow t_jamsNow t_queued t_isKept t_tape) 0 [(0, .ref o_t), (1, .int x1), (2, .int x2)] []
  unfold f_X12_dish at h
  refine g_iload_n (pc := 0) C dX12_dish_0 rfl 1 rfl ?_
  refine g_iconst (pc := 1) (v := 1) C dX12_dish_1 (by decide) ?_
  refine g_bipush (pc := 2) (v := 12) C dX12_dish_2 (by decide) ?_
  obtain ⟨u1, hu1, h⟩ := bs h
  refine g_callS (pc := 4) (st := []) (st1 := [.int u1]) (ws' := (W_X12_dish E o_t a_t t_toldDoors t_barredDoors t_taped t_place0 t_length0 t_fault t_number0 t_open t_codeMany t_waiting t_saidMany t_clauses t_newMany t_rounds t_pinFrom t_pinTimes t_lines t_wasTold t_wasBarred t_goesNow t_jamsNow t_queued t_isKept t_tape)) C mv_X12_in ms_X12_in ml_X12_117 (c_X12_in X.2.1 E x1 (1 : Int32) (12 : Int32) u1 hu1) dX12_dish_4 (by decide) rfl (Nat.le_of_ble_eq_true rfl) [] rfl (by decide) rfl rfl rfl rfl ?_
  refine g_if_eq (pc := 7) (tgt := 27) C dX12_dish_7 (by decide) h (fun h => ?_) (fun h => ?_)
  · refine g_iconst (pc := 27) (v := -1) C dX12_dish_27 (by decide) ?_
    cases h
    exact hret _ _ _ dX12_dish_28 rfl rfl
  · refine g_iload_n (pc := 10) C dX12_dish_10 rfl 2 rfl ?_
    refine g_iconst (pc := 11) (v := 0) C dX12_dish_11 (by decide) ?_
    refine g_iconst (pc := 12) (v := 2) C dX12_dish_12 (by decide) ?_
    obtain ⟨u2, hu2, h⟩ := bs h
    refine g_callS (pc := 13) (st := []) (st1 := [.int u2]) (ws' := (W_X12_dish E o_t a_t t_toldDoors t_barredDoors t_taped t_place0 t_length0 t_fault t_number0 t_open t_codeMany t_waiting t_saidMany t_clauses t_newMany t_rounds t_pinFrom t_pinTimes t_lines t_wasTold t_wasBarred t_goesNow t_jamsNow t_queued t_isKept t_tape)) C mv_X12_in ms_X12_in ml_X12_117 (c_X12_in X.2.1 E x2 (0 : Int32) (2 : Int32) u2 hu2) dX12_dish_13 (by decide) rfl (Nat.le_of_ble_eq_true rfl) [] rfl (by decide) rfl rfl rfl rfl ?_
    refine g_if_eq (pc := 16) (tgt := 27) C dX12_dish_16 (by decide) h (fun h => ?_) (fun h => ?_)
    · refine g_iconst (pc := 27) (v := -1) C dX12_dish_27 (by decide) ?_
      cases h
      exact hret _ _ _ dX12_dish_28 rfl rfl
    · refine g_iload_n (pc := 19) C dX12_dish_19 rfl 1 rfl ?_
      refine g_aload_n (pc := 20) C dX12_dish_20 rfl 0 rfl ?_
      refine g_get (pc := 21) C fl_X12_139 dX12_dish_21 0 rfl rfl ?_
      refine g_icmp_le (pc := 24) (tgt := 29) C dX12_dish_24 (by decide) h (fun h => ?_) (fun h => ?_)
      · refine g_aload_n (pc := 29) C dX12_dish_29 rfl 0 rfl ?_
        refine g_iconst (pc := 30) (v := 0) C dX12_dish_30 (by decide) ?_
        refine g_put (pc := 31) (ws' := (W_X12_dish E o_t a_t t_toldDoors t_barredDoors (0 : Int32) t_place0 t_length0 t_fault t_number0 t_open t_codeMany t_waiting t_saidMany t_clauses t_newMany t_rounds t_pinFrom t_pinTimes t_lines t_wasTold t_wasBarred t_goesNow t_jamsNow t_queued t_isKept t_tape)) C .int fl_X12_139 dX12_dish_31 0 rfl (by decide +kernel) rfl rfl (Nat.le_of_ble_eq_true rfl) rfl ?_
        refine g_iconst (pc := 34) (v := 0) C dX12_dish_34 (by decide) ?_
        refine g_istore_n (pc := 35) (lv' := [(3, .int (0 : Int32)), (0, .ref o_t), (1, .int x1), (2, .int x2)]) C dX12_dish_35 rfl (by decide) rfl ?_
        refine g_iconst (pc := 36) (v := 1) C dX12_dish_36 (by decide) ?_
        refine g_istore (pc := 37) (lv' := [(4, .int (1 : Int32)), (3, .int (0 : Int32)), (0, .ref o_t), (1, .int x1), (2, .int x2)]) C dX12_dish_37 (by decide) rfl ?_
        refine g_sub [2, 3, 4, 1, 0] rfl ?_
        refine kL_X12_dish_39 C o_t a_t t_toldDoors t_barredDoors t_place0 t_length0 t_fault t_number0 t_open t_codeMany t_waiting t_saidMany t_clauses t_newMany t_rounds t_pinFrom t_pinTimes t_lines t_wasTold t_wasBarred t_goesNow t_jamsNow t_queued t_isKept (0 : Int32) t_tape x1 x2 _ hret (fun s7 h => ?_) _ _ h
        refine g_iload_n (pc := 72) C dX12_dish_72 rfl 2 rfl ?_
        refine g_if_ne (pc := 73) (tgt := 83) C dX12_dish_73 (by decide) h (fun h => ?_) (fun h => ?_)
        · refine g_iload_n (pc := 83) C dX12_dish_83 rfl 2 rfl ?_
          refine g_iconst (pc := 84) (v := 1) C dX12_dish_84 (by decide) ?_
          refine g_icmp_ne (pc := 85) (tgt := 90) C dX12_dish_85 (by decide) h (fun h => ?_) (fun h => ?_)
          · refine g_iconst (pc := 90) (v := 0) C dX12_dish_90 (by decide) ?_
            refine g_istore (pc := 91) (lv' := [(4, .int (0 : Int32)), (0, .ref o_t), (1, .int x1), (2, .int x2), (3, .int s7)]) C dX12_dish_91 (by decide) rfl ?_
            refine g_sub [1, 2, 4, 0] rfl ?_
            refine kL_X12_dish_93 C o_t a_t t_toldDoors t_barredDoors t_place0 t_length0 t_fault t_number0 t_open t_codeMany t_waiting t_saidMany t_clauses t_newMany t_rounds t_pinFrom t_pinTimes t_lines t_wasTold t_wasBarred t_goesNow t_jamsNow t_queued t_isKept (0 : Int32) t_tape x1 s7 hret  _ _ h
          · refine g_iload_n (pc := 88) C dX12_dish_88 rfl 3 rfl ?_
            cases h
            exact hret _ _ _ dX12_dish_89 rfl rfl
        · refine g_aload_n (pc := 76) C dX12_dish_76 rfl 0 rfl ?_
          refine g_iload_n (pc := 77) C dX12_dish_77 rfl 1 rfl ?_
          refine g_iload_n (pc := 78) C dX12_dish_78 rfl 3 rfl ?_
          obtain ⟨u10, hu10, h⟩ := bs h
          refine g_callV (pc := 79) (st := []) (st1 := [.int u10]) (ws' := (W_X12_dish E o_t a_t t_toldDoors t_barredDoors (0 : Int32) t_place0 t_length0 t_fault t_number0 t_open t_codeMany t_waiting t_saidMany t_clauses t_newMany t_rounds t_pinFrom t_pinTimes t_lines t_wasTold t_wasBarred t_goesNow t_jamsNow t_queued t_isKept t_tape)) C mv_X12_alikeTo mi_X12_alikeTo ml_X12_402 (c_X12_alikeTo X.2.1 E o_t a_t t_toldDoors t_barredDoors (0 : Int32) t_place0 t_length0 t_fault t_number0 t_open t_codeMany t_waiting t_saidMany t_clauses t_newMany t_rounds t_pinFrom t_pinTimes t_lines t_wasTold t_wasBarred t_goesNow t_jamsNow t_queued t_isKept t_tape x1 s7 u10 hu10) dX12_dish_79 (by decide) rfl (Nat.le_of_ble_eq_true rfl) 0 11 rfl rfl [0, 1] rfl (by decide) rfl rfl rfl rfl ?_
          cases h
          exact hret _ _ _ dX12_dish_82 rfl rfl
      · refine g_iconst (pc := 27) (v := -1) C dX12_dish_27 (by decide) ?_
        cases h
        exact hret _ _ _ dX12_dish_28 rfl rfl
abbrev W_X12_doorIs (E : GE) (O_t : Nat) (a_t : Nat → Nat) (t_toldDoors : Int32) (t_barredDoors : Int32) (t_taped : Int32) (t_place0 : Int32) (t_length0 : Int32) (t_fault : Int32) (t_number0 : Int32) (t_open : Int32) (t_codeMany : Int32) (t_waiting : Int32) (t_saidMany : Int32) (t_clauses : Int32) (t_newMany : Int32) (t_rounds : Int32) (t_pinFrom : Int32) (t_pinTimes : Int32) (t_lines : Int32) (t_wasTold : Int32) (t_wasBarred : Int32) (t_goesNow : Int32) (t_jamsNow : Int32) (t_queued : Int32) (t_isKept : Int32) (t_now : (Nat → Int32)) (t_prongsOf : (Nat → Int32)) (t_oneOf : (Nat → Int32)) (t_otherOf : (Nat → Int32)) (t_wardsOf : (Nat → Int32)) : va_W := [(O_t, ob_X12 a_t t_toldDoors t_barredDoors t_taped t_place0 t_length0 t_fault t_number0 t_open t_codeMany t_waiting t_saidMany t_clauses t_newMany t_rounds t_pinFrom t_pinTimes t_lines t_wasTold t_wasBarred t_goesNow t_jamsNow t_queued t_isKept), (a_t 0, .inl (E.2.1, 166, .inl t_now)), (a_t 3, .inl (E.2.1, 6, .inl t_prongsOf)), (a_t 4, .inl (E.2.1, 24, .inl t_oneOf)), (a_t 5, .inl (E.2.1, 24, .inl t_otherOf)), (a_t 6, .inl (E.2.1, 24, .inl t_wardsOf))]
def f_X12_doorIs (t_toldDoors : Int32) (t_barredDoors : Int32) (t_now : (Nat → Int32)) (t_prongsOf : (Nat → Int32)) (t_oneOf : (Nat → Int32)) (t_otherOf : (Nat → Int32)) (t_wardsOf : (Nat → Int32)) (x1 : Int32) (x2 : Int32) : Option (Int32) := (f_X12_isDoor t_toldDoors x1).bind fun u1 => if u1 = 0 then (some (-1 : Int32)) else if x2 = (0 : Int32) then (rd t_oneOf 24 x1 fun v3 => some v3) else if x2 = (1 : Int32) then (rd t_otherOf 24 x1 fun v5 => some v5) else if x2 = (2 : Int32) then (rd t_wardsOf 24 x1 fun v7 => some v7) else if x2 = (3 : Int32) then (some ((t_barredDoors >>> (x1 &&& 31)) &&& (1 : Int32))) else if x2 = (4 : Int32) then (rd t_now 166 ((0 : Int32) + x1) fun v10 => some v10) else if x2 = (5 : Int32) then ((f_X12_fitting t_prongsOf t_wardsOf x1).bind fun u12 => some u12) else some (-1 : Int32)
theorem dX12_doorIs_0 : decode cX12_doorIs 0 = .ok (.aload_n 0, 1) := by decide +kernel
theorem dX12_doorIs_1 : decode cX12_doorIs 1 = .ok (.iload_n 1, 1) := by decide +kernel
theorem dX12_doorIs_2 : decode cX12_doorIs 2 = .ok (.invokevirtual 129, 3) := by decide +kernel
theorem dX12_doorIs_5 : decode cX12_doorIs 5 = .ok (.ifCond .ne 5, 3) := by decide +kernel
theorem dX12_doorIs_8 : decode cX12_doorIs 8 = .ok (.iconst (-1), 1) := by decide +kernel
theorem dX12_doorIs_9 : decode cX12_doorIs 9 = .ok (.ireturn, 1) := by decide +kernel
theorem dX12_doorIs_10 : decode cX12_doorIs 10 = .ok (.iload_n 2, 1) := by decide +kernel
theorem dX12_doorIs_11 : decode cX12_doorIs 11 = .ok (.tableswitch 82 0 5 #[37, 44, 51, 58, 67, 76], 37) := by decide +kernel
theorem dX12_doorIs_48 : decode cX12_doorIs 48 = .ok (.aload_n 0, 1) := by decide +kernel
theorem dX12_doorIs_49 : decode cX12_doorIs 49 = .ok (.getfield 22, 3) := by decide +kernel
theorem dX12_doorIs_52 : decode cX12_doorIs 52 = .ok (.iload_n 1, 1) := by decide +kernel
theorem dX12_doorIs_53 : decode cX12_doorIs 53 = .ok (.iaload, 1) := by decide +kernel
theorem dX12_doorIs_54 : decode cX12_doorIs 54 = .ok (.ireturn, 1) := by decide +kernel
theorem dX12_doorIs_55 : decode cX12_doorIs 55 = .ok (.aload_n 0, 1) := by decide +kernel
theorem dX12_doorIs_56 : decode cX12_doorIs 56 = .ok (.getfield 25, 3) := by decide +kernel
theorem dX12_doorIs_59 : decode cX12_doorIs 59 = .ok (.iload_n 1, 1) := by decide +kernel
theorem dX12_doorIs_60 : decode cX12_doorIs 60 = .ok (.iaload, 1) := by decide +kernel
theorem dX12_doorIs_61 : decode cX12_doorIs 61 = .ok (.ireturn, 1) := by decide +kernel
theorem dX12_doorIs_62 : decode cX12_doorIs 62 = .ok (.aload_n 0, 1) := by decide +kernel
theorem dX12_doorIs_63 : decode cX12_doorIs 63 = .ok (.getfield 28, 3) := by decide +kernel
theorem dX12_doorIs_66 : decode cX12_doorIs 66 = .ok (.iload_n 1, 1) := by decide +kernel
theorem dX12_doorIs_67 : decode cX12_doorIs 67 = .ok (.iaload, 1) := by decide +kernel
theorem dX12_doorIs_68 : decode cX12_doorIs 68 = .ok (.ireturn, 1) := by decide +kernel
theorem dX12_doorIs_69 : decode cX12_doorIs 69 = .ok (.aload_n 0, 1) := by decide +kernel
theorem dX12_doorIs_70 : decode cX12_doorIs 70 = .ok (.getfield 133, 3) := by decide +kernel
theorem dX12_doorIs_73 : decode cX12_doorIs 73 = .ok (.iload_n 1, 1) := by decide +kernel
theorem dX12_doorIs_74 : decode cX12_doorIs 74 = .ok (.ishr, 1) := by decide +kernel
theorem dX12_doorIs_75 : decode cX12_doorIs 75 = .ok (.iconst 1, 1) := by decide +kernel
theorem dX12_doorIs_76 : decode cX12_doorIs 76 = .ok (.iand, 1) := by decide +kernel
theorem dX12_doorIs_77 : decode cX12_doorIs 77 = .ok (.ireturn, 1) := by decide +kernel
theorem dX12_doorIs_78 : decode cX12_doorIs 78 = .ok (.aload_n 0, 1) := by decide +kernel
theorem dX12_doorIs_79 : decode cX12_doorIs 79 = .ok (.getfield 7, 3) := by decide +kernel
theorem dX12_doorIs_82 : decode cX12_doorIs 82 = .ok (.iconst 0, 1) := by decide +kernel
theorem dX12_doorIs_83 : decode cX12_doorIs 83 = .ok (.iload_n 1, 1) := by decide +kernel
theorem dX12_doorIs_84 : decode cX12_doorIs 84 = .ok (.iadd, 1) := by decide +kernel
theorem dX12_doorIs_85 : decode cX12_doorIs 85 = .ok (.iaload, 1) := by decide +kernel
theorem dX12_doorIs_86 : decode cX12_doorIs 86 = .ok (.ireturn, 1) := by decide +kernel
theorem dX12_doorIs_87 : decode cX12_doorIs 87 = .ok (.aload_n 0, 1) := by decide +kernel
theorem dX12_doorIs_88 : decode cX12_doorIs 88 = .ok (.iload_n 1, 1) := by decide +kernel
theorem dX12_doorIs_89 : decode cX12_doorIs 89 = .ok (.invokevirtual 360, 3) := by decide +kernel
theorem dX12_doorIs_92 : decode cX12_doorIs 92 = .ok (.ireturn, 1) := by decide +kernel
theorem dX12_doorIs_93 : decode cX12_doorIs 93 = .ok (.iconst (-1), 1) := by decide +kernel
theorem dX12_doorIs_94 : decode cX12_doorIs 94 = .ok (.ireturn, 1) := by decide +kernel
set_option maxHeartbeats 4000000 in
set_option maxRecDepth 100000 in
theorem c_X12_doorIs (l : Launch) (E : GE) (o_t : Nat) (a_t : Nat → Nat) (t_toldDoors : Int32) (t_barredDoors : Int32) (t_taped : Int32) (t_place0 : Int32) (t_length0 : Int32) (t_fault : Int32) (t_number0 : Int32) (t_open : Int32) (t_codeMany : Int32) (t_waiting : Int32) (t_saidMany : Int32) (t_clauses : Int32) (t_newMany : Int32) (t_rounds : Int32) (t_pinFrom : Int32) (t_pinTimes : Int32) (t_lines : Int32) (t_wasTold : Int32) (t_wasBarred : Int32) (t_goesNow : Int32) (t_jamsNow : Int32) (t_queued : Int32) (t_isKept : Int32) (t_now : (Nat → Int32)) (t_prongsOf : (Nat → Int32)) (t_oneOf : (Nat → Int32)) (t_otherOf : (Nat → Int32)) (t_wardsOf : (Nat → Int32)) (x1 : Int32) (x2 : Int32) (r : Int32) (h : f_X12_doorIs t_toldDoors t_barredDoors t_now t_prongsOf t_oneOf t_otherOf t_wardsOf x1 x2 = some r) : Cn l E yX12_doorIs cX12_doorIs 3 (some .int) 3 0 0 [.ref o_t, .int x1, .int x2] (W_X12_doorIs E o_t a_t t_toldDoors t_barredDoors t_taped t_place0 t_length0 t_fault t_number0 t_open t_codeMany t_waiting t_saidMany t_clauses t_newMany t_rounds t_pinFrom t_pinTimes t_lines t_wasTold t_wasBarred t_goesNow t_jamsNow t_queued t_isKept t_now t_prongsOf t_oneOf t_otherOf t_wardsOf) (fun w => w = (W_X12_doorIs E o_t a_t t_toldDoors t_barredDoors t_taped t_place0 t_length0 t_fault t_number0 t_open t_codeMany t_waiting t_saidMany t_clauses t_newMany t_rounds t_pinFrom t_pinTimes t_lines t_wasTold t_wasBarred t_goesNow t_jamsNow t_queued t_isKept t_now t_prongsOf t_oneOf t_otherOf t_wardsOf)) (some (.int r)) := by
  refine Cn.ofI (by decide +kernel) (Nat.le_of_ble_eq_true rfl) (fun X hX hR C hret => ?_)
  subst hX
  show Gx X E 0 0 (W_X12_doorIs E o_t a_t t_toldDoors t_barredDoors t_taped t_place0 t_length0 t_fault t_number0 t_open t_codeMany t_waiting t_saidMany t_clauses t_newMany t_rounds t_pinFrom t_pinTimes t_lines t_wasTold t_wasBarred t_goesNow t_jamsNow t_queued t_isKept t_now t_prongsOf t_oneOf t_otherOf t_wardsOf) 0 [(0, .ref o_t), (1, .int x1), (2, .int x2)] []
  unfold f_X12_doorIs at h
  refine g_aload_n (pc := 0) C dX12_doorIs_0 rfl 0 rfl ?_
  refine g_iload_n (pc := 1) C dX12_doorIs_1 rfl 1 rfl ?_
  obtain ⟨u1, hu1, h⟩ := bs h
  refine g_callV (pc := 2) (st := []) (st1 := [.int u1]) (ws' := (W_X12_doorIs E o_t a_t t_toldDoors t_barredDoors t_taped t_place0 t_length0 t_fault t_number0 t_open t_codeMany t_waiting t_saidMany t_clauses t_newMany t_rounds t_pinFrom t_pinTimes t_lines t_wasTold t_wasBarred t_goesNow t_jamsNow t_queued t_isKept t_now t_prongsOf t_oneOf t_otherOf t_wardsOf)) C mv_X12_isDoor mi_X12_isDoor ml_X12_129 (c_X12_isDoor X.2.1 E o_t a_t t_toldDoors t_barredDoors t_taped t_place0 t_length0 t_fault t_number0 t_open t_codeMany t_waiting t_saidMany t_clauses t_newMany t_rounds t_pinFrom t_pinTimes t_lines t_wasTold t_wasBarred t_goesNow t_jamsNow t_queued t_isKept x1 u1 hu1) dX12_doorIs_2 (by decide) rfl (Nat.le_of_ble_eq_true rfl) 0 11 rfl rfl [0] rfl (by decide) rfl rfl rfl rfl ?_
  refine g_if_ne (pc := 5) (tgt := 10) C dX12_doorIs_5 (by decide) h (fun h => ?_) (fun h => ?_)
  · refine g_iload_n (pc := 10) C dX12_doorIs_10 rfl 2 rfl ?_
    rcases ite_cs h with ⟨c2, h⟩ | ⟨c2, h⟩
    · refine g_tabHit (pc := 11) (tgt := 48) C 0 c2 dX12_doorIs_11 (by decide) (by decide) rfl (by decide) ?_
      refine g_aload_n (pc := 48) C dX12_doorIs_48 rfl 0 rfl ?_
      refine g_get (pc := 49) C fl_X12_22 dX12_doorIs_49 0 rfl rfl ?_
      refine g_iload_n (pc := 52) C dX12_doorIs_52 rfl 1 rfl ?_
      refine g_iald (pc := 53) C dX12_doorIs_53 3 rfl h (fun v3 h => ?_)
      cases h
      exact hret _ _ _ dX12_doorIs_54 rfl rfl
    rcases ite_cs h with ⟨c4, h⟩ | ⟨c4, h⟩
    · refine g_tabHit (pc := 11) (tgt := 55) C 1 c4 dX12_doorIs_11 (by decide) (by decide) rfl (by decide) ?_
      refine g_aload_n (pc := 55) C dX12_doorIs_55 rfl 0 rfl ?_
      refine g_get (pc := 56) C fl_X12_25 dX12_doorIs_56 0 rfl rfl ?_
      refine g_iload_n (pc := 59) C dX12_doorIs_59 rfl 1 rfl ?_
      refine g_iald (pc := 60) C dX12_doorIs_60 4 rfl h (fun v5 h => ?_)
      cases h
      exact hret _ _ _ dX12_doorIs_61 rfl rfl
    rcases ite_cs h with ⟨c6, h⟩ | ⟨c6, h⟩
    · refine g_tabHit (pc := 11) (tgt := 62) C 2 c6 dX12_doorIs_11 (by decide) (by decide) rfl (by decide) ?_
      refine g_aload_n (pc := 62) C dX12_doorIs_62 rfl 0 rfl ?_
      refine g_get (pc := 63) C fl_X12_28 dX12_doorIs_63 0 rfl rfl ?_
      refine g_iload_n (pc := 66) C dX12_doorIs_66 rfl 1 rfl ?_
      refine g_iald (pc := 67) C dX12_doorIs_67 5 rfl h (fun v7 h => ?_)
      cases h
      exact hret _ _ _ dX12_doorIs_68 rfl rfl
    rcases ite_cs h with ⟨c8, h⟩ | ⟨c8, h⟩
    · refine g_tabHit (pc := 11) (tgt := 69) C 3 c8 dX12_doorIs_11 (by decide) (by decide) rfl (by decide) ?_
      refine g_aload_n (pc := 69) C dX12_doorIs_69 rfl 0 rfl ?_
      refine g_get (pc := 70) C fl_X12_133 dX12_doorIs_70 0 rfl rfl ?_
      refine g_iload_n (pc := 73) C dX12_doorIs_73 rfl 1 rfl ?_
      refine g_ishr (pc := 74) C dX12_doorIs_74 ?_
      refine g_iconst (pc := 75) (v := 1) C dX12_doorIs_75 (by decide) ?_
      refine g_iand (pc := 76) C dX12_doorIs_76 ?_
      cases h
      exact hret _ _ _ dX12_doorIs_77 rfl rfl
    rcases ite_cs h with ⟨c9, h⟩ | ⟨c9, h⟩
    · refine g_tabHit (pc := 11) (tgt := 78) C 4 c9 dX12_doorIs_11 (by decide) (by decide) rfl (by decide) ?_
      refine g_aload_n (pc := 78) C dX12_doorIs_78 rfl 0 rfl ?_
      refine g_get (pc := 79) C fl_X12_7 dX12_doorIs_79 0 rfl rfl ?_
      refine g_iconst (pc := 82) (v := 0) C dX12_doorIs_82 (by decide) ?_
      refine g_iload_n (pc := 83) C dX12_doorIs_83 rfl 1 rfl ?_
      refine g_iadd (pc := 84) C dX12_doorIs_84 ?_
      refine g_iald (pc := 85) C dX12_doorIs_85 1 rfl h (fun v10 h => ?_)
      cases h
      exact hret _ _ _ dX12_doorIs_86 rfl rfl
    rcases ite_cs h with ⟨c11, h⟩ | ⟨c11, h⟩
    · refine g_tabHit (pc := 11) (tgt := 87) C 5 c11 dX12_doorIs_11 (by decide) (by decide) rfl (by decide) ?_
      refine g_aload_n (pc := 87) C dX12_doorIs_87 rfl 0 rfl ?_
      refine g_iload_n (pc := 88) C dX12_doorIs_88 rfl 1 rfl ?_
      obtain ⟨u12, hu12, h⟩ := bs h
      refine g_callV (pc := 89) (st := []) (st1 := [.int u12]) (ws' := (W_X12_doorIs E o_t a_t t_toldDoors t_barredDoors t_taped t_place0 t_length0 t_fault t_number0 t_open t_codeMany t_waiting t_saidMany t_clauses t_newMany t_rounds t_pinFrom t_pinTimes t_lines t_wasTold t_wasBarred t_goesNow t_jamsNow t_queued t_isKept t_now t_prongsOf t_oneOf t_otherOf t_wardsOf)) C mv_X12_fitting mi_X12_fitting ml_X12_360 (c_X12_fitting X.2.1 E o_t a_t t_toldDoors t_barredDoors t_taped t_place0 t_length0 t_fault t_number0 t_open t_codeMany t_waiting t_saidMany t_clauses t_newMany t_rounds t_pinFrom t_pinTimes t_lines t_wasTold t_wasBarred t_goesNow t_jamsNow t_queued t_isKept t_prongsOf t_wardsOf x1 u12 hu12) dX12_doorIs_89 (by decide) rfl (Nat.le_of_ble_eq_true rfl) 0 11 rfl rfl [0, 2, 5] rfl (by decide) rfl rfl rfl rfl ?_
      cases h
      exact hret _ _ _ dX12_doorIs_92 rfl rfl
    have nc2 := lv_neT c2 (a := 0) rfl
    have nc4 := lv_neT c4 (a := 1) rfl
    have nc6 := lv_neT c6 (a := 2) rfl
    have nc8 := lv_neT c8 (a := 3) rfl
    have nc9 := lv_neT c9 (a := 4) rfl
    have nc11 := lv_neT c11 (a := 5) rfl
    refine g_tabMiss (pc := 11) (tgt := 93) C dX12_doorIs_11 (by omega) (by decide) ?_
    refine g_iconst (pc := 93) (v := -1) C dX12_doorIs_93 (by decide) ?_
    cases h
    exact hret _ _ _ dX12_doorIs_94 rfl rfl
  · refine g_iconst (pc := 8) (v := -1) C dX12_doorIs_8 (by decide) ?_
    cases h
    exact hret _ _ _ dX12_doorIs_9 rfl rfl
abbrev W_X12_holdsAny (E : GE) (O_t : Nat) (a_t : Nat → Nat) (t_toldDoors : Int32) (t_barredDoors : Int32) (t_taped : Int32) (t_place0 : Int32) (t_length0 : Int32) (t_fault : Int32) (t_number0 : Int32) (t_open : Int32) (t_codeMany : Int32) (t_waiting : Int32) (t_saidMany : Int32) (t_clauses : Int32) (t_newMany : Int32) (t_rounds : Int32) (t_pinFrom : Int32) (t_pinTimes : Int32) (t_lines : Int32) (t_wasTold : Int32) (t_wasBarred : Int32) (t_goesNow : Int32) (t_jamsNow : Int32) (t_queued : Int32) (t_isKept : Int32) (t_codes : (Nat → Int32)) (t_clauseOf : (Nat → Int32)) (t_codeHalf : (Nat → Int32)) (t_codeTo : (Nat → Int32)) (t_stack : (Nat → Int32)) (t_facts : (Nat → Int32)) : va_W := [(O_t, ob_X12 a_t t_toldDoors t_barredDoors t_taped t_place0 t_length0 t_fault t_number0 t_open t_codeMany t_waiting t_saidMany t_clauses t_newMany t_rounds t_pinFrom t_pinTimes t_lines t_wasTold t_wasBarred t_goesNow t_jamsNow t_queued t_isKept), (a_t 30, .inl (E.2.1, 260, .inl t_codes)), (a_t 31, .inl (E.2.1, 16, .inl t_clauseOf)), (a_t 33, .inl (E.2.1, 16, .inl t_codeHalf)), (a_t 34, .inl (E.2.1, 16, .inl t_codeTo)), (a_t 35, .inl (E.2.1, 260, .inl t_stack)), (a_t 36, .inl (E.2.1, 10, .inl t_facts))]
def L_X12_holdsAny_2 (t_clauses : Int32) (t_codes : (Nat → Int32)) (t_clauseOf : (Nat → Int32)) (t_codeHalf : (Nat → Int32)) (t_codeTo : (Nat → Int32)) (t_facts : (Nat → Int32)) (x1 : Int32) : Nat → Int32 × (Nat → Int32) → Option (Int32 × (Nat → Int32)) := lp fun go s => if t_clauses ≤ s.1 then (some ((0 : Int32), s.2)) else rd t_clauseOf 16 s.1 fun v1 => if v1 = x1 then (rd t_codeHalf 16 s.1 fun v3 => rd t_codeTo 16 s.1 fun v4 => (f_X12_reckonsTo t_codes s.2 t_facts v3 v4).bind fun u5 => if u5.1 = (1 : Int32) then (some ((1 : Int32), u5.2)) else nm (s.1 + (1 : Int32)) fun v6 => go (v6, u5.2)) else nm (s.1 + (1 : Int32)) fun v2 => go (v2, s.2)
def f_X12_holdsAny (t_clauses : Int32) (t_codes : (Nat → Int32)) (t_clauseOf : (Nat → Int32)) (t_codeHalf : (Nat → Int32)) (t_codeTo : (Nat → Int32)) (t_stack : (Nat → Int32)) (t_facts : (Nat → Int32)) (x1 : Int32) : Option (Int32 × (Nat → Int32)) := L_X12_holdsAny_2 t_clauses t_codes t_clauseOf t_codeHalf t_codeTo t_facts x1 fu ((0 : Int32), t_stack)
theorem dX12_holdsAny_0 : decode cX12_holdsAny 0 = .ok (.iconst 0, 1) := by decide +kernel
theorem dX12_holdsAny_1 : decode cX12_holdsAny 1 = .ok (.istore_n 2, 1) := by decide +kernel
theorem dX12_holdsAny_2 : decode cX12_holdsAny 2 = .ok (.iload_n 2, 1) := by decide +kernel
theorem dX12_holdsAny_3 : decode cX12_holdsAny 3 = .ok (.aload_n 0, 1) := by decide +kernel
theorem dX12_holdsAny_4 : decode cX12_holdsAny 4 = .ok (.getfield 239, 3) := by decide +kernel
theorem dX12_holdsAny_7 : decode cX12_holdsAny 7 = .ok (.if_icmp .ge 41, 3) := by decide +kernel
theorem dX12_holdsAny_10 : decode cX12_holdsAny 10 = .ok (.aload_n 0, 1) := by decide +kernel
theorem dX12_holdsAny_11 : decode cX12_holdsAny 11 = .ok (.getfield 68, 3) := by decide +kernel
theorem dX12_holdsAny_14 : decode cX12_holdsAny 14 = .ok (.iload_n 2, 1) := by decide +kernel
theorem dX12_holdsAny_15 : decode cX12_holdsAny 15 = .ok (.iaload, 1) := by decide +kernel
theorem dX12_holdsAny_16 : decode cX12_holdsAny 16 = .ok (.iload_n 1, 1) := by decide +kernel
theorem dX12_holdsAny_17 : decode cX12_holdsAny 17 = .ok (.if_icmp .ne 25, 3) := by decide +kernel
theorem dX12_holdsAny_20 : decode cX12_holdsAny 20 = .ok (.aload_n 0, 1) := by decide +kernel
theorem dX12_holdsAny_21 : decode cX12_holdsAny 21 = .ok (.aload_n 0, 1) := by decide +kernel
theorem dX12_holdsAny_22 : decode cX12_holdsAny 22 = .ok (.getfield 74, 3) := by decide +kernel
theorem dX12_holdsAny_25 : decode cX12_holdsAny 25 = .ok (.iload_n 2, 1) := by decide +kernel
theorem dX12_holdsAny_26 : decode cX12_holdsAny 26 = .ok (.iaload, 1) := by decide +kernel
theorem dX12_holdsAny_27 : decode cX12_holdsAny 27 = .ok (.aload_n 0, 1) := by decide +kernel
theorem dX12_holdsAny_28 : decode cX12_holdsAny 28 = .ok (.getfield 77, 3) := by decide +kernel
theorem dX12_holdsAny_31 : decode cX12_holdsAny 31 = .ok (.iload_n 2, 1) := by decide +kernel
theorem dX12_holdsAny_32 : decode cX12_holdsAny 32 = .ok (.iaload, 1) := by decide +kernel
theorem dX12_holdsAny_33 : decode cX12_holdsAny 33 = .ok (.invokevirtual 246, 3) := by decide +kernel
theorem dX12_holdsAny_36 : decode cX12_holdsAny 36 = .ok (.iconst 1, 1) := by decide +kernel
theorem dX12_holdsAny_37 : decode cX12_holdsAny 37 = .ok (.if_icmp .ne 5, 3) := by decide +kernel
theorem dX12_holdsAny_40 : decode cX12_holdsAny 40 = .ok (.iconst 1, 1) := by decide +kernel
theorem dX12_holdsAny_41 : decode cX12_holdsAny 41 = .ok (.ireturn, 1) := by decide +kernel
theorem dX12_holdsAny_42 : decode cX12_holdsAny 42 = .ok (.iinc 2 1, 3) := by decide +kernel
theorem dX12_holdsAny_45 : decode cX12_holdsAny 45 = .ok (.goto (-43), 3) := by decide +kernel
theorem dX12_holdsAny_48 : decode cX12_holdsAny 48 = .ok (.iconst 0, 1) := by decide +kernel
theorem dX12_holdsAny_49 : decode cX12_holdsAny 49 = .ok (.ireturn, 1) := by decide +kernel
set_option maxHeartbeats 4000000 in
set_option maxRecDepth 100000 in
theorem kL_X12_holdsAny_2 {X : GC} {E : GE} (C : Cx X E cX12_holdsAny RX12 3 3) (o_t : Nat) (a_t : Nat → Nat) (t_toldDoors : Int32) (t_barredDoors : Int32) (t_taped : Int32) (t_place0 : Int32) (t_length0 : Int32) (t_fault : Int32) (t_number0 : Int32) (t_open : Int32) (t_codeMany : Int32) (t_waiting : Int32) (t_saidMany : Int32) (t_newMany : Int32) (t_rounds : Int32) (t_pinFrom : Int32) (t_pinTimes : Int32) (t_lines : Int32) (t_wasTold : Int32) (t_wasBarred : Int32) (t_goesNow : Int32) (t_jamsNow : Int32) (t_queued : Int32) (t_isKept : Int32) (t_clauses : Int32) (t_codes : (Nat → Int32)) (t_clauseOf : (Nat → Int32)) (t_codeHalf : (Nat → Int32)) (t_codeTo : (Nat → Int32)) (t_facts : (Nat → Int32)) (x1 : Int32) {r : Int32 × (Nat → Int32)} (hret : RtI X E cX12_holdsAny .boolean 0 0 (fun w => w = (W_X12_holdsAny E o_t a_t t_toldDoors t_barredDoors t_taped t_place0 t_length0 t_fault t_number0 t_open t_codeMany t_waiting t_saidMany t_clauses t_newMany t_rounds t_pinFrom t_pinTimes t_lines t_wasTold t_wasBarred t_goesNow t_jamsNow t_queued t_isKept t_codes t_clauseOf t_codeHalf t_codeTo r.2 t_facts)) r.1) : ∀ (n : Nat) (s : Int32 × (Nat → Int32)), L_X12_holdsAny_2 t_clauses t_codes t_clauseOf t_codeHalf t_codeTo t_facts x1 n s = some r → Gx X E 0 0 (W_X12_holdsAny E o_t a_t t_toldDoors t_barredDoors t_taped t_place0 t_length0 t_fault t_number0 t_open t_codeMany t_waiting t_saidMany t_clauses t_newMany t_rounds t_pinFrom t_pinTimes t_lines t_wasTold t_wasBarred t_goesNow t_jamsNow t_queued t_isKept t_codes t_clauseOf t_codeHalf t_codeTo s.2 t_facts) 2 [(0, .ref o_t), (1, .int x1), (2, .int s.1)] [] := by
  unfold L_X12_holdsAny_2
  refine lp_ind _ (fun go ih s h => ?_)
  refine g_iload_n (pc := 2) C dX12_holdsAny_2 rfl 2 rfl ?_
  refine g_aload_n (pc := 3) C dX12_holdsAny_3 rfl 0 rfl ?_
  refine g_get (pc := 4) C fl_X12_239 dX12_holdsAny_4 0 rfl rfl ?_
  refine g_icmp_ge (pc := 7) (tgt := 48) C dX12_holdsAny_7 (by decide) h (fun h => ?_) (fun h => ?_)
  · refine g_iconst (pc := 48) (v := 0) C dX12_holdsAny_48 (by decide) ?_
    cases h
    exact hret _ _ _ dX12_holdsAny_49 nb0 rfl
  · refine g_aload_n (pc := 10) C dX12_holdsAny_10 rfl 0 rfl ?_
    refine g_get (pc := 11) C fl_X12_68 dX12_holdsAny_11 0 rfl rfl ?_
    refine g_iload_n (pc := 14) C dX12_holdsAny_14 rfl 2 rfl ?_
    refine g_iald (pc := 15) C dX12_holdsAny_15 2 rfl h (fun v1 h => ?_)
    refine g_iload_n (pc := 16) C dX12_holdsAny_16 rfl 1 rfl ?_
    refine g_icmp_ne (pc := 17) (tgt := 42) C dX12_holdsAny_17 (by decide) h (fun h => ?_) (fun h => ?_)
    · refine g_iincn (pc := 42) (j := 2) (d := 1) (lv' := fun v2 => [(2, .int v2), (0, .ref o_t), (1, .int x1)]) C dX12_holdsAny_42 rfl (by decide) (by decide) (fun _ => rfl) h (fun v2 h => ?_)
      refine g_goto (pc := 45) (tgt := 2) C dX12_holdsAny_45 (by decide) ?_
      refine g_sub [1, 2, 0] rfl ?_
      exact ih _ h
    · refine g_aload_n (pc := 20) C dX12_holdsAny_20 rfl 0 rfl ?_
      refine g_aload_n (pc := 21) C dX12_holdsAny_21 rfl 0 rfl ?_
      refine g_get (pc := 22) C fl_X12_74 dX12_holdsAny_22 0 rfl rfl ?_
      refine g_iload_n (pc := 25) C dX12_holdsAny_25 rfl 2 rfl ?_
      refine g_iald (pc := 26) C dX12_holdsAny_26 3 rfl h (fun v3 h => ?_)
      refine g_aload_n (pc := 27) C dX12_holdsAny_27 rfl 0 rfl ?_
      refine g_get (pc := 28) C fl_X12_77 dX12_holdsAny_28 0 rfl rfl ?_
      refine g_iload_n (pc := 31) C dX12_holdsAny_31 rfl 2 rfl ?_
      refine g_iald (pc := 32) C dX12_holdsAny_32 4 rfl h (fun v4 h => ?_)
      obtain ⟨u5, hu5, h⟩ := bs h
      refine g_callV (pc := 33) (st := []) (st1 := [.int u5.1]) (ws' := (W_X12_holdsAny E o_t a_t t_toldDoors t_barredDoors t_taped t_place0 t_length0 t_fault t_number0 t_open t_codeMany t_waiting t_saidMany t_clauses t_newMany t_rounds t_pinFrom t_pinTimes t_lines t_wasTold t_wasBarred t_goesNow t_jamsNow t_queued t_isKept t_codes t_clauseOf t_codeHalf t_codeTo u5.2 t_facts)) C mv_X12_reckonsTo mi_X12_reckonsTo ml_X12_246 (c_X12_reckonsTo X.2.1 E o_t a_t t_toldDoors t_barredDoors t_taped t_place0 t_length0 t_fault t_number0 t_open t_codeMany t_waiting t_saidMany t_clauses t_newMany t_rounds t_pinFrom t_pinTimes t_lines t_wasTold t_wasBarred t_goesNow t_jamsNow t_queued t_isKept t_codes s.2 t_facts v3 v4 u5 hu5) dX12_holdsAny_33 (by decide) rfl (Nat.le_of_ble_eq_true rfl) 0 11 rfl rfl [0, 1, 5, 6] rfl (by decide) rfl rfl rfl rfl ?_
      refine g_iconst (pc := 36) (v := 1) C dX12_holdsAny_36 (by decide) ?_
      refine g_icmp_ne (pc := 37) (tgt := 42) C dX12_holdsAny_37 (by decide) h (fun h => ?_) (fun h => ?_)
      · refine g_iincn (pc := 42) (j := 2) (d := 1) (lv' := fun v6 => [(2, .int v6), (0, .ref o_t), (1, .int x1)]) C dX12_holdsAny_42 rfl (by decide) (by decide) (fun _ => rfl) h (fun v6 h => ?_)
        refine g_goto (pc := 45) (tgt := 2) C dX12_holdsAny_45 (by decide) ?_
        refine g_sub [1, 2, 0] rfl ?_
        exact ih _ h
      · refine g_iconst (pc := 40) (v := 1) C dX12_holdsAny_40 (by decide) ?_
        cases h
        exact hret _ _ _ dX12_holdsAny_41 nb1 rfl
set_option maxHeartbeats 4000000 in
set_option maxRecDepth 100000 in
theorem c_X12_holdsAny (l : Launch) (E : GE) (o_t : Nat) (a_t : Nat → Nat) (t_toldDoors : Int32) (t_barredDoors : Int32) (t_taped : Int32) (t_place0 : Int32) (t_length0 : Int32) (t_fault : Int32) (t_number0 : Int32) (t_open : Int32) (t_codeMany : Int32) (t_waiting : Int32) (t_saidMany : Int32) (t_clauses : Int32) (t_newMany : Int32) (t_rounds : Int32) (t_pinFrom : Int32) (t_pinTimes : Int32) (t_lines : Int32) (t_wasTold : Int32) (t_wasBarred : Int32) (t_goesNow : Int32) (t_jamsNow : Int32) (t_queued : Int32) (t_isKept : Int32) (t_codes : (Nat → Int32)) (t_clauseOf : (Nat → Int32)) (t_codeHalf : (Nat → Int32)) (t_codeTo : (Nat → Int32)) (t_stack : (Nat → Int32)) (t_facts : (Nat → Int32)) (x1 : Int32) (r : Int32 × (Nat → Int32)) (h : f_X12_holdsAny t_clauses t_codes t_clauseOf t_codeHalf t_codeTo t_stack t_facts x1 = some r) : Cn l E yX12_holdsAny cX12_holdsAny 3 (some .boolean) 3 0 0 [.ref o_t, .int x1] (W_X12_holdsAny E o_t a_t t_toldDoors t_barredDoors t_taped t_place0 t_length0 t_fault t_number0 t_open t_codeMany t_waiting t_saidMany t_clauses t_newMany t_rounds t_pinFrom t_pinTimes t_lines t_wasTold t_wasBarred t_goesNow t_jamsNow t_queued t_isKept t_codes t_clauseOf t_codeHalf t_codeTo t_stack t_facts) (fun w => w = (W_X12_holdsAny E o_t a_t t_toldDoors t_barredDoors t_taped t_place0 t_length0 t_fault t_number0 t_open t_codeMany t_waiting t_saidMany t_clauses t_newMany t_rounds t_pinFrom t_pinTimes t_lines t_wasTold t_wasBarred t_goesNow t_jamsNow t_queued t_isKept t_codes t_clauseOf t_codeHalf t_codeTo r.2 t_facts)) (some (.int r.1)) := by
  refine Cn.ofI (by decide +kernel) (Nat.le_of_ble_eq_true rfl) (fun X hX hR C hret => ?_)
  subst hX
  show Gx X E 0 0 (W_X12_holdsAny E o_t a_t t_toldDoors t_barredDoors t_taped t_place0 t_length0 t_fault t_number0 t_open t_codeMany t_waiting t_saidMany t_clauses t_newMany t_rounds t_pinFrom t_pinTimes t_lines t_wasTold t_wasBarred t_goesNow t_jamsNow t_queued t_isKept t_codes t_clauseOf t_codeHalf t_codeTo t_stack t_facts) 0 [(0, .ref o_t), (1, .int x1)] []
  unfold f_X12_holdsAny at h
  refine g_iconst (pc := 0) (v := 0) C dX12_holdsAny_0 (by decide) ?_
  refine g_istore_n (pc := 1) (lv' := [(2, .int (0 : Int32)), (0, .ref o_t), (1, .int x1)]) C dX12_holdsAny_1 rfl (by decide) rfl ?_
  refine g_sub [1, 2, 0] rfl ?_
  refine kL_X12_holdsAny_2 C o_t a_t t_toldDoors t_barredDoors t_taped t_place0 t_length0 t_fault t_number0 t_open t_codeMany t_waiting t_saidMany t_newMany t_rounds t_pinFrom t_pinTimes t_lines t_wasTold t_wasBarred t_goesNow t_jamsNow t_queued t_isKept t_clauses t_codes t_clauseOf t_codeHalf t_codeTo t_facts x1 hret  _ _ h
abbrev W_X12_night (E : GE) (O_t : Nat) (a_t : Nat → Nat) (t_toldDoors : Int32) (t_barredDoors : Int32) (t_taped : Int32) (t_place0 : Int32) (t_length0 : Int32) (t_fault : Int32) (t_number0 : Int32) (t_open : Int32) (t_codeMany : Int32) (t_waiting : Int32) (t_saidMany : Int32) (t_clauses : Int32) (t_newMany : Int32) (t_rounds : Int32) (t_pinFrom : Int32) (t_pinTimes : Int32) (t_lines : Int32) (t_wasTold : Int32) (t_wasBarred : Int32) (t_goesNow : Int32) (t_jamsNow : Int32) (t_queued : Int32) (t_isKept : Int32) (t_now : (Nat → Int32)) : va_W := [(O_t, ob_X12 a_t t_toldDoors t_barredDoors t_taped t_place0 t_length0 t_fault t_number0 t_open t_codeMany t_waiting t_saidMany t_clauses t_newMany t_rounds t_pinFrom t_pinTimes t_lines t_wasTold t_wasBarred t_goesNow t_jamsNow t_queued t_isKept), (a_t 0, .inl (E.2.1, 166, .inl t_now))]
def L_X12_night_4 : Nat → Int32 × Int32 × (Nat → Int32) → Option (Int32 × (Nat → Int32)) := lp fun go s => if (10 : Int32) ≤ s.2.1 then (some (s.1, s.2.2)) else (f_X12_isWoman s.2.2 s.2.1).bind fun u1 => if u1 = 0 then (nm (s.2.1 + (1 : Int32)) fun v2 => go (s.1, v2, s.2.2)) else (f_X12_putsUp s.2.2 s.2.1).bind fun u3 => nm (s.1 + u3.1) fun v4 => nm (s.2.1 + (1 : Int32)) fun v5 => go (v4, v5, u3.2)
def f_X12_night (t_now : (Nat → Int32)) : Option (Int32 × (Nat → Int32)) := L_X12_night_4 fu ((0 : Int32), (0 : Int32), t_now)
theorem dX12_night_0 : decode cX12_night 0 = .ok (.iconst 0, 1) := by decide +kernel
theorem dX12_night_1 : decode cX12_night 1 = .ok (.istore_n 1, 1) := by decide +kernel
theorem dX12_night_2 : decode cX12_night 2 = .ok (.iconst 0, 1) := by decide +kernel
theorem dX12_night_3 : decode cX12_night 3 = .ok (.istore_n 2, 1) := by decide +kernel
theorem dX12_night_4 : decode cX12_night 4 = .ok (.iload_n 2, 1) := by decide +kernel
theorem dX12_night_5 : decode cX12_night 5 = .ok (.bipush 10, 2) := by decide +kernel
theorem dX12_night_7 : decode cX12_night 7 = .ok (.if_icmp .ge 25, 3) := by decide +kernel
theorem dX12_night_10 : decode cX12_night 10 = .ok (.aload_n 0, 1) := by decide +kernel
theorem dX12_night_11 : decode cX12_night 11 = .ok (.iload_n 2, 1) := by decide +kernel
theorem dX12_night_12 : decode cX12_night 12 = .ok (.invokevirtual 268, 3) := by decide +kernel
theorem dX12_night_15 : decode cX12_night 15 = .ok (.ifCond .eq 11, 3) := by decide +kernel
theorem dX12_night_18 : decode cX12_night 18 = .ok (.iload_n 1, 1) := by decide +kernel
theorem dX12_night_19 : decode cX12_night 19 = .ok (.aload_n 0, 1) := by decide +kernel
theorem dX12_night_20 : decode cX12_night 20 = .ok (.iload_n 2, 1) := by decide +kernel
theorem dX12_night_21 : decode cX12_night 21 = .ok (.invokevirtual 274, 3) := by decide +kernel
theorem dX12_night_24 : decode cX12_night 24 = .ok (.iadd, 1) := by decide +kernel
theorem dX12_night_25 : decode cX12_night 25 = .ok (.istore_n 1, 1) := by decide +kernel
theorem dX12_night_26 : decode cX12_night 26 = .ok (.iinc 2 1, 3) := by decide +kernel
theorem dX12_night_29 : decode cX12_night 29 = .ok (.goto (-25), 3) := by decide +kernel
theorem dX12_night_32 : decode cX12_night 32 = .ok (.iload_n 1, 1) := by decide +kernel
theorem dX12_night_33 : decode cX12_night 33 = .ok (.ireturn, 1) := by decide +kernel
set_option maxHeartbeats 4000000 in
set_option maxRecDepth 100000 in
theorem kL_X12_night_4 {X : GC} {E : GE} (C : Cx X E cX12_night RX12 3 3) (o_t : Nat) (a_t : Nat → Nat) (t_toldDoors : Int32) (t_barredDoors : Int32) (t_taped : Int32) (t_place0 : Int32) (t_length0 : Int32) (t_fault : Int32) (t_number0 : Int32) (t_open : Int32) (t_codeMany : Int32) (t_waiting : Int32) (t_saidMany : Int32) (t_clauses : Int32) (t_newMany : Int32) (t_rounds : Int32) (t_pinFrom : Int32) (t_pinTimes : Int32) (t_lines : Int32) (t_wasTold : Int32) (t_wasBarred : Int32) (t_goesNow : Int32) (t_jamsNow : Int32) (t_queued : Int32) (t_isKept : Int32) {r : Int32 × (Nat → Int32)} (hret : RtI X E cX12_night .int 0 0 (fun w => w = (W_X12_night E o_t a_t t_toldDoors t_barredDoors t_taped t_place0 t_length0 t_fault t_number0 t_open t_codeMany t_waiting t_saidMany t_clauses t_newMany t_rounds t_pinFrom t_pinTimes t_lines t_wasTold t_wasBarred t_goesNow t_jamsNow t_queued t_isKept r.2)) r.1) : ∀ (n : Nat) (s : Int32 × Int32 × (Nat → Int32)), L_X12_night_4 n s = some r → Gx X E 0 0 (W_X12_night E o_t a_t t_toldDoors t_barredDoors t_taped t_place0 t_length0 t_fault t_number0 t_open t_codeMany t_waiting t_saidMany t_clauses t_newMany t_rounds t_pinFrom t_pinTimes t_lines t_wasTold t_wasBarred t_goesNow t_jamsNow t_queued t_isKept s.2.2) 4 [(0, .ref o_t), (1, .int s.1), (2, .int s.2.1)] [] := by
  unfold L_X12_night_4
  refine lp_ind _ (fun go ih s h => ?_)
  refine g_iload_n (pc := 4) C dX12_night_4 rfl 2 rfl ?_
  refine g_bipush (pc := 5) (v := 10) C dX12_night_5 (by decide) ?_
  refine g_icmp_ge (pc := 7) (tgt := 32) C dX12_night_7 (by decide) h (fun h => ?_) (fun h => ?_)
  · refine g_iload_n (pc := 32) C dX12_night_32 rfl 1 rfl ?_
    cases h
    exact hret _ _ _ dX12_night_33 rfl rfl
  · refine g_aload_n (pc := 10) C dX12_night_10 rfl 0 rfl ?_
    refine g_iload_n (pc := 11) C dX12_night_11 rfl 2 rfl ?_
    obtain ⟨u1, hu1, h⟩ := bs h
    refine g_callV (pc := 12) (st := []) (st1 := [.int u1]) (ws' := (W_X12_night E o_t a_t t_toldDoors t_barredDoors t_taped t_place0 t_length0 t_fault t_number0 t_open t_codeMany t_waiting t_saidMany t_clauses t_newMany t_rounds t_pinFrom t_pinTimes t_lines t_wasTold t_wasBarred t_goesNow t_jamsNow t_queued t_isKept s.2.2)) C mv_X12_isWoman mi_X12_isWoman ml_X12_268 (c_X12_isWoman X.2.1 E o_t a_t t_toldDoors t_barredDoors t_taped t_place0 t_length0 t_fault t_number0 t_open t_codeMany t_waiting t_saidMany t_clauses t_newMany t_rounds t_pinFrom t_pinTimes t_lines t_wasTold t_wasBarred t_goesNow t_jamsNow t_queued t_isKept s.2.2 s.2.1 u1 hu1) dX12_night_12 (by decide) rfl (Nat.le_of_ble_eq_true rfl) 0 11 rfl rfl [0, 1] rfl (by decide) rfl rfl rfl rfl ?_
    refine g_if_eq (pc := 15) (tgt := 26) C dX12_night_15 (by decide) h (fun h => ?_) (fun h => ?_)
    · refine g_iincn (pc := 26) (j := 2) (d := 1) (lv' := fun v2 => [(2, .int v2), (0, .ref o_t), (1, .int s.1)]) C dX12_night_26 rfl (by decide) (by decide) (fun _ => rfl) h (fun v2 h => ?_)
      refine g_goto (pc := 29) (tgt := 4) C dX12_night_29 (by decide) ?_
      refine g_sub [1, 2, 0] rfl ?_
      exact ih _ h
    · refine g_iload_n (pc := 18) C dX12_night_18 rfl 1 rfl ?_
      refine g_aload_n (pc := 19) C dX12_night_19 rfl 0 rfl ?_
      refine g_iload_n (pc := 20) C dX12_night_20 rfl 2 rfl ?_
      obtain ⟨u3, hu3, h⟩ := bs h
      refine g_callV (pc := 21) (st := [.int s.1]) (st1 := [.int u3.1, .int s.1]) (ws' := (W_X12_night E o_t a_t t_toldDoors t_barredDoors t_taped t_place0 t_length0 t_fault t_number0 t_open t_codeMany t_waiting t_saidMany t_clauses t_newMany t_rounds t_pinFrom t_pinTimes t_lines t_wasTold t_wasBarred t_goesNow t_jamsNow t_queued t_isKept u3.2)) C mv_X12_putsUp mi_X12_putsUp ml_X12_274 (c_X12_putsUp X.2.1 E o_t a_t t_toldDoors t_barredDoors t_taped t_place0 t_length0 t_fault t_number0 t_open t_codeMany t_waiting t_saidMany t_clauses t_newMany t_rounds t_pinFrom t_pinTimes t_lines t_wasTold t_wasBarred t_goesNow t_jamsNow t_queued t_isKept s.2.2 s.2.1 u3 hu3) dX12_night_21 (by decide) rfl (Nat.le_of_ble_eq_true rfl) 0 11 rfl rfl [0, 1] rfl (by decide) rfl rfl rfl rfl ?_
      refine g_iadd (pc := 24) C dX12_night_24 ?_
      refine g_nm h (fun v4 h => ?_)
      refine g_istore_n (pc := 25) (lv' := [(1, .int v4), (0, .ref o_t), (2, .int s.2.1)]) C dX12_night_25 rfl (by decide) rfl ?_
      refine g_iincn (pc := 26) (j := 2) (d := 1) (lv' := fun v5 => [(2, .int v5), (1, .int v4), (0, .ref o_t)]) C dX12_night_26 rfl (by decide) (by decide) (fun _ => rfl) h (fun v5 h => ?_)
      refine g_goto (pc := 29) (tgt := 4) C dX12_night_29 (by decide) ?_
      refine g_sub [2, 1, 0] rfl ?_
      exact ih _ h
set_option maxHeartbeats 4000000 in
set_option maxRecDepth 100000 in
theorem c_X12_night (l : Launch) (E : GE) (o_t : Nat) (a_t : Nat → Nat) (t_toldDoors : Int32) (t_barredDoors : Int32) (t_taped : Int32) (t_place0 : Int32) (t_length0 : Int32) (t_fault : Int32) (t_number0 : Int32) (t_open : Int32) (t_codeMany : Int32) (t_waiting : Int32) (t_saidMany : Int32) (t_clauses : Int32) (t_newMany : Int32) (t_rounds : Int32) (t_pinFrom : Int32) (t_pinTimes : Int32) (t_lines : Int32) (t_wasTold : Int32) (t_wasBarred : Int32) (t_goesNow : Int32) (t_jamsNow : Int32) (t_queued : Int32) (t_isKept : Int32) (t_now : (Nat → Int32)) (r : Int32 × (Nat → Int32)) (h : f_X12_night t_now = some r) : Cn l E yX12_night cX12_night 3 (some .int) 3 0 0 [.ref o_t] (W_X12_night E o_t a_t t_toldDoors t_barredDoors t_taped t_place0 t_length0 t_fault t_number0 t_open t_codeMany t_waiting t_saidMany t_clauses t_newMany t_rounds t_pinFrom t_pinTimes t_lines t_wasTold t_wasBarred t_goesNow t_jamsNow t_queued t_isKept t_now) (fun w => w = (W_X12_night E o_t a_t t_toldDoors t_barredDoors t_taped t_place0 t_length0 t_fault t_number0 t_open t_codeMany t_waiting t_saidMany t_clauses t_newMany t_rounds t_pinFrom t_pinTimes t_lines t_wasTold t_wasBarred t_goesNow t_jamsNow t_queued t_isKept r.2)) (some (.int r.1)) := by
  refine Cn.ofI (by decide +kernel) (Nat.le_of_ble_eq_true rfl) (fun X hX hR C hret => ?_)
  subst hX
  show Gx X E 0 0 (W_X12_night E o_t a_t t_toldDoors t_barredDoors t_taped t_place0 t_length0 t_fault t_number0 t_open t_codeMany t_waiting t_saidMany t_clauses t_newMany t_rounds t_pinFrom t_pinTimes t_lines t_wasTold t_wasBarred t_goesNow t_jamsNow t_queued t_isKept t_now) 0 [(0, .ref o_t)] []
  unfold f_X12_night at h
  refine g_iconst (pc := 0) (v := 0) C dX12_night_0 (by decide) ?_
  refine g_istore_n (pc := 1) (lv' := [(1, .int (0 : Int32)), (0, .ref o_t)]) C dX12_night_1 rfl (by decide) rfl ?_
  refine g_iconst (pc := 2) (v := 0) C dX12_night_2 (by decide) ?_
  refine g_istore_n (pc := 3) (lv' := [(2, .int (0 : Int32)), (1, .int (0 : Int32)), (0, .ref o_t)]) C dX12_night_3 rfl (by decide) rfl ?_
  refine g_sub [2, 1, 0] rfl ?_
  refine kL_X12_night_4 C o_t a_t t_toldDoors t_barredDoors t_taped t_place0 t_length0 t_fault t_number0 t_open t_codeMany t_waiting t_saidMany t_clauses t_newMany t_rounds t_pinFrom t_pinTimes t_lines t_wasTold t_wasBarred t_goesNow t_jamsNow t_queued t_isKept hret  _ _ h
abbrev W_X12_nothingFits (E : GE) (O_t : Nat) (a_t : Nat → Nat) (t_toldDoors : Int32) (t_barredDoors : Int32) (t_taped : Int32) (t_place0 : Int32) (t_length0 : Int32) (t_fault : Int32) (t_number0 : Int32) (t_open : Int32) (t_codeMany : Int32) (t_waiting : Int32) (t_saidMany : Int32) (t_clauses : Int32) (t_newMany : Int32) (t_rounds : Int32) (t_pinFrom : Int32) (t_pinTimes : Int32) (t_lines : Int32) (t_wasTold : Int32) (t_wasBarred : Int32) (t_goesNow : Int32) (t_jamsNow : Int32) (t_queued : Int32) (t_isKept : Int32) (t_prongsOf : (Nat → Int32)) (t_wardsOf : (Nat → Int32)) : va_W := [(O_t, ob_X12 a_t t_toldDoors t_barredDoors t_taped t_place0 t_length0 t_fault t_number0 t_open t_codeMany t_waiting t_saidMany t_clauses t_newMany t_rounds t_pinFrom t_pinTimes t_lines t_wasTold t_wasBarred t_goesNow t_jamsNow t_queued t_isKept), (a_t 3, .inl (E.2.1, 6, .inl t_prongsOf)), (a_t 6, .inl (E.2.1, 24, .inl t_wardsOf))]
def L_X12_nothingFits_4 (t_toldDoors : Int32) (t_prongsOf : (Nat → Int32)) (t_wardsOf : (Nat → Int32)) : Nat → Int32 × Int32 → Option (Int32) := lp fun go s => if (24 : Int32) ≤ s.2 then (some s.1) else (f_X12_isDoor t_toldDoors s.2).bind fun u1 => if u1 = 0 then (nm (s.2 + (1 : Int32)) fun v2 => go (s.1, v2)) else (f_X12_fitting t_prongsOf t_wardsOf s.2).bind fun u3 => if u3 = 0 then (nm (s.1 ||| ((1 : Int32) <<< (s.2 &&& 31))) fun v5 => nm (s.2 + (1 : Int32)) fun v6 => go (v5, v6)) else nm (s.2 + (1 : Int32)) fun v4 => go (s.1, v4)
def f_X12_nothingFits (t_toldDoors : Int32) (t_prongsOf : (Nat → Int32)) (t_wardsOf : (Nat → Int32)) : Option (Int32) := L_X12_nothingFits_4 t_toldDoors t_prongsOf t_wardsOf fu ((0 : Int32), (0 : Int32))
theorem dX12_nothingFits_0 : decode cX12_nothingFits 0 = .ok (.iconst 0, 1) := by decide +kernel
theorem dX12_nothingFits_1 : decode cX12_nothingFits 1 = .ok (.istore_n 1, 1) := by decide +kernel
theorem dX12_nothingFits_2 : decode cX12_nothingFits 2 = .ok (.iconst 0, 1) := by decide +kernel
theorem dX12_nothingFits_3 : decode cX12_nothingFits 3 = .ok (.istore_n 2, 1) := by decide +kernel
theorem dX12_nothingFits_4 : decode cX12_nothingFits 4 = .ok (.iload_n 2, 1) := by decide +kernel
theorem dX12_nothingFits_5 : decode cX12_nothingFits 5 = .ok (.bipush 24, 2) := by decide +kernel
theorem dX12_nothingFits_7 : decode cX12_nothingFits 7 = .ok (.if_icmp .ge 31, 3) := by decide +kernel
theorem dX12_nothingFits_10 : decode cX12_nothingFits 10 = .ok (.aload_n 0, 1) := by decide +kernel
theorem dX12_nothingFits_11 : decode cX12_nothingFits 11 = .ok (.iload_n 2, 1) := by decide +kernel
theorem dX12_nothingFits_12 : decode cX12_nothingFits 12 = .ok (.invokevirtual 129, 3) := by decide +kernel
theorem dX12_nothingFits_15 : decode cX12_nothingFits 15 = .ok (.ifCond .eq 17, 3) := by decide +kernel
theorem dX12_nothingFits_18 : decode cX12_nothingFits 18 = .ok (.aload_n 0, 1) := by decide +kernel
theorem dX12_nothingFits_19 : decode cX12_nothingFits 19 = .ok (.iload_n 2, 1) := by decide +kernel
theorem dX12_nothingFits_20 : decode cX12_nothingFits 20 = .ok (.invokevirtual 360, 3) := by decide +kernel
theorem dX12_nothingFits_23 : decode cX12_nothingFits 23 = .ok (.ifCond .ne 9, 3) := by decide +kernel
theorem dX12_nothingFits_26 : decode cX12_nothingFits 26 = .ok (.iload_n 1, 1) := by decide +kernel
theorem dX12_nothingFits_27 : decode cX12_nothingFits 27 = .ok (.iconst 1, 1) := by decide +kernel
theorem dX12_nothingFits_28 : decode cX12_nothingFits 28 = .ok (.iload_n 2, 1) := by decide +kernel
theorem dX12_nothingFits_29 : decode cX12_nothingFits 29 = .ok (.ishl, 1) := by decide +kernel
theorem dX12_nothingFits_30 : decode cX12_nothingFits 30 = .ok (.ior, 1) := by decide +kernel
theorem dX12_nothingFits_31 : decode cX12_nothingFits 31 = .ok (.istore_n 1, 1) := by decide +kernel
theorem dX12_nothingFits_32 : decode cX12_nothingFits 32 = .ok (.iinc 2 1, 3) := by decide +kernel
theorem dX12_nothingFits_35 : decode cX12_nothingFits 35 = .ok (.goto (-31), 3) := by decide +kernel
theorem dX12_nothingFits_38 : decode cX12_nothingFits 38 = .ok (.iload_n 1, 1) := by decide +kernel
theorem dX12_nothingFits_39 : decode cX12_nothingFits 39 = .ok (.ireturn, 1) := by decide +kernel
set_option maxHeartbeats 4000000 in
set_option maxRecDepth 100000 in
theorem kL_X12_nothingFits_4 {X : GC} {E : GE} (C : Cx X E cX12_nothingFits RX12 3 3) (o_t : Nat) (a_t : Nat → Nat) (t_barredDoors : Int32) (t_taped : Int32) (t_place0 : Int32) (t_length0 : Int32) (t_fault : Int32) (t_number0 : Int32) (t_open : Int32) (t_codeMany : Int32) (t_waiting : Int32) (t_saidMany : Int32) (t_clauses : Int32) (t_newMany : Int32) (t_rounds : Int32) (t_pinFrom : Int32) (t_pinTimes : Int32) (t_lines : Int32) (t_wasTold : Int32) (t_wasBarred : Int32) (t_goesNow : Int32) (t_jamsNow : Int32) (t_queued : Int32) (t_isKept : Int32) (t_toldDoors : Int32) (t_prongsOf : (Nat → Int32)) (t_wardsOf : (Nat → Int32)) {r : Int32} (hret : RtI X E cX12_nothingFits .int 0 0 (fun w => w = (W_X12_nothingFits E o_t a_t t_toldDoors t_barredDoors t_taped t_place0 t_length0 t_fault t_number0 t_open t_codeMany t_waiting t_saidMany t_clauses t_newMany t_rounds t_pinFrom t_pinTimes t_lines t_wasTold t_wasBarred t_goesNow t_jamsNow t_queued t_isKept t_prongsOf t_wardsOf)) r) : ∀ (n : Nat) (s : Int32 × Int32), L_X12_nothingFits_4 t_toldDoors t_prongsOf t_wardsOf n s = some r → Gx X E 0 0 (W_X12_nothingFits E o_t a_t t_toldDoors t_barredDoors t_taped t_place0 t_length0 t_fault t_number0 t_open t_codeMany t_waiting t_saidMany t_clauses t_newMany t_rounds t_pinFrom t_pinTimes t_lines t_wasTold t_wasBarred t_goesNow t_jamsNow t_queued t_isKept t_prongsOf t_wardsOf) 4 [(0, .ref o_t), (1, .int s.1), (2, .int s.2)] [] := by
  unfold L_X12_nothingFits_4
  refine lp_ind _ (fun go ih s h => ?_)
  refine g_iload_n (pc := 4) C dX12_nothingFits_4 rfl 2 rfl ?_
  refine g_bipush (pc := 5) (v := 24) C dX12_nothingFits_5 (by decide) ?_
  refine g_icmp_ge (pc := 7) (tgt := 38) C dX12_nothingFits_7 (by decide) h (fun h => ?_) (fun h => ?_)
  · refine g_iload_n (pc := 38) C dX12_nothingFits_38 rfl 1 rfl ?_
    cases h
    exact hret _ _ _ dX12_nothingFits_39 rfl rfl
  · refine g_aload_n (pc := 10) C dX12_nothingFits_10 rfl 0 rfl ?_
    refine g_iload_n (pc := 11) C dX12_nothingFits_11 rfl 2 rfl ?_
    obtain ⟨u1, hu1, h⟩ := bs h
    refine g_callV (pc := 12) (st := []) (st1 := [.int u1]) (ws' := (W_X12_nothingFits E o_t a_t t_toldDoors t_barredDoors t_taped t_place0 t_length0 t_fault t_number0 t_open t_codeMany t_waiting t_saidMany t_clauses t_newMany t_rounds t_pinFrom t_pinTimes t_lines t_wasTold t_wasBarred t_goesNow t_jamsNow t_queued t_isKept t_prongsOf t_wardsOf)) C mv_X12_isDoor mi_X12_isDoor ml_X12_129 (c_X12_isDoor X.2.1 E o_t a_t t_toldDoors t_barredDoors t_taped t_place0 t_length0 t_fault t_number0 t_open t_codeMany t_waiting t_saidMany t_clauses t_newMany t_rounds t_pinFrom t_pinTimes t_lines t_wasTold t_wasBarred t_goesNow t_jamsNow t_queued t_isKept s.2 u1 hu1) dX12_nothingFits_12 (by decide) rfl (Nat.le_of_ble_eq_true rfl) 0 11 rfl rfl [0] rfl (by decide) rfl rfl rfl rfl ?_
    refine g_if_eq (pc := 15) (tgt := 32) C dX12_nothingFits_15 (by decide) h (fun h => ?_) (fun h => ?_)
    · refine g_iincn (pc := 32) (j := 2) (d := 1) (lv' := fun v2 => [(2, .int v2), (0, .ref o_t), (1, .int s.1)]) C dX12_nothingFits_32 rfl (by decide) (by decide) (fun _ => rfl) h (fun v2 h => ?_)
      refine g_goto (pc := 35) (tgt := 4) C dX12_nothingFits_35 (by decide) ?_
      refine g_sub [1, 2, 0] rfl ?_
      exact ih _ h
    · refine g_aload_n (pc := 18) C dX12_nothingFits_18 rfl 0 rfl ?_
      refine g_iload_n (pc := 19) C dX12_nothingFits_19 rfl 2 rfl ?_
      obtain ⟨u3, hu3, h⟩ := bs h
      refine g_callV (pc := 20) (st := []) (st1 := [.int u3]) (ws' := (W_X12_nothingFits E o_t a_t t_toldDoors t_barredDoors t_taped t_place0 t_length0 t_fault t_number0 t_open t_codeMany t_waiting t_saidMany t_clauses t_newMany t_rounds t_pinFrom t_pinTimes t_lines t_wasTold t_wasBarred t_goesNow t_jamsNow t_queued t_isKept t_prongsOf t_wardsOf)) C mv_X12_fitting mi_X12_fitting ml_X12_360 (c_X12_fitting X.2.1 E o_t a_t t_toldDoors t_barredDoors t_taped t_place0 t_length0 t_fault t_number0 t_open t_codeMany t_waiting t_saidMany t_clauses t_newMany t_rounds t_pinFrom t_pinTimes t_lines t_wasTold t_wasBarred t_goesNow t_jamsNow t_queued t_isKept t_prongsOf t_wardsOf s.2 u3 hu3) dX12_nothingFits_20 (by decide) rfl (Nat.le_of_ble_eq_true rfl) 0 11 rfl rfl [0, 1, 2] rfl (by decide) rfl rfl rfl rfl ?_
      refine g_if_ne (pc := 23) (tgt := 32) C dX12_nothingFits_23 (by decide) h (fun h => ?_) (fun h => ?_)
      · refine g_iincn (pc := 32) (j := 2) (d := 1) (lv' := fun v4 => [(2, .int v4), (0, .ref o_t), (1, .int s.1)]) C dX12_nothingFits_32 rfl (by decide) (by decide) (fun _ => rfl) h (fun v4 h => ?_)
        refine g_goto (pc := 35) (tgt := 4) C dX12_nothingFits_35 (by decide) ?_
        refine g_sub [1, 2, 0] rfl ?_
        exact ih _ h
      · refine g_iload_n (pc := 26) C dX12_nothingFits_26 rfl 1 rfl ?_
        refine g_iconst (pc := 27) (v := 1) C dX12_nothingFits_27 (by decide) ?_
        refine g_iload_n (pc := 28) C dX12_nothingFits_28 rfl 2 rfl ?_
        refine g_ishl (pc := 29) C dX12_nothingFits_29 ?_
        refine g_ior (pc := 30) C dX12_nothingFits_30 ?_
        refine g_nm h (fun v5 h => ?_)
        refine g_istore_n (pc := 31) (lv' := [(1, .int v5), (0, .ref o_t), (2, .int s.2)]) C dX12_nothingFits_31 rfl (by decide) rfl ?_
        refine g_iincn (pc := 32) (j := 2) (d := 1) (lv' := fun v6 => [(2, .int v6), (1, .int v5), (0, .ref o_t)]) C dX12_nothingFits_32 rfl (by decide) (by decide) (fun _ => rfl) h (fun v6 h => ?_)
        refine g_goto (pc := 35) (tgt := 4) C dX12_nothingFits_35 (by decide) ?_
        refine g_sub [2, 1, 0] rfl ?_
        exact ih _ h
set_option maxHeartbeats 4000000 in
set_option maxRecDepth 100000 in
theorem c_X12_nothingFits (l : Launch) (E : GE) (o_t : Nat) (a_t : Nat → Nat) (t_toldDoors : Int32) (t_barredDoors : Int32) (t_taped : Int32) (t_place0 : Int32) (t_length0 : Int32) (t_fault : Int32) (t_number0 : Int32) (t_open : Int32) (t_codeMany : Int32) (t_waiting : Int32) (t_saidMany : Int32) (t_clauses : Int32) (t_newMany : Int32) (t_rounds : Int32) (t_pinFrom : Int32) (t_pinTimes : Int32) (t_lines : Int32) (t_wasTold : Int32) (t_wasBarred : Int32) (t_goesNow : Int32) (t_jamsNow : Int32) (t_queued : Int32) (t_isKept : Int32) (t_prongsOf : (Nat → Int32)) (t_wardsOf : (Nat → Int32)) (r : Int32) (h : f_X12_nothingFits t_toldDoors t_prongsOf t_wardsOf = some r) : Cn l E yX12_nothingFits cX12_nothingFits 3 (some .int) 3 0 0 [.ref o_t] (W_X12_nothingFits E o_t a_t t_toldDoors t_barredDoors t_taped t_place0 t_length0 t_fault t_number0 t_open t_codeMany t_waiting t_saidMany t_clauses t_newMany t_rounds t_pinFrom t_pinTimes t_lines t_wasTold t_wasBarred t_goesNow t_jamsNow t_queued t_isKept t_prongsOf t_wardsOf) (fun w => w = (W_X12_nothingFits E o_t a_t t_toldDoors t_barredDoors t_taped t_place0 t_length0 t_fault t_number0 t_open t_codeMany t_waiting t_saidMany t_clauses t_newMany t_rounds t_pinFrom t_pinTimes t_lines t_wasTold t_wasBarred t_goesNow t_jamsNow t_queued t_isKept t_prongsOf t_wardsOf)) (some (.int r)) := by
  refine Cn.ofI (by decide +kernel) (Nat.le_of_ble_eq_true rfl) (fun X hX hR C hret => ?_)
  subst hX
  show Gx X E 0 0 (W_X12_nothingFits E o_t a_t t_toldDoors t_barredDoors t_taped t_place0 t_length0 t_fault t_number0 t_open t_codeMany t_waiting t_saidMany t_clauses t_newMany t_rounds t_pinFrom t_pinTimes t_lines t_wasTold t_wasBarred t_goesNow t_jamsNow t_queued t_isKept t_prongsOf t_wardsOf) 0 [(0, .ref o_t)] []
  unfold f_X12_nothingFits at h
  refine g_iconst (pc := 0) (v := 0) C dX12_nothingFits_0 (by decide) ?_
  refine g_istore_n (pc := 1) (lv' := [(1, .int (0 : Int32)), (0, .ref o_t)]) C dX12_nothingFits_1 rfl (by decide) rfl ?_
  refine g_iconst (pc := 2) (v := 0) C dX12_nothingFits_2 (by decide) ?_
  refine g_istore_n (pc := 3) (lv' := [(2, .int (0 : Int32)), (1, .int (0 : Int32)), (0, .ref o_t)]) C dX12_nothingFits_3 rfl (by decide) rfl ?_
  refine g_sub [2, 1, 0] rfl ?_
  refine kL_X12_nothingFits_4 C o_t a_t t_barredDoors t_taped t_place0 t_length0 t_fault t_number0 t_open t_codeMany t_waiting t_saidMany t_clauses t_newMany t_rounds t_pinFrom t_pinTimes t_lines t_wasTold t_wasBarred t_goesNow t_jamsNow t_queued t_isKept t_toldDoors t_prongsOf t_wardsOf hret  _ _ h
