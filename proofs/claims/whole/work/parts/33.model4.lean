abbrev W_X12_pinsOfAll (E : GE) (O_t : Nat) (a_t : Nat → Nat) (t_toldDoors : Int32) (t_barredDoors : Int32) (t_taped : Int32) (t_place0 : Int32) (t_length0 : Int32) (t_fault : Int32) (t_number0 : Int32) (t_open : Int32) (t_codeMany : Int32) (t_waiting : Int32) (t_saidMany : Int32) (t_clauses : Int32) (t_newMany : Int32) (t_rounds : Int32) (t_pinFrom : Int32) (t_pinTimes : Int32) (t_lines : Int32) (t_wasTold : Int32) (t_wasBarred : Int32) (t_goesNow : Int32) (t_jamsNow : Int32) (t_queued : Int32) (t_isKept : Int32) (t_now : (Nat → Int32)) : va_W := [(O_t, ob_X12 a_t t_toldDoors t_barredDoors t_taped t_place0 t_length0 t_fault t_number0 t_open t_codeMany t_waiting t_saidMany t_clauses t_newMany t_rounds t_pinFrom t_pinTimes t_lines t_wasTold t_wasBarred t_goesNow t_jamsNow t_queued t_isKept), (a_t 0, .inl (E.2.1, 166, .inl t_now))]
def L_X12_pinsOfAll_4 (t_now : (Nat → Int32)) : Nat → Int32 × Int32 → Option (Int32) := lp fun go s => if (10 : Int32) ≤ s.2 then (some s.1) else (f_X12_isWoman t_now s.2).bind fun u1 => if u1 = 0 then (nm (s.2 + (1 : Int32)) fun v2 => go (s.1, v2)) else (f_X12_pinsOf t_now s.2).bind fun u3 => nm (s.1 + u3) fun v4 => nm (s.2 + (1 : Int32)) fun v5 => go (v4, v5)
def f_X12_pinsOfAll (t_now : (Nat → Int32)) : Option (Int32) := L_X12_pinsOfAll_4 t_now fu ((0 : Int32), (0 : Int32))
theorem dX12_pinsOfAll_0 : decode cX12_pinsOfAll 0 = .ok (.iconst 0, 1) := by decide +kernel
theorem dX12_pinsOfAll_1 : decode cX12_pinsOfAll 1 = .ok (.istore_n 1, 1) := by decide +kernel
theorem dX12_pinsOfAll_2 : decode cX12_pinsOfAll 2 = .ok (.iconst 0, 1) := by decide +kernel
theorem dX12_pinsOfAll_3 : decode cX12_pinsOfAll 3 = .ok (.istore_n 2, 1) := by decide +kernel
theorem dX12_pinsOfAll_4 : decode cX12_pinsOfAll 4 = .ok (.iload_n 2, 1) := by decide +kernel
theorem dX12_pinsOfAll_5 : decode cX12_pinsOfAll 5 = .ok (.bipush 10, 2) := by decide +kernel
theorem dX12_pinsOfAll_7 : decode cX12_pinsOfAll 7 = .ok (.if_icmp .ge 25, 3) := by decide +kernel
theorem dX12_pinsOfAll_10 : decode cX12_pinsOfAll 10 = .ok (.aload_n 0, 1) := by decide +kernel
theorem dX12_pinsOfAll_11 : decode cX12_pinsOfAll 11 = .ok (.iload_n 2, 1) := by decide +kernel
theorem dX12_pinsOfAll_12 : decode cX12_pinsOfAll 12 = .ok (.invokevirtual 268, 3) := by decide +kernel
theorem dX12_pinsOfAll_15 : decode cX12_pinsOfAll 15 = .ok (.ifCond .eq 11, 3) := by decide +kernel
theorem dX12_pinsOfAll_18 : decode cX12_pinsOfAll 18 = .ok (.iload_n 1, 1) := by decide +kernel
theorem dX12_pinsOfAll_19 : decode cX12_pinsOfAll 19 = .ok (.aload_n 0, 1) := by decide +kernel
theorem dX12_pinsOfAll_20 : decode cX12_pinsOfAll 20 = .ok (.iload_n 2, 1) := by decide +kernel
theorem dX12_pinsOfAll_21 : decode cX12_pinsOfAll 21 = .ok (.invokevirtual 311, 3) := by decide +kernel
theorem dX12_pinsOfAll_24 : decode cX12_pinsOfAll 24 = .ok (.iadd, 1) := by decide +kernel
theorem dX12_pinsOfAll_25 : decode cX12_pinsOfAll 25 = .ok (.istore_n 1, 1) := by decide +kernel
theorem dX12_pinsOfAll_26 : decode cX12_pinsOfAll 26 = .ok (.iinc 2 1, 3) := by decide +kernel
theorem dX12_pinsOfAll_29 : decode cX12_pinsOfAll 29 = .ok (.goto (-25), 3) := by decide +kernel
theorem dX12_pinsOfAll_32 : decode cX12_pinsOfAll 32 = .ok (.iload_n 1, 1) := by decide +kernel
theorem dX12_pinsOfAll_33 : decode cX12_pinsOfAll 33 = .ok (.ireturn, 1) := by decide +kernel
set_option maxHeartbeats 4000000 in
set_option maxRecDepth 100000 in
theorem kL_X12_pinsOfAll_4 {X : GC} {E : GE} (C : Cx X E cX12_pinsOfAll RX12 3 3) (o_t : Nat) (a_t : Nat → Nat) (t_toldDoors : Int32) (t_barredDoors : Int32) (t_taped : Int32) (t_place0 : Int32) (t_length0 : Int32) (t_fault : Int32) (t_number0 : Int32) (t_open : Int32) (t_codeMany : Int32) (t_waiting : Int32) (t_saidMany : Int32) (t_clauses : Int32) (t_newMany : Int32) (t_rounds : Int32) (t_pinFrom : Int32) (t_pinTimes : Int32) (t_lines : Int32) (t_wasTold : Int32) (t_wasBarred : Int32) (t_goesNow : Int32) (t_jamsNow : Int32) (t_queued : Int32) (t_isKept : Int32) (t_now : (Nat → Int32)) {r : Int32} (hret : RtI X E cX12_pinsOfAll .int 0 0 (fun w => w = (W_X12_pinsOfAll E o_t a_t t_toldDoors t_barredDoors t_taped t_place0 t_length0 t_fault t_number0 t_open t_codeMany t_waiting t_saidMany t_clauses t_newMany t_rounds t_pinFrom t_pinTimes t_lines t_wasTold t_wasBarred t_goesNow t_jamsNow t_queued t_isKept t_now)) r) : ∀ (n : Nat) (s : Int32 × Int32), L_X12_pinsOfAll_4 t_now n s = some r → Gx X E 0 0 (W_X12_pinsOfAll E o_t a_t t_toldDoors t_barredDoors t_taped t_place0 t_length0 t_fault t_number0 t_open t_codeMany t_waiting t_saidMany t_clauses t_newMany t_rounds t_pinFrom t_pinTimes t_lines t_wasTold t_wasBarred t_goesNow t_jamsNow t_queued t_isKept t_now) 4 [(0, .ref o_t), (1, .int s.1), (2, .int s.2)] [] := by
  unfold L_X12_pinsOfAll_4
  refine lp_ind _ (fun go ih s h => ?_)
  refine g_iload_n (pc := 4) C dX12_pinsOfAll_4 rfl 2 rfl ?_
  refine g_bipush (pc := 5) (v := 10) C dX12_pinsOfAll_5 (by decide) ?_
  refine g_icmp_ge (pc := 7) (tgt := 32) C dX12_pinsOfAll_7 (by decide) h (fun h => ?_) (fun h => ?_)
  · refine g_iload_n (pc := 32) C dX12_pinsOfAll_32 rfl 1 rfl ?_
    cases h
    exact hret _ _ _ dX12_pinsOfAll_33 rfl rfl
  · refine g_aload_n (pc := 10) C dX12_pinsOfAll_10 rfl 0 rfl ?_
    refine g_iload_n (pc := 11) C dX12_pinsOfAll_11 rfl 2 rfl ?_
    obtain ⟨u1, hu1, h⟩ := bs h
    refine g_callV (pc := 12) (st := []) (st1 := [.int u1]) (ws' := (W_X12_pinsOfAll E o_t a_t t_toldDoors t_barredDoors t_taped t_place0 t_length0 t_fault t_number0 t_open t_codeMany t_waiting t_saidMany t_clauses t_newMany t_rounds t_pinFrom t_pinTimes t_lines t_wasTold t_wasBarred t_goesNow t_jamsNow t_queued t_isKept t_now)) C mv_X12_isWoman mi_X12_isWoman ml_X12_268 (c_X12_isWoman X.2.1 E o_t a_t t_toldDoors t_barredDoors t_taped t_place0 t_length0 t_fault t_number0 t_open t_codeMany t_waiting t_saidMany t_clauses t_newMany t_rounds t_pinFrom t_pinTimes t_lines t_wasTold t_wasBarred t_goesNow t_jamsNow t_queued t_isKept t_now s.2 u1 hu1) dX12_pinsOfAll_12 (by decide) rfl (Nat.le_of_ble_eq_true rfl) 0 11 rfl rfl [0, 1] rfl (by decide) rfl rfl rfl rfl ?_
    refine g_if_eq (pc := 15) (tgt := 26) C dX12_pinsOfAll_15 (by decide) h (fun h => ?_) (fun h => ?_)
    · refine g_iincn (pc := 26) (j := 2) (d := 1) (lv' := fun v2 => [(2, .int v2), (0, .ref o_t), (1, .int s.1)]) C dX12_pinsOfAll_26 rfl (by decide) (by decide) (fun _ => rfl) h (fun v2 h => ?_)
      refine g_goto (pc := 29) (tgt := 4) C dX12_pinsOfAll_29 (by decide) ?_
      refine g_sub [1, 2, 0] rfl ?_
      exact ih _ h
    · refine g_iload_n (pc := 18) C dX12_pinsOfAll_18 rfl 1 rfl ?_
      refine g_aload_n (pc := 19) C dX12_pinsOfAll_19 rfl 0 rfl ?_
      refine g_iload_n (pc := 20) C dX12_pinsOfAll_20 rfl 2 rfl ?_
      obtain ⟨u3, hu3, h⟩ := bs h
      refine g_callV (pc := 21) (st := [.int s.1]) (st1 := [.int u3, .int s.1]) (ws' := (W_X12_pinsOfAll E o_t a_t t_toldDoors t_barredDoors t_taped t_place0 t_length0 t_fault t_number0 t_open t_codeMany t_waiting t_saidMany t_clauses t_newMany t_rounds t_pinFrom t_pinTimes t_lines t_wasTold t_wasBarred t_goesNow t_jamsNow t_queued t_isKept t_now)) C mv_X12_pinsOf mi_X12_pinsOf ml_X12_311 (c_X12_pinsOf X.2.1 E o_t a_t t_toldDoors t_barredDoors t_taped t_place0 t_length0 t_fault t_number0 t_open t_codeMany t_waiting t_saidMany t_clauses t_newMany t_rounds t_pinFrom t_pinTimes t_lines t_wasTold t_wasBarred t_goesNow t_jamsNow t_queued t_isKept t_now s.2 u3 hu3) dX12_pinsOfAll_21 (by decide) rfl (Nat.le_of_ble_eq_true rfl) 0 11 rfl rfl [0, 1] rfl (by decide) rfl rfl rfl rfl ?_
      refine g_iadd (pc := 24) C dX12_pinsOfAll_24 ?_
      refine g_nm h (fun v4 h => ?_)
      refine g_istore_n (pc := 25) (lv' := [(1, .int v4), (0, .ref o_t), (2, .int s.2)]) C dX12_pinsOfAll_25 rfl (by decide) rfl ?_
      refine g_iincn (pc := 26) (j := 2) (d := 1) (lv' := fun v5 => [(2, .int v5), (1, .int v4), (0, .ref o_t)]) C dX12_pinsOfAll_26 rfl (by decide) (by decide) (fun _ => rfl) h (fun v5 h => ?_)
      refine g_goto (pc := 29) (tgt := 4) C dX12_pinsOfAll_29 (by decide) ?_
      refine g_sub [2, 1, 0] rfl ?_
      exact ih _ h
set_option maxHeartbeats 4000000 in
set_option maxRecDepth 100000 in
theorem c_X12_pinsOfAll (l : Launch) (E : GE) (o_t : Nat) (a_t : Nat → Nat) (t_toldDoors : Int32) (t_barredDoors : Int32) (t_taped : Int32) (t_place0 : Int32) (t_length0 : Int32) (t_fault : Int32) (t_number0 : Int32) (t_open : Int32) (t_codeMany : Int32) (t_waiting : Int32) (t_saidMany : Int32) (t_clauses : Int32) (t_newMany : Int32) (t_rounds : Int32) (t_pinFrom : Int32) (t_pinTimes : Int32) (t_lines : Int32) (t_wasTold : Int32) (t_wasBarred : Int32) (t_goesNow : Int32) (t_jamsNow : Int32) (t_queued : Int32) (t_isKept : Int32) (t_now : (Nat → Int32)) (r : Int32) (h : f_X12_pinsOfAll t_now = some r) : Cn l E yX12_pinsOfAll cX12_pinsOfAll 3 (some .int) 3 0 0 [.ref o_t] (W_X12_pinsOfAll E o_t a_t t_toldDoors t_barredDoors t_taped t_place0 t_length0 t_fault t_number0 t_open t_codeMany t_waiting t_saidMany t_clauses t_newMany t_rounds t_pinFrom t_pinTimes t_lines t_wasTold t_wasBarred t_goesNow t_jamsNow t_queued t_isKept t_now) (fun w => w = (W_X12_pinsOfAll E o_t a_t t_toldDoors t_barredDoors t_taped t_place0 t_length0 t_fault t_number0 t_open t_codeMany t_waiting t_saidMany t_clauses t_newMany t_rounds t_pinFrom t_pinTimes t_lines t_wasTold t_wasBarred t_goesNow t_jamsNow t_queued t_isKept t_now)) (some (.int r)) := by
  refine Cn.ofI (by decide +kernel) (Nat.le_of_ble_eq_true rfl) (fun X hX hR C hret => ?_)
  subst hX
  show Gx X E 0 0 (W_X12_pinsOfAll E o_t a_t t_toldDoors t_barredDoors t_taped t_place0 t_length0 t_fault t_number0 t_open t_codeMany t_waiting t_saidMany t_clauses t_newMany t_rounds t_pinFrom t_pinTimes t_lines t_wasTold t_wasBarred t_goesNow t_jamsNow t_queued t_isKept t_now) 0 [(0, .ref o_t)] []
  unfold f_X12_pinsOfAll at h
  refine g_iconst (pc := 0) (v := 0) C dX12_pinsOfAll_0 (by decide) ?_
  refine g_istore_n (pc := 1) (lv' := [(1, .int (0 : Int32)), (0, .ref o_t)]) C dX12_pinsOfAll_1 rfl (by decide) rfl ?_
  refine g_iconst (pc := 2) (v := 0) C dX12_pinsOfAll_2 (by decide) ?_
  refine g_istore_n (pc := 3) (lv' := [(2, .int (0 : Int32)), (1, .int (0 : Int32)), (0, .ref o_t)]) C dX12_pinsOfAll_3 rfl (by decide) rfl ?_
  refine g_sub [2, 1, 0] rfl ?_
  refine kL_X12_pinsOfAll_4 C o_t a_t t_toldDoors t_barredDoors t_taped t_place0 t_length0 t_fault t_number0 t_open t_codeMany t_waiting t_saidMany t_clauses t_newMany t_rounds t_pinFrom t_pinTimes t_lines t_wasTold t_wasBarred t_goesNow t_jamsNow t_queued t_isKept t_now hret  _ _ h
abbrev W_X12_prongs (E : GE) (O_t : Nat) (a_t : Nat → Nat) (t_toldDoors : Int32) (t_barredDoors : Int32) (t_taped : Int32) (t_place0 : Int32) (t_length0 : Int32) (t_fault : Int32) (t_number0 : Int32) (t_open : Int32) (t_codeMany : Int32) (t_waiting : Int32) (t_saidMany : Int32) (t_clauses : Int32) (t_newMany : Int32) (t_rounds : Int32) (t_pinFrom : Int32) (t_pinTimes : Int32) (t_lines : Int32) (t_wasTold : Int32) (t_wasBarred : Int32) (t_goesNow : Int32) (t_jamsNow : Int32) (t_queued : Int32) (t_isKept : Int32) (t_prongsOf : (Nat → Int32)) (t_wardsOf : (Nat → Int32)) : va_W := [(O_t, ob_X12 a_t t_toldDoors t_barredDoors t_taped t_place0 t_length0 t_fault t_number0 t_open t_codeMany t_waiting t_saidMany t_clauses t_newMany t_rounds t_pinFrom t_pinTimes t_lines t_wasTold t_wasBarred t_goesNow t_jamsNow t_queued t_isKept), (a_t 3, .inl (E.2.1, 6, .inl t_prongsOf)), (a_t 6, .inl (E.2.1, 24, .inl t_wardsOf))]
def f_X12_prongs (t_toldDoors : Int32) (t_prongsOf : (Nat → Int32)) (t_wardsOf : (Nat → Int32)) (x1 : Int32) (x2 : Int32) : Option (Int32) := (f_X12_in x1 (0 : Int32) (5 : Int32)).bind fun u1 => if u1 = 0 then (some (-1 : Int32)) else (f_X12_isDoor t_toldDoors x2).bind fun u2 => if u2 = 0 then (some (-1 : Int32)) else rd t_prongsOf 6 x1 fun v3 => rd t_wardsOf 24 x2 fun v4 => (f_X12_bits (v3 ^^^ v4)).bind fun u5 => some u5
theorem dX12_prongs_0 : decode cX12_prongs 0 = .ok (.iload_n 1, 1) := by decide +kernel
theorem dX12_prongs_1 : decode cX12_prongs 1 = .ok (.iconst 0, 1) := by decide +kernel
theorem dX12_prongs_2 : decode cX12_prongs 2 = .ok (.iconst 5, 1) := by decide +kernel
theorem dX12_prongs_3 : decode cX12_prongs 3 = .ok (.invokestatic 117, 3) := by decide +kernel
theorem dX12_prongs_6 : decode cX12_prongs 6 = .ok (.ifCond .eq 30, 3) := by decide +kernel
theorem dX12_prongs_9 : decode cX12_prongs 9 = .ok (.aload_n 0, 1) := by decide +kernel
theorem dX12_prongs_10 : decode cX12_prongs 10 = .ok (.iload_n 2, 1) := by decide +kernel
theorem dX12_prongs_11 : decode cX12_prongs 11 = .ok (.invokevirtual 129, 3) := by decide +kernel
theorem dX12_prongs_14 : decode cX12_prongs 14 = .ok (.ifCond .eq 22, 3) := by decide +kernel
theorem dX12_prongs_17 : decode cX12_prongs 17 = .ok (.aload_n 0, 1) := by decide +kernel
theorem dX12_prongs_18 : decode cX12_prongs 18 = .ok (.getfield 19, 3) := by decide +kernel
theorem dX12_prongs_21 : decode cX12_prongs 21 = .ok (.iload_n 1, 1) := by decide +kernel
theorem dX12_prongs_22 : decode cX12_prongs 22 = .ok (.iaload, 1) := by decide +kernel
theorem dX12_prongs_23 : decode cX12_prongs 23 = .ok (.aload_n 0, 1) := by decide +kernel
theorem dX12_prongs_24 : decode cX12_prongs 24 = .ok (.getfield 28, 3) := by decide +kernel
theorem dX12_prongs_27 : decode cX12_prongs 27 = .ok (.iload_n 2, 1) := by decide +kernel
theorem dX12_prongs_28 : decode cX12_prongs 28 = .ok (.iaload, 1) := by decide +kernel
theorem dX12_prongs_29 : decode cX12_prongs 29 = .ok (.ixor, 1) := by decide +kernel
theorem dX12_prongs_30 : decode cX12_prongs 30 = .ok (.invokestatic 326, 3) := by decide +kernel
theorem dX12_prongs_33 : decode cX12_prongs 33 = .ok (.goto 4, 3) := by decide +kernel
theorem dX12_prongs_36 : decode cX12_prongs 36 = .ok (.iconst (-1), 1) := by decide +kernel
theorem dX12_prongs_37 : decode cX12_prongs 37 = .ok (.ireturn, 1) := by decide +kernel
set_option maxHeartbeats 4000000 in
set_option maxRecDepth 100000 in
theorem c_X12_prongs (l : Launch) (E : GE) (o_t : Nat) (a_t : Nat → Nat) (t_toldDoors : Int32) (t_barredDoors : Int32) (t_taped : Int32) (t_place0 : Int32) (t_length0 : Int32) (t_fault : Int32) (t_number0 : Int32) (t_open : Int32) (t_codeMany : Int32) (t_waiting : Int32) (t_saidMany : Int32) (t_clauses : Int32) (t_newMany : Int32) (t_rounds : Int32) (t_pinFrom : Int32) (t_pinTimes : Int32) (t_lines : Int32) (t_wasTold : Int32) (t_wasBarred : Int32) (t_goesNow : Int32) (t_jamsNow : Int32) (t_queued : Int32) (t_isKept : Int32) (t_prongsOf : (Nat → Int32)) (t_wardsOf : (Nat → Int32)) (x1 : Int32) (x2 : Int32) (r : Int32) (h : f_X12_prongs t_toldDoors t_prongsOf t_wardsOf x1 x2 = some r) : Cn l E yX12_prongs cX12_prongs 3 (some .int) 3 0 0 [.ref o_t, .int x1, .int x2] (W_X12_prongs E o_t a_t t_toldDoors t_barredDoors t_taped t_place0 t_length0 t_fault t_number0 t_open t_codeMany t_waiting t_saidMany t_clauses t_newMany t_rounds t_pinFrom t_pinTimes t_lines t_wasTold t_wasBarred t_goesNow t_jamsNow t_queued t_isKept t_prongsOf t_wardsOf) (fun w => w = (W_X12_prongs E o_t a_t t_toldDoors t_barredDoors t_taped t_place0 t_length0 t_fault t_number0 t_open t_codeMany t_waiting t_saidMany t_clauses t_newMany t_rounds t_pinFrom t_pinTimes t_lines t_wasTold t_wasBarred t_goesNow t_jamsNow t_queued t_isKept t_prongsOf t_wardsOf)) (some (.int r)) := by
  refine Cn.ofI (by decide +kernel) (Nat.le_of_ble_eq_true rfl) (fun X hX hR C hret => ?_)
  subst hX
  show Gx X E 0 0 (W_X12_prongs E o_t a_t t_toldDoors t_barredDoors t_taped t_place0 t_length0 t_fault t_number0 t_open t_codeMany t_waiting t_saidMany t_clauses t_newMany t_rounds t_pinFrom t_pinTimes t_lines t_wasTold t_wasBarred t_goesNow t_jamsNow t_queued t_isKept t_prongsOf t_wardsOf) 0 [(0, .ref o_t), (1, .int x1), (2, .int x2)] []
  unfold f_X12_prongs at h
  refine g_iload_n (pc := 0) C dX12_prongs_0 rfl 1 rfl ?_
  refine g_iconst (pc := 1) (v := 0) C dX12_prongs_1 (by decide) ?_
  refine g_iconst (pc := 2) (v := 5) C dX12_prongs_2 (by decide) ?_
  obtain ⟨u1, hu1, h⟩ := bs h
  refine g_callS (pc := 3) (st := []) (st1 := [.int u1]) (ws' := (W_X12_prongs E o_t a_t t_toldDoors t_barredDoors t_taped t_place0 t_length0 t_fault t_number0 t_open t_codeMany t_waiting t_saidMany t_clauses t_newMany t_rounds t_pinFrom t_pinTimes t_lines t_wasTold t_wasBarred t_goesNow t_jamsNow t_queued t_isKept t_prongsOf t_wardsOf)) C mv_X12_in ms_X12_in ml_X12_117 (c_X12_in X.2.1 E x1 (0 : Int32) (5 : Int32) u1 hu1) dX12_prongs_3 (by decide) rfl (Nat.le_of_ble_eq_true rfl) [] rfl (by decide) rfl rfl rfl rfl ?_
  refine g_if_eq (pc := 6) (tgt := 36) C dX12_prongs_6 (by decide) h (fun h => ?_) (fun h => ?_)
  · refine g_iconst (pc := 36) (v := -1) C dX12_prongs_36 (by decide) ?_
    cases h
    exact hret _ _ _ dX12_prongs_37 rfl rfl
  · refine g_aload_n (pc := 9) C dX12_prongs_9 rfl 0 rfl ?_
    refine g_iload_n (pc := 10) C dX12_prongs_10 rfl 2 rfl ?_
    obtain ⟨u2, hu2, h⟩ := bs h
    refine g_callV (pc := 11) (st := []) (st1 := [.int u2]) (ws' := (W_X12_prongs E o_t a_t t_toldDoors t_barredDoors t_taped t_place0 t_length0 t_fault t_number0 t_open t_codeMany t_waiting t_saidMany t_clauses t_newMany t_rounds t_pinFrom t_pinTimes t_lines t_wasTold t_wasBarred t_goesNow t_jamsNow t_queued t_isKept t_prongsOf t_wardsOf)) C mv_X12_isDoor mi_X12_isDoor ml_X12_129 (c_X12_isDoor X.2.1 E o_t a_t t_toldDoors t_barredDoors t_taped t_place0 t_length0 t_fault t_number0 t_open t_codeMany t_waiting t_saidMany t_clauses t_newMany t_rounds t_pinFrom t_pinTimes t_lines t_wasTold t_wasBarred t_goesNow t_jamsNow t_queued t_isKept x2 u2 hu2) dX12_prongs_11 (by decide) rfl (Nat.le_of_ble_eq_true rfl) 0 11 rfl rfl [0] rfl (by decide) rfl rfl rfl rfl ?_
    refine g_if_eq (pc := 14) (tgt := 36) C dX12_prongs_14 (by decide) h (fun h => ?_) (fun h => ?_)
    · refine g_iconst (pc := 36) (v := -1) C dX12_prongs_36 (by decide) ?_
      cases h
      exact hret _ _ _ dX12_prongs_37 rfl rfl
    · refine g_aload_n (pc := 17) C dX12_prongs_17 rfl 0 rfl ?_
      refine g_get (pc := 18) C fl_X12_19 dX12_prongs_18 0 rfl rfl ?_
      refine g_iload_n (pc := 21) C dX12_prongs_21 rfl 1 rfl ?_
      refine g_iald (pc := 22) C dX12_prongs_22 1 rfl h (fun v3 h => ?_)
      refine g_aload_n (pc := 23) C dX12_prongs_23 rfl 0 rfl ?_
      refine g_get (pc := 24) C fl_X12_28 dX12_prongs_24 0 rfl rfl ?_
      refine g_iload_n (pc := 27) C dX12_prongs_27 rfl 2 rfl ?_
      refine g_iald (pc := 28) C dX12_prongs_28 2 rfl h (fun v4 h => ?_)
      refine g_ixor (pc := 29) C dX12_prongs_29 ?_
      obtain ⟨u5, hu5, h⟩ := bs h
      refine g_callS (pc := 30) (st := []) (st1 := [.int u5]) (ws' := (W_X12_prongs E o_t a_t t_toldDoors t_barredDoors t_taped t_place0 t_length0 t_fault t_number0 t_open t_codeMany t_waiting t_saidMany t_clauses t_newMany t_rounds t_pinFrom t_pinTimes t_lines t_wasTold t_wasBarred t_goesNow t_jamsNow t_queued t_isKept t_prongsOf t_wardsOf)) C mv_X12_bits ms_X12_bits ml_X12_326 (c_X12_bits X.2.1 E (v3 ^^^ v4) u5 hu5) dX12_prongs_30 (by decide) rfl (Nat.le_of_ble_eq_true rfl) [] rfl (by decide) rfl rfl rfl rfl ?_
      refine g_goto (pc := 33) (tgt := 37) C dX12_prongs_33 (by decide) ?_
      cases h
      exact hret _ _ _ dX12_prongs_37 rfl rfl
abbrev W_X12_readsNumber (E : GE) (O_t : Nat) (a_t : Nat → Nat) (t_toldDoors : Int32) (t_barredDoors : Int32) (t_taped : Int32) (t_place0 : Int32) (t_length0 : Int32) (t_fault : Int32) (t_number0 : Int32) (t_open : Int32) (t_codeMany : Int32) (t_waiting : Int32) (t_saidMany : Int32) (t_clauses : Int32) (t_newMany : Int32) (t_rounds : Int32) (t_pinFrom : Int32) (t_pinTimes : Int32) (t_lines : Int32) (t_wasTold : Int32) (t_wasBarred : Int32) (t_goesNow : Int32) (t_jamsNow : Int32) (t_queued : Int32) (t_isKept : Int32) (t_tape : (Nat → Int32)) : va_W := [(O_t, ob_X12 a_t t_toldDoors t_barredDoors t_taped t_place0 t_length0 t_fault t_number0 t_open t_codeMany t_waiting t_saidMany t_clauses t_newMany t_rounds t_pinFrom t_pinTimes t_lines t_wasTold t_wasBarred t_goesNow t_jamsNow t_queued t_isKept), (a_t 13, .inl (E.2.2.1, 260, .inl t_tape))]
def L_X12_readsNumber_10 (t_length0 : Int32) (t_fault : Int32) (t_tape : (Nat → Int32)) (x1 : Int32) (k0 : Int32 × Int32 → Option (Int32 × Int32 × Int32 × Int32)) : Nat → Int32 × Int32 → Option (Int32 × Int32 × Int32 × Int32) := lp fun go s => (f_X12_isDigit s.1 t_length0 t_tape).bind fun u1 => if u1 = 0 then (some ((1 : Int32), s.1, t_fault, s.2)) else if s.1 = (x1 + (5 : Int32)) then (k0 (s.1, s.2)) else (f_X12_here s.1 t_length0 t_tape).bind fun u2 => nm ((((10 : Int32) * s.2) + u2) - (48 : Int32)) fun v3 => nm (s.1 + (1 : Int32)) fun v4 => go (v4, v3)
def f_X12_readsNumber (t_place0 : Int32) (t_length0 : Int32) (t_fault : Int32) (t_number0 : Int32) (t_tape : (Nat → Int32)) : Option (Int32 × Int32 × Int32 × Int32) := L_X12_readsNumber_10 t_length0 t_fault t_tape t_place0 (fun s5 => (f_X12_wrongAt t_fault (2 : Int32) s5.1).bind fun u6 => gb u6.1 <| some (u6.1, s5.1, u6.2, s5.2)) fu (t_place0, (0 : Int32))
theorem dX12_readsNumber_0 : decode cX12_readsNumber 0 = .ok (.aload_n 0, 1) := by decide +kernel
theorem dX12_readsNumber_1 : decode cX12_readsNumber 1 = .ok (.getfield 146, 3) := by decide +kernel
theorem dX12_readsNumber_4 : decode cX12_readsNumber 4 = .ok (.istore_n 1, 1) := by decide +kernel
theorem dX12_readsNumber_5 : decode cX12_readsNumber 5 = .ok (.aload_n 0, 1) := by decide +kernel
theorem dX12_readsNumber_6 : decode cX12_readsNumber 6 = .ok (.iconst 0, 1) := by decide +kernel
theorem dX12_readsNumber_7 : decode cX12_readsNumber 7 = .ok (.putfield 162, 3) := by decide +kernel
theorem dX12_readsNumber_10 : decode cX12_readsNumber 10 = .ok (.aload_n 0, 1) := by decide +kernel
theorem dX12_readsNumber_11 : decode cX12_readsNumber 11 = .ok (.invokevirtual 165, 3) := by decide +kernel
theorem dX12_readsNumber_14 : decode cX12_readsNumber 14 = .ok (.ifCond .eq 55, 3) := by decide +kernel
theorem dX12_readsNumber_17 : decode cX12_readsNumber 17 = .ok (.aload_n 0, 1) := by decide +kernel
theorem dX12_readsNumber_18 : decode cX12_readsNumber 18 = .ok (.getfield 146, 3) := by decide +kernel
theorem dX12_readsNumber_21 : decode cX12_readsNumber 21 = .ok (.iload_n 1, 1) := by decide +kernel
theorem dX12_readsNumber_22 : decode cX12_readsNumber 22 = .ok (.iconst 5, 1) := by decide +kernel
theorem dX12_readsNumber_23 : decode cX12_readsNumber 23 = .ok (.iadd, 1) := by decide +kernel
theorem dX12_readsNumber_24 : decode cX12_readsNumber 24 = .ok (.if_icmp .ne 13, 3) := by decide +kernel
theorem dX12_readsNumber_27 : decode cX12_readsNumber 27 = .ok (.aload_n 0, 1) := by decide +kernel
theorem dX12_readsNumber_28 : decode cX12_readsNumber 28 = .ok (.iconst 2, 1) := by decide +kernel
theorem dX12_readsNumber_29 : decode cX12_readsNumber 29 = .ok (.aload_n 0, 1) := by decide +kernel
theorem dX12_readsNumber_30 : decode cX12_readsNumber 30 = .ok (.getfield 146, 3) := by decide +kernel
theorem dX12_readsNumber_33 : decode cX12_readsNumber 33 = .ok (.invokevirtual 159, 3) := by decide +kernel
theorem dX12_readsNumber_36 : decode cX12_readsNumber 36 = .ok (.ireturn, 1) := by decide +kernel
theorem dX12_readsNumber_37 : decode cX12_readsNumber 37 = .ok (.aload_n 0, 1) := by decide +kernel
theorem dX12_readsNumber_38 : decode cX12_readsNumber 38 = .ok (.bipush 10, 2) := by decide +kernel
theorem dX12_readsNumber_40 : decode cX12_readsNumber 40 = .ok (.aload_n 0, 1) := by decide +kernel
theorem dX12_readsNumber_41 : decode cX12_readsNumber 41 = .ok (.getfield 162, 3) := by decide +kernel
theorem dX12_readsNumber_44 : decode cX12_readsNumber 44 = .ok (.imul, 1) := by decide +kernel
theorem dX12_readsNumber_45 : decode cX12_readsNumber 45 = .ok (.aload_n 0, 1) := by decide +kernel
theorem dX12_readsNumber_46 : decode cX12_readsNumber 46 = .ok (.invokevirtual 152, 3) := by decide +kernel
theorem dX12_readsNumber_49 : decode cX12_readsNumber 49 = .ok (.iadd, 1) := by decide +kernel
theorem dX12_readsNumber_50 : decode cX12_readsNumber 50 = .ok (.bipush 48, 2) := by decide +kernel
theorem dX12_readsNumber_52 : decode cX12_readsNumber 52 = .ok (.isub, 1) := by decide +kernel
theorem dX12_readsNumber_53 : decode cX12_readsNumber 53 = .ok (.putfield 162, 3) := by decide +kernel
theorem dX12_readsNumber_56 : decode cX12_readsNumber 56 = .ok (.aload_n 0, 1) := by decide +kernel
theorem dX12_readsNumber_57 : decode cX12_readsNumber 57 = .ok (.aload_n 0, 1) := by decide +kernel
theorem dX12_readsNumber_58 : decode cX12_readsNumber 58 = .ok (.getfield 146, 3) := by decide +kernel
theorem dX12_readsNumber_61 : decode cX12_readsNumber 61 = .ok (.iconst 1, 1) := by decide +kernel
theorem dX12_readsNumber_62 : decode cX12_readsNumber 62 = .ok (.iadd, 1) := by decide +kernel
theorem dX12_readsNumber_63 : decode cX12_readsNumber 63 = .ok (.putfield 146, 3) := by decide +kernel
theorem dX12_readsNumber_66 : decode cX12_readsNumber 66 = .ok (.goto (-56), 3) := by decide +kernel
theorem dX12_readsNumber_69 : decode cX12_readsNumber 69 = .ok (.iconst 1, 1) := by decide +kernel
theorem dX12_readsNumber_70 : decode cX12_readsNumber 70 = .ok (.ireturn, 1) := by decide +kernel
set_option maxHeartbeats 4000000 in
set_option maxRecDepth 100000 in
theorem kL_X12_readsNumber_10 {X : GC} {E : GE} (C : Cx X E cX12_readsNumber RX12 3 2) (o_t : Nat) (a_t : Nat → Nat) (t_toldDoors : Int32) (t_barredDoors : Int32) (t_taped : Int32) (t_open : Int32) (t_codeMany : Int32) (t_waiting : Int32) (t_saidMany : Int32) (t_clauses : Int32) (t_newMany : Int32) (t_rounds : Int32) (t_pinFrom : Int32) (t_pinTimes : Int32) (t_lines : Int32) (t_wasTold : Int32) (t_wasBarred : Int32) (t_goesNow : Int32) (t_jamsNow : Int32) (t_queued : Int32) (t_isKept : Int32) (t_length0 : Int32) (t_fault : Int32) (t_tape : (Nat → Int32)) (x1 : Int32) (k0 : Int32 × Int32 → Option (Int32 × Int32 × Int32 × Int32)) {r : Int32 × Int32 × Int32 × Int32} (hret : RtI X E cX12_readsNumber .boolean 0 0 (fun w => w = (W_X12_readsNumber E o_t a_t t_toldDoors t_barredDoors t_taped r.2.1 t_length0 r.2.2.1 r.2.2.2 t_open t_codeMany t_waiting t_saidMany t_clauses t_newMany t_rounds t_pinFrom t_pinTimes t_lines t_wasTold t_wasBarred t_goesNow t_jamsNow t_queued t_isKept t_tape)) r.1) (hk0 : ∀ u, k0 u = some r → Gx X E 0 0 (W_X12_readsNumber E o_t a_t t_toldDoors t_barredDoors t_taped u.1 t_length0 t_fault u.2 t_open t_codeMany t_waiting t_saidMany t_clauses t_newMany t_rounds t_pinFrom t_pinTimes t_lines t_wasTold t_wasBarred t_goesNow t_jamsNow t_queued t_isKept t_tape) 27 [(0, .ref o_t)] []) : ∀ (n : Nat) (s : Int32 × Int32), L_X12_readsNumber_10 t_length0 t_fault t_tape x1 k0 n s = some r → Gx X E 0 0 (W_X12_readsNumber E o_t a_t t_toldDoors t_barredDoors t_taped s.1 t_length0 t_fault s.2 t_open t_codeMany t_waiting t_saidMany t_clauses t_newMany t_rounds t_pinFrom t_pinTimes t_lines t_wasTold t_wasBarred t_goesNow t_jamsNow t_queued t_isKept t_tape) 10 [(0, .ref o_t), (1, .int x1)] [] := by
  unfold L_X12_readsNumber_10
  refine lp_ind _ (fun go ih s h => ?_)
  refine g_aload_n (pc := 10) C dX12_readsNumber_10 rfl 0 rfl ?_
  obtain ⟨u1, hu1, h⟩ := bs h
  refine g_callV (pc := 11) (st := []) (st1 := [.int u1]) (ws' := (W_X12_readsNumber E o_t a_t t_toldDoors t_barredDoors t_taped s.1 t_length0 t_fault s.2 t_open t_codeMany t_waiting t_saidMany t_clauses t_newMany t_rounds t_pinFrom t_pinTimes t_lines t_wasTold t_wasBarred t_goesNow t_jamsNow t_queued t_isKept t_tape)) C mv_X12_isDigit mi_X12_isDigit ml_X12_165 (c_X12_isDigit X.2.1 E o_t a_t t_toldDoors t_barredDoors t_taped s.1 t_length0 t_fault s.2 t_open t_codeMany t_waiting t_saidMany t_clauses t_newMany t_rounds t_pinFrom t_pinTimes t_lines t_wasTold t_wasBarred t_goesNow t_jamsNow t_queued t_isKept t_tape u1 hu1) dX12_readsNumber_11 (by decide) rfl (Nat.le_of_ble_eq_true rfl) 0 11 rfl rfl [0, 1] rfl (by decide) rfl rfl rfl rfl ?_
  refine g_if_eq (pc := 14) (tgt := 69) C dX12_readsNumber_14 (by decide) h (fun h => ?_) (fun h => ?_)
  · refine g_iconst (pc := 69) (v := 1) C dX12_readsNumber_69 (by decide) ?_
    cases h
    exact hret _ _ _ dX12_readsNumber_70 nb1 rfl
  · refine g_aload_n (pc := 17) C dX12_readsNumber_17 rfl 0 rfl ?_
    refine g_get (pc := 18) C fl_X12_146 dX12_readsNumber_18 0 rfl rfl ?_
    refine g_iload_n (pc := 21) C dX12_readsNumber_21 rfl 1 rfl ?_
    refine g_iconst (pc := 22) (v := 5) C dX12_readsNumber_22 (by decide) ?_
    refine g_iadd (pc := 23) C dX12_readsNumber_23 ?_
    refine g_icmp_ne (pc := 24) (tgt := 37) C dX12_readsNumber_24 (by decide) h (fun h => ?_) (fun h => ?_)
    · refine g_aload_n (pc := 37) C dX12_readsNumber_37 rfl 0 rfl ?_
      refine g_bipush (pc := 38) (v := 10) C dX12_readsNumber_38 (by decide) ?_
      refine g_aload_n (pc := 40) C dX12_readsNumber_40 rfl 0 rfl ?_
      refine g_get (pc := 41) C fl_X12_162 dX12_readsNumber_41 0 rfl rfl ?_
      refine g_imul (pc := 44) C dX12_readsNumber_44 ?_
      refine g_aload_n (pc := 45) C dX12_readsNumber_45 rfl 0 rfl ?_
      obtain ⟨u2, hu2, h⟩ := bs h
      refine g_callV (pc := 46) (st := [.int ((10 : Int32) * s.2), .ref o_t]) (st1 := [.int u2, .int ((10 : Int32) * s.2), .ref o_t]) (ws' := (W_X12_readsNumber E o_t a_t t_toldDoors t_barredDoors t_taped s.1 t_length0 t_fault s.2 t_open t_codeMany t_waiting t_saidMany t_clauses t_newMany t_rounds t_pinFrom t_pinTimes t_lines t_wasTold t_wasBarred t_goesNow t_jamsNow t_queued t_isKept t_tape)) C mv_X12_here mi_X12_here ml_X12_152 (c_X12_here X.2.1 E o_t a_t t_toldDoors t_barredDoors t_taped s.1 t_length0 t_fault s.2 t_open t_codeMany t_waiting t_saidMany t_clauses t_newMany t_rounds t_pinFrom t_pinTimes t_lines t_wasTold t_wasBarred t_goesNow t_jamsNow t_queued t_isKept t_tape u2 hu2) dX12_readsNumber_46 (by decide) rfl (Nat.le_of_ble_eq_true rfl) 0 11 rfl rfl [0, 1] rfl (by decide) rfl rfl rfl rfl ?_
      refine g_iadd (pc := 49) C dX12_readsNumber_49 ?_
      refine g_bipush (pc := 50) (v := 48) C dX12_readsNumber_50 (by decide) ?_
      refine g_isub (pc := 52) C dX12_readsNumber_52 ?_
      refine g_nm h (fun v3 h => ?_)
      refine g_put (pc := 53) (ws' := (W_X12_readsNumber E o_t a_t t_toldDoors t_barredDoors t_taped s.1 t_length0 t_fault v3 t_open t_codeMany t_waiting t_saidMany t_clauses t_newMany t_rounds t_pinFrom t_pinTimes t_lines t_wasTold t_wasBarred t_goesNow t_jamsNow t_queued t_isKept t_tape)) C .int fl_X12_162 dX12_readsNumber_53 0 rfl (by decide +kernel) rfl rfl (Nat.le_of_ble_eq_true rfl) rfl ?_
      refine g_aload_n (pc := 56) C dX12_readsNumber_56 rfl 0 rfl ?_
      refine g_aload_n (pc := 57) C dX12_readsNumber_57 rfl 0 rfl ?_
      refine g_get (pc := 58) C fl_X12_146 dX12_readsNumber_58 0 rfl rfl ?_
      refine g_iconst (pc := 61) (v := 1) C dX12_readsNumber_61 (by decide) ?_
      refine g_iadd (pc := 62) C dX12_readsNumber_62 ?_
      refine g_nm h (fun v4 h => ?_)
      refine g_put (pc := 63) (ws' := (W_X12_readsNumber E o_t a_t t_toldDoors t_barredDoors t_taped v4 t_length0 t_fault v3 t_open t_codeMany t_waiting t_saidMany t_clauses t_newMany t_rounds t_pinFrom t_pinTimes t_lines t_wasTold t_wasBarred t_goesNow t_jamsNow t_queued t_isKept t_tape)) C .int fl_X12_146 dX12_readsNumber_63 0 rfl (by decide +kernel) rfl rfl (Nat.le_of_ble_eq_true rfl) rfl ?_
      refine g_goto (pc := 66) (tgt := 10) C dX12_readsNumber_66 (by decide) ?_
      exact ih _ h
    · refine g_sub [0] rfl ?_
      exact hk0 _ h
set_option maxHeartbeats 4000000 in
set_option maxRecDepth 100000 in
theorem c_X12_readsNumber (l : Launch) (E : GE) (o_t : Nat) (a_t : Nat → Nat) (t_toldDoors : Int32) (t_barredDoors : Int32) (t_taped : Int32) (t_place0 : Int32) (t_length0 : Int32) (t_fault : Int32) (t_number0 : Int32) (t_open : Int32) (t_codeMany : Int32) (t_waiting : Int32) (t_saidMany : Int32) (t_clauses : Int32) (t_newMany : Int32) (t_rounds : Int32) (t_pinFrom : Int32) (t_pinTimes : Int32) (t_lines : Int32) (t_wasTold : Int32) (t_wasBarred : Int32) (t_goesNow : Int32) (t_jamsNow : Int32) (t_queued : Int32) (t_isKept : Int32) (t_tape : (Nat → Int32)) (r : Int32 × Int32 × Int32 × Int32) (h : f_X12_readsNumber t_place0 t_length0 t_fault t_number0 t_tape = some r) : Cn l E yX12_readsNumber cX12_readsNumber 2 (some .boolean) 3 0 0 [.ref o_t] (W_X12_readsNumber E o_t a_t t_toldDoors t_barredDoors t_taped t_place0 t_length0 t_fault t_number0 t_open t_codeMany t_waiting t_saidMany t_clauses t_newMany t_rounds t_pinFrom t_pinTimes t_lines t_wasTold t_wasBarred t_goesNow t_jamsNow t_queued t_isKept t_tape) (fun w => w = (W_X12_readsNumber E o_t a_t t_toldDoors t_barredDoors t_taped r.2.1 t_length0 r.2.2.1 r.2.2.2 t_open t_codeMany t_waiting t_saidMany t_clauses t_newMany t_rounds t_pinFrom t_pinTimes t_lines t_wasTold t_wasBarred t_goesNow t_jamsNow t_queued t_isKept t_tape)) (some (.int r.1)) := by
  refine Cn.ofI (by decide +kernel) (Nat.le_of_ble_eq_true rfl) (fun X hX hR C hret => ?_)
  subst hX
  show Gx X E 0 0 (W_X12_readsNumber E o_t a_t t_toldDoors t_barredDoors t_taped t_place0 t_length0 t_fault t_number0 t_open t_codeMany t_waiting t_saidMany t_clauses t_newMany t_rounds t_pinFrom t_pinTimes t_lines t_wasTold t_wasBarred t_goesNow t_jamsNow t_queued t_isKept t_tape) 0 [(0, .ref o_t)] []
  unfold f_X12_readsNumber at h
  refine g_aload_n (pc := 0) C dX12_readsNumber_0 rfl 0 rfl ?_
  refine g_get (pc := 1) C fl_X12_146 dX12_readsNumber_1 0 rfl rfl ?_
  refine g_istore_n (pc := 4) (lv' := [(1, .int t_place0), (0, .ref o_t)]) C dX12_readsNumber_4 rfl (by decide) rfl ?_
  refine g_aload_n (pc := 5) C dX12_readsNumber_5 rfl 1 rfl ?_
  refine g_iconst (pc := 6) (v := 0) C dX12_readsNumber_6 (by decide) ?_
  refine g_put (pc := 7) (ws' := (W_X12_readsNumber E o_t a_t t_toldDoors t_barredDoors t_taped t_place0 t_length0 t_fault (0 : Int32) t_open t_codeMany t_waiting t_saidMany t_clauses t_newMany t_rounds t_pinFrom t_pinTimes t_lines t_wasTold t_wasBarred t_goesNow t_jamsNow t_queued t_isKept t_tape)) C .int fl_X12_162 dX12_readsNumber_7 0 rfl (by decide +kernel) rfl rfl (Nat.le_of_ble_eq_true rfl) rfl ?_
  refine g_sub [1, 0] rfl ?_
  refine kL_X12_readsNumber_10 C o_t a_t t_toldDoors t_barredDoors t_taped t_open t_codeMany t_waiting t_saidMany t_clauses t_newMany t_rounds t_pinFrom t_pinTimes t_lines t_wasTold t_wasBarred t_goesNow t_jamsNow t_queued t_isKept t_length0 t_fault t_tape t_place0 _ hret (fun s5 h => ?_) _ _ h
  refine g_aload_n (pc := 27) C dX12_readsNumber_27 rfl 0 rfl ?_
  refine g_iconst (pc := 28) (v := 2) C dX12_readsNumber_28 (by decide) ?_
  refine g_aload_n (pc := 29) C dX12_readsNumber_29 rfl 0 rfl ?_
  refine g_get (pc := 30) C fl_X12_146 dX12_readsNumber_30 0 rfl rfl ?_
  obtain ⟨u6, hu6, h⟩ := bs h
  refine g_callV (pc := 33) (st := []) (st1 := [.int u6.1]) (ws' := (W_X12_readsNumber E o_t a_t t_toldDoors t_barredDoors t_taped s5.1 t_length0 u6.2 s5.2 t_open t_codeMany t_waiting t_saidMany t_clauses t_newMany t_rounds t_pinFrom t_pinTimes t_lines t_wasTold t_wasBarred t_goesNow t_jamsNow t_queued t_isKept t_tape)) C mv_X12_wrongAt mi_X12_wrongAt ml_X12_159 (c_X12_wrongAt X.2.1 E o_t a_t t_toldDoors t_barredDoors t_taped s5.1 t_length0 t_fault s5.2 t_open t_codeMany t_waiting t_saidMany t_clauses t_newMany t_rounds t_pinFrom t_pinTimes t_lines t_wasTold t_wasBarred t_goesNow t_jamsNow t_queued t_isKept (2 : Int32) s5.1 u6 hu6) dX12_readsNumber_33 (by decide) rfl (Nat.le_of_ble_eq_true rfl) 0 11 rfl rfl [0] rfl (by decide) rfl rfl rfl rfl ?_
  obtain ⟨hgb, h⟩ := gb_is h
  cases h
  exact hret _ _ _ dX12_readsNumber_36 hgb rfl
abbrev W_X12_readsPin (E : GE) (O_t : Nat) (a_t : Nat → Nat) (t_toldDoors : Int32) (t_barredDoors : Int32) (t_taped : Int32) (t_place0 : Int32) (t_length0 : Int32) (t_fault : Int32) (t_number0 : Int32) (t_open : Int32) (t_codeMany : Int32) (t_waiting : Int32) (t_saidMany : Int32) (t_clauses : Int32) (t_newMany : Int32) (t_rounds : Int32) (t_pinFrom : Int32) (t_pinTimes : Int32) (t_lines : Int32) (t_wasTold : Int32) (t_wasBarred : Int32) (t_goesNow : Int32) (t_jamsNow : Int32) (t_queued : Int32) (t_isKept : Int32) (t_tape : (Nat → Int32)) (t_newPins : (Nat → Int32)) (t_roundFrom : (Nat → Int32)) (t_roundAt : (Nat → Int32)) (t_roundTimes : (Nat → Int32)) : va_W := [(O_t, ob_X12 a_t t_toldDoors t_barredDoors t_taped t_place0 t_length0 t_fault t_number0 t_open t_codeMany t_waiting t_saidMany t_clauses t_newMany t_rounds t_pinFrom t_pinTimes t_lines t_wasTold t_wasBarred t_goesNow t_jamsNow t_queued t_isKept), (a_t 13, .inl (E.2.2.1, 260, .inl t_tape)), (a_t 37, .inl (E.2.1, 60, .inl t_newPins)), (a_t 38, .inl (E.2.1, 2, .inl t_roundFrom)), (a_t 39, .inl (E.2.1, 2, .inl t_roundAt)), (a_t 40, .inl (E.2.1, 2, .inl t_roundTimes))]
def L_X12_readsPin_4 (t_length0 : Int32) (t_fault : Int32) (t_newMany : Int32) (t_tape : (Nat → Int32)) (t_newPins : (Nat → Int32)) (k0 : Int32 × Int32 × Int32 × Int32 × (Nat → Int32) × (Nat → Int32) × (Nat → Int32) → Option (Int32 × Int32 × Int32 × Int32 × Int32 × Int32 × Int32 × (Nat → Int32) × (Nat → Int32) × (Nat → Int32) × (Nat → Int32))) (k1 : Int32 × Int32 × Int32 × Int32 × (Nat → Int32) × (Nat → Int32) × (Nat → Int32) → Option (Int32 × Int32 × Int32 × Int32 × Int32 × Int32 × Int32 × (Nat → Int32) × (Nat → Int32) × (Nat → Int32) × (Nat → Int32))) : Nat → Int32 × Int32 × Int32 × Int32 × (Nat → Int32) × (Nat → Int32) × (Nat → Int32) → Option (Int32 × Int32 × Int32 × Int32 × Int32 × Int32 × Int32 × (Nat → Int32) × (Nat → Int32) × (Nat → Int32) × (Nat → Int32)) := lp fun go s => (f_X12_here s.1 t_length0 t_tape).bind fun u2 => if u2 = (40 : Int32) then (if s.2.1 = (2 : Int32) then (k0 (s.1, s.2.1, s.2.2.1, s.2.2.2.1, s.2.2.2.2.1, s.2.2.2.2.2.1, s.2.2.2.2.2.2)) else wr s.2.2.2.2.1 2 s.2.1 s.2.2.1 fun g3 => wr s.2.2.2.2.2.1 2 s.2.1 t_newMany fun g4 => wr s.2.2.2.2.2.2 2 s.2.1 s.2.2.2.1 fun g5 => nm (s.2.1 + (1 : Int32)) fun v6 => nm (s.1 + (1 : Int32)) fun v7 => (f_X12_readsTimes v7 t_length0 s.2.2.1 s.2.2.2.1 t_tape).bind fun u8 => go (u8.1, v6, u8.2.1, u8.2.2, g3, g4, g5)) else k1 (s.1, s.2.1, s.2.2.1, s.2.2.2.1, s.2.2.2.2.1, s.2.2.2.2.2.1, s.2.2.2.2.2.2)
def L_X12_readsPin_203 (t_length0 : Int32) (t_pinFrom : Int32) (t_pinTimes : Int32) (t_tape : (Nat → Int32)) (t_roundFrom : (Nat → Int32)) (t_roundAt : (Nat → Int32)) (t_roundTimes : (Nat → Int32)) : Nat → Int32 × Int32 × Int32 × Int32 × (Nat → Int32) → Option (Int32 × Int32 × Int32 × Int32 × Int32 × Int32 × Int32 × (Nat → Int32) × (Nat → Int32) × (Nat → Int32) × (Nat → Int32)) := lp fun go s => (f_X12_here s.1 t_length0 t_tape).bind fun u19 => if u19 = (41 : Int32) then (if s.2.2.2.1 ≤ 0 then (some ((1 : Int32), s.1, s.2.1, s.2.2.1, s.2.2.2.1, t_pinFrom, t_pinTimes, s.2.2.2.2, t_roundFrom, t_roundAt, t_roundTimes)) else nm (s.1 + (1 : Int32)) fun v20 => nm (s.2.2.2.1 - (1 : Int32)) fun v21 => rd t_roundAt 2 v21 fun v22 => rd t_roundTimes 2 v21 fun v23 => rd t_roundFrom 2 v21 fun v24 => (f_X12_repeats s.2.1 s.2.2.1 s.2.2.2.2 v22 v23 v24).bind fun u25 => if u25.1 = 0 then (some ((0 : Int32), v20, u25.2.1, u25.2.2.1, v21, t_pinFrom, t_pinTimes, u25.2.2.2, t_roundFrom, t_roundAt, t_roundTimes)) else go (v20, u25.2.1, u25.2.2.1, v21, u25.2.2.2)) else some ((1 : Int32), s.1, s.2.1, s.2.2.1, s.2.2.2.1, t_pinFrom, t_pinTimes, s.2.2.2.2, t_roundFrom, t_roundAt, t_roundTimes)
def f_X12_readsPin (t_place0 : Int32) (t_length0 : Int32) (t_fault : Int32) (t_newMany : Int32) (t_rounds : Int32) (t_pinFrom : Int32) (t_pinTimes : Int32) (t_tape : (Nat → Int32)) (t_newPins : (Nat → Int32)) (t_roundFrom : (Nat → Int32)) (t_roundAt : (Nat → Int32)) (t_roundTimes : (Nat → Int32)) : Option (Int32 × Int32 × Int32 × Int32 × Int32 × Int32 × Int32 × (Nat → Int32) × (Nat → Int32) × (Nat → Int32) × (Nat → Int32)) := (f_X12_readsTimes t_place0 t_length0 t_pinFrom t_pinTimes t_tape).bind fun u1 => L_X12_readsPin_4 t_length0 t_fault t_newMany t_tape t_newPins (fun s9 => (f_X12_wrongAt t_fault (5 : Int32) s9.1).bind fun u10 => gb u10.1 <| some (u10.1, s9.1, u10.2, t_newMany, s9.2.1, s9.2.2.1, s9.2.2.2.1, t_newPins, s9.2.2.2.2.1, s9.2.2.2.2.2.1, s9.2.2.2.2.2.2)) (fun s11 => (f_X12_here s11.1 t_length0 t_tape).bind fun u12 => (f_X12_in u12 (97 : Int32) (102 : Int32)).bind fun u13 => if u13 = 0 then ((f_X12_wrongAt t_fault (1 : Int32) s11.1).bind fun u27 => gb u27.1 <| some (u27.1, s11.1, u27.2, t_newMany, s11.2.1, s11.2.2.1, s11.2.2.2.1, t_newPins, s11.2.2.2.2.1, s11.2.2.2.2.2.1, s11.2.2.2.2.2.2)) else if (t_newMany + s11.2.2.2.1) ≤ (60 : Int32) then ((f_X12_here s11.1 t_length0 t_tape).bind fun u14 => wr t_newPins 60 t_newMany (u14 - (97 : Int32)) fun g15 => nm (s11.1 + (1 : Int32)) fun v16 => nm (t_newMany + (1 : Int32)) fun v17 => (f_X12_repeats t_fault v17 g15 (v17 - (1 : Int32)) s11.2.2.2.1 s11.2.2.1).bind fun u18 => if u18.1 = 0 then (some ((0 : Int32), v16, u18.2.1, u18.2.2.1, s11.2.1, s11.2.2.1, s11.2.2.2.1, u18.2.2.2, s11.2.2.2.2.1, s11.2.2.2.2.2.1, s11.2.2.2.2.2.2)) else L_X12_readsPin_203 t_length0 s11.2.2.1 s11.2.2.2.1 t_tape s11.2.2.2.2.1 s11.2.2.2.2.2.1 s11.2.2.2.2.2.2 fu (v16, u18.2.1, u18.2.2.1, s11.2.1, u18.2.2.2)) else (f_X12_wrongAt t_fault (6 : Int32) s11.2.2.1).bind fun u26 => gb u26.1 <| some (u26.1, s11.1, u26.2, t_newMany, s11.2.1, s11.2.2.1, s11.2.2.2.1, t_newPins, s11.2.2.2.2.1, s11.2.2.2.2.2.1, s11.2.2.2.2.2.2)) fu (u1.1, t_rounds, u1.2.1, u1.2.2, t_roundFrom, t_roundAt, t_roundTimes)
theorem dX12_readsPin_0 : decode cX12_readsPin 0 = .ok (.aload_n 0, 1) := by decide +kernel
theorem dX12_readsPin_1 : decode cX12_readsPin 1 = .ok (.invokevirtual 259, 3) := by decide +kernel
theorem dX12_readsPin_4 : decode cX12_readsPin 4 = .ok (.aload_n 0, 1) := by decide +kernel
theorem dX12_readsPin_5 : decode cX12_readsPin 5 = .ok (.invokevirtual 152, 3) := by decide +kernel
theorem dX12_readsPin_8 : decode cX12_readsPin 8 = .ok (.bipush 40, 2) := by decide +kernel
theorem dX12_readsPin_10 : decode cX12_readsPin 10 = .ok (.if_icmp .ne 87, 3) := by decide +kernel
theorem dX12_readsPin_13 : decode cX12_readsPin 13 = .ok (.aload_n 0, 1) := by decide +kernel
theorem dX12_readsPin_14 : decode cX12_readsPin 14 = .ok (.getfield 262, 3) := by decide +kernel
theorem dX12_readsPin_17 : decode cX12_readsPin 17 = .ok (.iconst 2, 1) := by decide +kernel
theorem dX12_readsPin_18 : decode cX12_readsPin 18 = .ok (.if_icmp .ne 13, 3) := by decide +kernel
theorem dX12_readsPin_21 : decode cX12_readsPin 21 = .ok (.aload_n 0, 1) := by decide +kernel
theorem dX12_readsPin_22 : decode cX12_readsPin 22 = .ok (.iconst 5, 1) := by decide +kernel
theorem dX12_readsPin_23 : decode cX12_readsPin 23 = .ok (.aload_n 0, 1) := by decide +kernel
theorem dX12_readsPin_24 : decode cX12_readsPin 24 = .ok (.getfield 146, 3) := by decide +kernel
theorem dX12_readsPin_27 : decode cX12_readsPin 27 = .ok (.invokevirtual 159, 3) := by decide +kernel
theorem dX12_readsPin_30 : decode cX12_readsPin 30 = .ok (.ireturn, 1) := by decide +kernel
theorem dX12_readsPin_31 : decode cX12_readsPin 31 = .ok (.aload_n 0, 1) := by decide +kernel
theorem dX12_readsPin_32 : decode cX12_readsPin 32 = .ok (.getfield 89, 3) := by decide +kernel
theorem dX12_readsPin_35 : decode cX12_readsPin 35 = .ok (.aload_n 0, 1) := by decide +kernel
theorem dX12_readsPin_36 : decode cX12_readsPin 36 = .ok (.getfield 262, 3) := by decide +kernel
theorem dX12_readsPin_39 : decode cX12_readsPin 39 = .ok (.aload_n 0, 1) := by decide +kernel
theorem dX12_readsPin_40 : decode cX12_readsPin 40 = .ok (.getfield 250, 3) := by decide +kernel
theorem dX12_readsPin_43 : decode cX12_readsPin 43 = .ok (.iastore, 1) := by decide +kernel
theorem dX12_readsPin_44 : decode cX12_readsPin 44 = .ok (.aload_n 0, 1) := by decide +kernel
theorem dX12_readsPin_45 : decode cX12_readsPin 45 = .ok (.getfield 92, 3) := by decide +kernel
theorem dX12_readsPin_48 : decode cX12_readsPin 48 = .ok (.aload_n 0, 1) := by decide +kernel
theorem dX12_readsPin_49 : decode cX12_readsPin 49 = .ok (.getfield 262, 3) := by decide +kernel
theorem dX12_readsPin_52 : decode cX12_readsPin 52 = .ok (.aload_n 0, 1) := by decide +kernel
theorem dX12_readsPin_53 : decode cX12_readsPin 53 = .ok (.getfield 256, 3) := by decide +kernel
theorem dX12_readsPin_56 : decode cX12_readsPin 56 = .ok (.iastore, 1) := by decide +kernel
theorem dX12_readsPin_57 : decode cX12_readsPin 57 = .ok (.aload_n 0, 1) := by decide +kernel
theorem dX12_readsPin_58 : decode cX12_readsPin 58 = .ok (.getfield 95, 3) := by decide +kernel
theorem dX12_readsPin_61 : decode cX12_readsPin 61 = .ok (.aload_n 0, 1) := by decide +kernel
theorem dX12_readsPin_62 : decode cX12_readsPin 62 = .ok (.getfield 262, 3) := by decide +kernel
theorem dX12_readsPin_65 : decode cX12_readsPin 65 = .ok (.aload_n 0, 1) := by decide +kernel
theorem dX12_readsPin_66 : decode cX12_readsPin 66 = .ok (.getfield 253, 3) := by decide +kernel
theorem dX12_readsPin_69 : decode cX12_readsPin 69 = .ok (.iastore, 1) := by decide +kernel
theorem dX12_readsPin_70 : decode cX12_readsPin 70 = .ok (.aload_n 0, 1) := by decide +kernel
theorem dX12_readsPin_71 : decode cX12_readsPin 71 = .ok (.aload_n 0, 1) := by decide +kernel
theorem dX12_readsPin_72 : decode cX12_readsPin 72 = .ok (.getfield 262, 3) := by decide +kernel
theorem dX12_readsPin_75 : decode cX12_readsPin 75 = .ok (.iconst 1, 1) := by decide +kernel
theorem dX12_readsPin_76 : decode cX12_readsPin 76 = .ok (.iadd, 1) := by decide +kernel
theorem dX12_readsPin_77 : decode cX12_readsPin 77 = .ok (.putfield 262, 3) := by decide +kernel
theorem dX12_readsPin_80 : decode cX12_readsPin 80 = .ok (.aload_n 0, 1) := by decide +kernel
theorem dX12_readsPin_81 : decode cX12_readsPin 81 = .ok (.aload_n 0, 1) := by decide +kernel
theorem dX12_readsPin_82 : decode cX12_readsPin 82 = .ok (.getfield 146, 3) := by decide +kernel
theorem dX12_readsPin_85 : decode cX12_readsPin 85 = .ok (.iconst 1, 1) := by decide +kernel
theorem dX12_readsPin_86 : decode cX12_readsPin 86 = .ok (.iadd, 1) := by decide +kernel
theorem dX12_readsPin_87 : decode cX12_readsPin 87 = .ok (.putfield 146, 3) := by decide +kernel
theorem dX12_readsPin_90 : decode cX12_readsPin 90 = .ok (.aload_n 0, 1) := by decide +kernel
theorem dX12_readsPin_91 : decode cX12_readsPin 91 = .ok (.invokevirtual 259, 3) := by decide +kernel
theorem dX12_readsPin_94 : decode cX12_readsPin 94 = .ok (.goto (-90), 3) := by decide +kernel
theorem dX12_readsPin_97 : decode cX12_readsPin 97 = .ok (.aload_n 0, 1) := by decide +kernel
theorem dX12_readsPin_98 : decode cX12_readsPin 98 = .ok (.getfield 250, 3) := by decide +kernel
theorem dX12_readsPin_101 : decode cX12_readsPin 101 = .ok (.istore_n 1, 1) := by decide +kernel
theorem dX12_readsPin_102 : decode cX12_readsPin 102 = .ok (.aload_n 0, 1) := by decide +kernel
theorem dX12_readsPin_103 : decode cX12_readsPin 103 = .ok (.getfield 253, 3) := by decide +kernel
theorem dX12_readsPin_106 : decode cX12_readsPin 106 = .ok (.istore_n 2, 1) := by decide +kernel
theorem dX12_readsPin_107 : decode cX12_readsPin 107 = .ok (.aload_n 0, 1) := by decide +kernel
theorem dX12_readsPin_108 : decode cX12_readsPin 108 = .ok (.invokevirtual 152, 3) := by decide +kernel
theorem dX12_readsPin_111 : decode cX12_readsPin 111 = .ok (.bipush 97, 2) := by decide +kernel
theorem dX12_readsPin_113 : decode cX12_readsPin 113 = .ok (.bipush 102, 2) := by decide +kernel
theorem dX12_readsPin_115 : decode cX12_readsPin 115 = .ok (.invokestatic 117, 3) := by decide +kernel
theorem dX12_readsPin_118 : decode cX12_readsPin 118 = .ok (.ifCond .ne 13, 3) := by decide +kernel
theorem dX12_readsPin_121 : decode cX12_readsPin 121 = .ok (.aload_n 0, 1) := by decide +kernel
theorem dX12_readsPin_122 : decode cX12_readsPin 122 = .ok (.iconst 1, 1) := by decide +kernel
theorem dX12_readsPin_123 : decode cX12_readsPin 123 = .ok (.aload_n 0, 1) := by decide +kernel
theorem dX12_readsPin_124 : decode cX12_readsPin 124 = .ok (.getfield 146, 3) := by decide +kernel
theorem dX12_readsPin_127 : decode cX12_readsPin 127 = .ok (.invokevirtual 159, 3) := by decide +kernel
theorem dX12_readsPin_130 : decode cX12_readsPin 130 = .ok (.ireturn, 1) := by decide +kernel
theorem dX12_readsPin_131 : decode cX12_readsPin 131 = .ok (.aload_n 0, 1) := by decide +kernel
theorem dX12_readsPin_132 : decode cX12_readsPin 132 = .ok (.getfield 256, 3) := by decide +kernel
theorem dX12_readsPin_135 : decode cX12_readsPin 135 = .ok (.iload_n 2, 1) := by decide +kernel
theorem dX12_readsPin_136 : decode cX12_readsPin 136 = .ok (.iadd, 1) := by decide +kernel
theorem dX12_readsPin_137 : decode cX12_readsPin 137 = .ok (.bipush 60, 2) := by decide +kernel
theorem dX12_readsPin_139 : decode cX12_readsPin 139 = .ok (.if_icmp .le 11, 3) := by decide +kernel
theorem dX12_readsPin_142 : decode cX12_readsPin 142 = .ok (.aload_n 0, 1) := by decide +kernel
theorem dX12_readsPin_143 : decode cX12_readsPin 143 = .ok (.bipush 6, 2) := by decide +kernel
theorem dX12_readsPin_145 : decode cX12_readsPin 145 = .ok (.iload_n 1, 1) := by decide +kernel
theorem dX12_readsPin_146 : decode cX12_readsPin 146 = .ok (.invokevirtual 159, 3) := by decide +kernel
theorem dX12_readsPin_149 : decode cX12_readsPin 149 = .ok (.ireturn, 1) := by decide +kernel
theorem dX12_readsPin_150 : decode cX12_readsPin 150 = .ok (.aload_n 0, 1) := by decide +kernel
theorem dX12_readsPin_151 : decode cX12_readsPin 151 = .ok (.getfield 86, 3) := by decide +kernel
theorem dX12_readsPin_154 : decode cX12_readsPin 154 = .ok (.aload_n 0, 1) := by decide +kernel
theorem dX12_readsPin_155 : decode cX12_readsPin 155 = .ok (.getfield 256, 3) := by decide +kernel
theorem dX12_readsPin_158 : decode cX12_readsPin 158 = .ok (.aload_n 0, 1) := by decide +kernel
theorem dX12_readsPin_159 : decode cX12_readsPin 159 = .ok (.invokevirtual 152, 3) := by decide +kernel
theorem dX12_readsPin_162 : decode cX12_readsPin 162 = .ok (.bipush 97, 2) := by decide +kernel
theorem dX12_readsPin_164 : decode cX12_readsPin 164 = .ok (.isub, 1) := by decide +kernel
theorem dX12_readsPin_165 : decode cX12_readsPin 165 = .ok (.iastore, 1) := by decide +kernel
theorem dX12_readsPin_166 : decode cX12_readsPin 166 = .ok (.aload_n 0, 1) := by decide +kernel
theorem dX12_readsPin_167 : decode cX12_readsPin 167 = .ok (.aload_n 0, 1) := by decide +kernel
theorem dX12_readsPin_168 : decode cX12_readsPin 168 = .ok (.getfield 146, 3) := by decide +kernel
theorem dX12_readsPin_171 : decode cX12_readsPin 171 = .ok (.iconst 1, 1) := by decide +kernel
theorem dX12_readsPin_172 : decode cX12_readsPin 172 = .ok (.iadd, 1) := by decide +kernel
theorem dX12_readsPin_173 : decode cX12_readsPin 173 = .ok (.putfield 146, 3) := by decide +kernel
theorem dX12_readsPin_176 : decode cX12_readsPin 176 = .ok (.aload_n 0, 1) := by decide +kernel
theorem dX12_readsPin_177 : decode cX12_readsPin 177 = .ok (.aload_n 0, 1) := by decide +kernel
theorem dX12_readsPin_178 : decode cX12_readsPin 178 = .ok (.getfield 256, 3) := by decide +kernel
theorem dX12_readsPin_181 : decode cX12_readsPin 181 = .ok (.iconst 1, 1) := by decide +kernel
theorem dX12_readsPin_182 : decode cX12_readsPin 182 = .ok (.iadd, 1) := by decide +kernel
theorem dX12_readsPin_183 : decode cX12_readsPin 183 = .ok (.putfield 256, 3) := by decide +kernel
theorem dX12_readsPin_186 : decode cX12_readsPin 186 = .ok (.aload_n 0, 1) := by decide +kernel
theorem dX12_readsPin_187 : decode cX12_readsPin 187 = .ok (.aload_n 0, 1) := by decide +kernel
theorem dX12_readsPin_188 : decode cX12_readsPin 188 = .ok (.getfield 256, 3) := by decide +kernel
theorem dX12_readsPin_191 : decode cX12_readsPin 191 = .ok (.iconst 1, 1) := by decide +kernel
theorem dX12_readsPin_192 : decode cX12_readsPin 192 = .ok (.isub, 1) := by decide +kernel
theorem dX12_readsPin_193 : decode cX12_readsPin 193 = .ok (.iload_n 2, 1) := by decide +kernel
theorem dX12_readsPin_194 : decode cX12_readsPin 194 = .ok (.iload_n 1, 1) := by decide +kernel
theorem dX12_readsPin_195 : decode cX12_readsPin 195 = .ok (.invokevirtual 265, 3) := by decide +kernel
theorem dX12_readsPin_198 : decode cX12_readsPin 198 = .ok (.ifCond .ne 5, 3) := by decide +kernel
theorem dX12_readsPin_201 : decode cX12_readsPin 201 = .ok (.iconst 0, 1) := by decide +kernel
theorem dX12_readsPin_202 : decode cX12_readsPin 202 = .ok (.ireturn, 1) := by decide +kernel
theorem dX12_readsPin_203 : decode cX12_readsPin 203 = .ok (.aload_n 0, 1) := by decide +kernel
theorem dX12_readsPin_204 : decode cX12_readsPin 204 = .ok (.invokevirtual 152, 3) := by decide +kernel
theorem dX12_readsPin_207 : decode cX12_readsPin 207 = .ok (.bipush 41, 2) := by decide +kernel
theorem dX12_readsPin_209 : decode cX12_readsPin 209 = .ok (.if_icmp .ne 66, 3) := by decide +kernel
theorem dX12_readsPin_212 : decode cX12_readsPin 212 = .ok (.aload_n 0, 1) := by decide +kernel
theorem dX12_readsPin_213 : decode cX12_readsPin 213 = .ok (.getfield 262, 3) := by decide +kernel
theorem dX12_readsPin_216 : decode cX12_readsPin 216 = .ok (.ifCond .le 59, 3) := by decide +kernel
theorem dX12_readsPin_219 : decode cX12_readsPin 219 = .ok (.aload_n 0, 1) := by decide +kernel
theorem dX12_readsPin_220 : decode cX12_readsPin 220 = .ok (.aload_n 0, 1) := by decide +kernel
theorem dX12_readsPin_221 : decode cX12_readsPin 221 = .ok (.getfield 146, 3) := by decide +kernel
theorem dX12_readsPin_224 : decode cX12_readsPin 224 = .ok (.iconst 1, 1) := by decide +kernel
theorem dX12_readsPin_225 : decode cX12_readsPin 225 = .ok (.iadd, 1) := by decide +kernel
theorem dX12_readsPin_226 : decode cX12_readsPin 226 = .ok (.putfield 146, 3) := by decide +kernel
theorem dX12_readsPin_229 : decode cX12_readsPin 229 = .ok (.aload_n 0, 1) := by decide +kernel
theorem dX12_readsPin_230 : decode cX12_readsPin 230 = .ok (.aload_n 0, 1) := by decide +kernel
theorem dX12_readsPin_231 : decode cX12_readsPin 231 = .ok (.getfield 262, 3) := by decide +kernel
theorem dX12_readsPin_234 : decode cX12_readsPin 234 = .ok (.iconst 1, 1) := by decide +kernel
theorem dX12_readsPin_235 : decode cX12_readsPin 235 = .ok (.isub, 1) := by decide +kernel
theorem dX12_readsPin_236 : decode cX12_readsPin 236 = .ok (.putfield 262, 3) := by decide +kernel
theorem dX12_readsPin_239 : decode cX12_readsPin 239 = .ok (.aload_n 0, 1) := by decide +kernel
theorem dX12_readsPin_240 : decode cX12_readsPin 240 = .ok (.aload_n 0, 1) := by decide +kernel
theorem dX12_readsPin_241 : decode cX12_readsPin 241 = .ok (.getfield 92, 3) := by decide +kernel
theorem dX12_readsPin_244 : decode cX12_readsPin 244 = .ok (.aload_n 0, 1) := by decide +kernel
theorem dX12_readsPin_245 : decode cX12_readsPin 245 = .ok (.getfield 262, 3) := by decide +kernel
theorem dX12_readsPin_248 : decode cX12_readsPin 248 = .ok (.iaload, 1) := by decide +kernel
theorem dX12_readsPin_249 : decode cX12_readsPin 249 = .ok (.aload_n 0, 1) := by decide +kernel
theorem dX12_readsPin_250 : decode cX12_readsPin 250 = .ok (.getfield 95, 3) := by decide +kernel
theorem dX12_readsPin_253 : decode cX12_readsPin 253 = .ok (.aload_n 0, 1) := by decide +kernel
theorem dX12_readsPin_254 : decode cX12_readsPin 254 = .ok (.getfield 262, 3) := by decide +kernel
theorem dX12_readsPin_257 : decode cX12_readsPin 257 = .ok (.iaload, 1) := by decide +kernel
theorem dX12_readsPin_258 : decode cX12_readsPin 258 = .ok (.aload_n 0, 1) := by decide +kernel
theorem dX12_readsPin_259 : decode cX12_readsPin 259 = .ok (.getfield 89, 3) := by decide +kernel
theorem dX12_readsPin_262 : decode cX12_readsPin 262 = .ok (.aload_n 0, 1) := by decide +kernel
theorem dX12_readsPin_263 : decode cX12_readsPin 263 = .ok (.getfield 262, 3) := by decide +kernel
theorem dX12_readsPin_266 : decode cX12_readsPin 266 = .ok (.iaload, 1) := by decide +kernel
theorem dX12_readsPin_267 : decode cX12_readsPin 267 = .ok (.invokevirtual 265, 3) := by decide +kernel
theorem dX12_readsPin_270 : decode cX12_readsPin 270 = .ok (.ifCond .ne (-67), 3) := by decide +kernel
theorem dX12_readsPin_273 : decode cX12_readsPin 273 = .ok (.iconst 0, 1) := by decide +kernel
theorem dX12_readsPin_274 : decode cX12_readsPin 274 = .ok (.ireturn, 1) := by decide +kernel
theorem dX12_readsPin_275 : decode cX12_readsPin 275 = .ok (.iconst 1, 1) := by decide +kernel
theorem dX12_readsPin_276 : decode cX12_readsPin 276 = .ok (.ireturn, 1) := by decide +kernel
set_option maxHeartbeats 4000000 in
set_option maxRecDepth 100000 in
theorem kL_X12_readsPin_4 {X : GC} {E : GE} (C : Cx X E cX12_readsPin RX12 3 3) (o_t : Nat) (a_t : Nat → Nat) (t_toldDoors : Int32) (t_barredDoors : Int32) (t_taped : Int32) (t_number0 : Int32) (t_open : Int32) (t_codeMany : Int32) (t_waiting : Int32) (t_saidMany : Int32) (t_clauses : Int32) (t_lines : Int32) (t_wasTold : Int32) (t_wasBarred : Int32) (t_goesNow : Int32) (t_jamsNow : Int32) (t_queued : Int32) (t_isKept : Int32) (t_length0 : Int32) (t_fault : Int32) (t_newMany : Int32) (t_tape : (Nat → Int32)) (t_newPins : (Nat → Int32)) (k0 : Int32 × Int32 × Int32 × Int32 × (Nat → Int32) × (Nat → Int32) × (Nat → Int32) → Option (Int32 × Int32 × Int32 × Int32 × Int32 × Int32 × Int32 × (Nat → Int32) × (Nat → Int32) × (Nat → Int32) × (Nat → Int32))) (k1 : Int32 × Int32 × Int32 × Int32 × (Nat → Int32) × (Nat → Int32) × (Nat → Int32) → Option (Int32 × Int32 × Int32 × Int32 × Int32 × Int32 × Int32 × (Nat → Int32) × (Nat → Int32) × (Nat → Int32) × (Nat → Int32))) {r : Int32 × Int32 × Int32 × Int32 × Int32 × Int32 × Int32 × (Nat → Int32) × (Nat → Int32) × (Nat → Int32) × (Nat → Int32)} (hret : RtI X E cX12_readsPin .boolean 0 0 (fun w => w = (W_X12_readsPin E o_t a_t t_toldDoors t_barredDoors t_taped r.2.1 t_length0 r.2.2.1 t_number0 t_open t_codeMany t_waiting t_saidMany t_clauses r.2.2.2.1 r.2.2.2.2.1 r.2.2.2.2.2.1 r.2.2.2.2.2.2.1 t_lines t_wasTold t_wasBarred t_goesNow t_jamsNow t_queued t_isKept t_tape r.2.2.2.2.2.2.2.1 r.2.2.2.2.2.2.2.2.1 r.2.2.2.2.2.2.2.2.2.1 r.2.2.2.2.2.2.2.2.2.2)) r.1) (hk0 : ∀ u, k0 u = some r → Gx X E 0 0 (W_X12_readsPin E o_t a_t t_toldDoors t_barredDoors t_taped u.1 t_length0 t_fault t_number0 t_open t_codeMany t_waiting t_saidMany t_clauses t_newMany u.2.1 u.2.2.1 u.2.2.2.1 t_lines t_wasTold t_wasBarred t_goesNow t_jamsNow t_queued t_isKept t_tape t_newPins u.2.2.2.2.1 u.2.2.2.2.2.1 u.2.2.2.2.2.2) 21 [(0, .ref o_t)] []) (hk1 : ∀ u, k1 u = some r → Gx X E 0 0 (W_X12_readsPin E o_t a_t t_toldDoors t_barredDoors t_taped u.1 t_length0 t_fault t_number0 t_open t_codeMany t_waiting t_saidMany t_clauses t_newMany u.2.1 u.2.2.1 u.2.2.2.1 t_lines t_wasTold t_wasBarred t_goesNow t_jamsNow t_queued t_isKept t_tape t_newPins u.2.2.2.2.1 u.2.2.2.2.2.1 u.2.2.2.2.2.2) 97 [(0, .ref o_t)] []) : ∀ (n : Nat) (s : Int32 × Int32 × Int32 × Int32 × (Nat → Int32) × (Nat → Int32) × (Nat → Int32)), L_X12_readsPin_4 t_length0 t_fault t_newMany t_tape t_newPins k0 k1 n s = some r → Gx X E 0 0 (W_X12_readsPin E o_t a_t t_toldDoors t_barredDoors t_taped s.1 t_length0 t_fault t_number0 t_open t_codeMany t_waiting t_saidMany t_clauses t_newMany s.2.1 s.2.2.1 s.2.2.2.1 t_lines t_wasTold t_wasBarred t_goesNow t_jamsNow t_queued t_isKept t_tape t_newPins s.2.2.2.2.1 s.2.2.2.2.2.1 s.2.2.2.2.2.2) 4 [(0, .ref o_t)] [] := by
  unfold L_X12_readsPin_4
  refine lp_ind _ (fun go ih s h => ?_)
  refine g_aload_n (pc := 4) C dX12_readsPin_4 rfl 0 rfl ?_
  obtain ⟨u2, hu2, h⟩ := bs h
  refine g_callV (pc := 5) (st := []) (st1 := [.int u2]) (ws' := (W_X12_readsPin E o_t a_t t_toldDoors t_barredDoors t_taped s.1 t_length0 t_fault t_number0 t_open t_codeMany t_waiting t_saidMany t_clauses t_newMany s.2.1 s.2.2.1 s.2.2.2.1 t_lines t_wasTold t_wasBarred t_goesNow t_jamsNow t_queued t_isKept t_tape t_newPins s.2.2.2.2.1 s.2.2.2.2.2.1 s.2.2.2.2.2.2)) C mv_X12_here mi_X12_here ml_X12_152 (c_X12_here X.2.1 E o_t a_t t_toldDoors t_barredDoors t_taped s.1 t_length0 t_fault t_number0 t_open t_codeMany t_waiting t_saidMany t_clauses t_newMany s.2.1 s.2.2.1 s.2.2.2.1 t_lines t_wasTold t_wasBarred t_goesNow t_jamsNow t_queued t_isKept t_tape u2 hu2) dX12_readsPin_5 (by decide) rfl (Nat.le_of_ble_eq_true rfl) 0 11 rfl rfl [0, 1] rfl (by decide) rfl rfl rfl rfl ?_
  refine g_bipush (pc := 8) (v := 40) C dX12_readsPin_8 (by decide) ?_
  refine g_icmp_ne (pc := 10) (tgt := 97) C dX12_readsPin_10 (by decide) h (fun h => ?_) (fun h => ?_)
  · exact hk1 _ h
  · refine g_aload_n (pc := 13) C dX12_readsPin_13 rfl 0 rfl ?_
    refine g_get (pc := 14) C fl_X12_262 dX12_readsPin_14 0 rfl rfl ?_
    refine g_iconst (pc := 17) (v := 2) C dX12_readsPin_17 (by decide) ?_
    refine g_icmp_ne (pc := 18) (tgt := 31) C dX12_readsPin_18 (by decide) h (fun h => ?_) (fun h => ?_)
    · refine g_aload_n (pc := 31) C dX12_readsPin_31 rfl 0 rfl ?_
      refine g_get (pc := 32) C fl_X12_89 dX12_readsPin_32 0 rfl rfl ?_
      refine g_aload_n (pc := 35) C dX12_readsPin_35 rfl 0 rfl ?_
      refine g_get (pc := 36) C fl_X12_262 dX12_readsPin_36 0 rfl rfl ?_
      refine g_aload_n (pc := 39) C dX12_readsPin_39 rfl 0 rfl ?_
      refine g_get (pc := 40) C fl_X12_250 dX12_readsPin_40 0 rfl rfl ?_
      refine g_iast (pc := 43) C dX12_readsPin_43 3 rfl h (fun g3 h => ?_)
      refine g_ws (ws' := (W_X12_readsPin E o_t a_t t_toldDoors t_barredDoors t_taped s.1 t_length0 t_fault t_number0 t_open t_codeMany t_waiting t_saidMany t_clauses t_newMany s.2.1 s.2.2.1 s.2.2.2.1 t_lines t_wasTold t_wasBarred t_goesNow t_jamsNow t_queued t_isKept t_tape t_newPins g3 s.2.2.2.2.2.1 s.2.2.2.2.2.2)) rfl ?_
      refine g_aload_n (pc := 44) C dX12_readsPin_44 rfl 0 rfl ?_
      refine g_get (pc := 45) C fl_X12_92 dX12_readsPin_45 0 rfl rfl ?_
      refine g_aload_n (pc := 48) C dX12_readsPin_48 rfl 0 rfl ?_
      refine g_get (pc := 49) C fl_X12_262 dX12_readsPin_49 0 rfl rfl ?_
      refine g_aload_n (pc := 52) C dX12_readsPin_52 rfl 0 rfl ?_
      refine g_get (pc := 53) C fl_X12_256 dX12_readsPin_53 0 rfl rfl ?_
      refine g_iast (pc := 56) C dX12_readsPin_56 4 rfl h (fun g4 h => ?_)
      refine g_ws (ws' := (W_X12_readsPin E o_t a_t t_toldDoors t_barredDoors t_taped s.1 t_length0 t_fault t_number0 t_open t_codeMany t_waiting t_saidMany t_clauses t_newMany s.2.1 s.2.2.1 s.2.2.2.1 t_lines t_wasTold t_wasBarred t_goesNow t_jamsNow t_queued t_isKept t_tape t_newPins g3 g4 s.2.2.2.2.2.2)) rfl ?_
      refine g_aload_n (pc := 57) C dX12_readsPin_57 rfl 0 rfl ?_
      refine g_get (pc := 58) C fl_X12_95 dX12_readsPin_58 0 rfl rfl ?_
      refine g_aload_n (pc := 61) C dX12_readsPin_61 rfl 0 rfl ?_
      refine g_get (pc := 62) C fl_X12_262 dX12_readsPin_62 0 rfl rfl ?_
      refine g_aload_n (pc := 65) C dX12_readsPin_65 rfl 0 rfl ?_
      refine g_get (pc := 66) C fl_X12_253 dX12_readsPin_66 0 rfl rfl ?_
      refine g_iast (pc := 69) C dX12_readsPin_69 5 rfl h (fun g5 h => ?_)
      refine g_ws (ws' := (W_X12_readsPin E o_t a_t t_toldDoors t_barredDoors t_taped s.1 t_length0 t_fault t_number0 t_open t_codeMany t_waiting t_saidMany t_clauses t_newMany s.2.1 s.2.2.1 s.2.2.2.1 t_lines t_wasTold t_wasBarred t_goesNow t_jamsNow t_queued t_isKept t_tape t_newPins g3 g4 g5)) rfl ?_
      refine g_aload_n (pc := 70) C dX12_readsPin_70 rfl 0 rfl ?_
      refine g_aload_n (pc := 71) C dX12_readsPin_71 rfl 0 rfl ?_
      refine g_get (pc := 72) C fl_X12_262 dX12_readsPin_72 0 rfl rfl ?_
      refine g_iconst (pc := 75) (v := 1) C dX12_readsPin_75 (by decide) ?_
      refine g_iadd (pc := 76) C dX12_readsPin_76 ?_
      refine g_nm h (fun v6 h => ?_)
      refine g_put (pc := 77) (ws' := (W_X12_readsPin E o_t a_t t_toldDoors t_barredDoors t_taped s.1 t_length0 t_fault t_number0 t_open t_codeMany t_waiting t_saidMany t_clauses t_newMany v6 s.2.2.1 s.2.2.2.1 t_lines t_wasTold t_wasBarred t_goesNow t_jamsNow t_queued t_isKept t_tape t_newPins g3 g4 g5)) C .int fl_X12_262 dX12_readsPin_77 0 rfl (by decide +kernel) rfl rfl (Nat.le_of_ble_eq_true rfl) rfl ?_
      refine g_aload_n (pc := 80) C dX12_readsPin_80 rfl 0 rfl ?_
      refine g_aload_n (pc := 81) C dX12_readsPin_81 rfl 0 rfl ?_
      refine g_get (pc := 82) C fl_X12_146 dX12_readsPin_82 0 rfl rfl ?_
      refine g_iconst (pc := 85) (v := 1) C dX12_readsPin_85 (by decide) ?_
      refine g_iadd (pc := 86) C dX12_readsPin_86 ?_
      refine g_nm h (fun v7 h => ?_)
      refine g_put (pc := 87) (ws' := (W_X12_readsPin E o_t a_t t_toldDoors t_barredDoors t_taped v7 t_length0 t_fault t_number0 t_open t_codeMany t_waiting t_saidMany t_clauses t_newMany v6 s.2.2.1 s.2.2.2.1 t_lines t_wasTold t_wasBarred t_goesNow t_jamsNow t_queued t_isKept t_tape t_newPins g3 g4 g5)) C .int fl_X12_146 dX12_readsPin_87 0 rfl (by decide +kernel) rfl rfl (Nat.le_of_ble_eq_true rfl) rfl ?_
      refine g_aload_n (pc := 90) C dX12_readsPin_90 rfl 0 rfl ?_
      obtain ⟨u8, hu8, h⟩ := bs h
      refine g_callV (pc := 91) (st := []) (st1 := []) (ws' := (W_X12_readsPin E o_t a_t t_toldDoors t_barredDoors t_taped u8.1 t_length0 t_fault t_number0 t_open t_codeMany t_waiting t_saidMany t_clauses t_newMany v6 u8.2.1 u8.2.2 t_lines t_wasTold t_wasBarred t_goesNow t_jamsNow t_queued t_isKept t_tape t_newPins g3 g4 g5)) C mv_X12_readsTimes mi_X12_readsTimes ml_X12_259 (c_X12_readsTimes X.2.1 E o_t a_t t_toldDoors t_barredDoors t_taped v7 t_length0 t_fault t_number0 t_open t_codeMany t_waiting t_saidMany t_clauses t_newMany v6 s.2.2.1 s.2.2.2.1 t_lines t_wasTold t_wasBarred t_goesNow t_jamsNow t_queued t_isKept t_tape u8 hu8) dX12_readsPin_91 (by decide) rfl (Nat.le_of_ble_eq_true rfl) 0 11 rfl rfl [0, 1] rfl (by decide) rfl rfl rfl rfl ?_
      refine g_goto (pc := 94) (tgt := 4) C dX12_readsPin_94 (by decide) ?_
      exact ih _ h
    · exact hk0 _ h
set_option maxHeartbeats 4000000 in
set_option maxRecDepth 100000 in
theorem kL_X12_readsPin_203 {X : GC} {E : GE} (C : Cx X E cX12_readsPin RX12 3 3) (o_t : Nat) (a_t : Nat → Nat) (t_toldDoors : Int32) (t_barredDoors : Int32) (t_taped : Int32) (t_number0 : Int32) (t_open : Int32) (t_codeMany : Int32) (t_waiting : Int32) (t_saidMany : Int32) (t_clauses : Int32) (t_lines : Int32) (t_wasTold : Int32) (t_wasBarred : Int32) (t_goesNow : Int32) (t_jamsNow : Int32) (t_queued : Int32) (t_isKept : Int32) (t_length0 : Int32) (t_pinFrom : Int32) (t_pinTimes : Int32) (t_tape : (Nat → Int32)) (t_roundFrom : (Nat → Int32)) (t_roundAt : (Nat → Int32)) (t_roundTimes : (Nat → Int32)) {r : Int32 × Int32 × Int32 × Int32 × Int32 × Int32 × Int32 × (Nat → Int32) × (Nat → Int32) × (Nat → Int32) × (Nat → Int32)} (hret : RtI X E cX12_readsPin .boolean 0 0 (fun w => w = (W_X12_readsPin E o_t a_t t_toldDoors t_barredDoors t_taped r.2.1 t_length0 r.2.2.1 t_number0 t_open t_codeMany t_waiting t_saidMany t_clauses r.2.2.2.1 r.2.2.2.2.1 r.2.2.2.2.2.1 r.2.2.2.2.2.2.1 t_lines t_wasTold t_wasBarred t_goesNow t_jamsNow t_queued t_isKept t_tape r.2.2.2.2.2.2.2.1 r.2.2.2.2.2.2.2.2.1 r.2.2.2.2.2.2.2.2.2.1 r.2.2.2.2.2.2.2.2.2.2)) r.1) : ∀ (n : Nat) (s : Int32 × Int32 × Int32 × Int32 × (Nat → Int32)), L_X12_readsPin_203 t_length0 t_pinFrom t_pinTimes t_tape t_roundFrom t_roundAt t_roundTimes n s = some r → Gx X E 0 0 (W_X12_readsPin E o_t a_t t_toldDoors t_barredDoors t_taped s.1 t_length0 s.2.1 t_number0 t_open t_codeMany t_waiting t_saidMany t_clauses s.2.2.1 s.2.2.2.1 t_pinFrom t_pinTimes t_lines t_wasTold t_wasBarred t_goesNow t_jamsNow t_queued t_isKept t_tape s.2.2.2.2 t_roundFrom t_roundAt t_roundTimes) 203 [(0, .ref o_t)] [] := by
  unfold L_X12_readsPin_203
  refine lp_ind _ (fun go ih s h => ?_)
  refine g_aload_n (pc := 203) C dX12_readsPin_203 rfl 0 rfl ?_
  obtain ⟨u19, hu19, h⟩ := bs h
  refine g_callV (pc := 204) (st := []) (st1 := [.int u19]) (ws' := (W_X12_readsPin E o_t a_t t_toldDoors t_barredDoors t_taped s.1 t_length0 s.2.1 t_number0 t_open t_codeMany t_waiting t_saidMany t_clauses s.2.2.1 s.2.2.2.1 t_pinFrom t_pinTimes t_lines t_wasTold t_wasBarred t_goesNow t_jamsNow t_queued t_isKept t_tape s.2.2.2.2 t_roundFrom t_roundAt t_roundTimes)) C mv_X12_here mi_X12_here ml_X12_152 (c_X12_here X.2.1 E o_t a_t t_toldDoors t_barredDoors t_taped s.1 t_length0 s.2.1 t_number0 t_open t_codeMany t_waiting t_saidMany t_clauses s.2.2.1 s.2.2.2.1 t_pinFrom t_pinTimes t_lines t_wasTold t_wasBarred t_goesNow t_jamsNow t_queued t_isKept t_tape u19 hu19) dX12_readsPin_204 (by decide) rfl (Nat.le_of_ble_eq_true rfl) 0 11 rfl rfl [0, 1] rfl (by decide) rfl rfl rfl rfl ?_
  refine g_bipush (pc := 207) (v := 41) C dX12_readsPin_207 (by decide) ?_
  refine g_icmp_ne (pc := 209) (tgt := 275) C dX12_readsPin_209 (by decide) h (fun h => ?_) (fun h => ?_)
  · refine g_iconst (pc := 275) (v := 1) C dX12_readsPin_275 (by decide) ?_
    cases h
    exact hret _ _ _ dX12_readsPin_276 nb1 rfl
  · refine g_aload_n (pc := 212) C dX12_readsPin_212 rfl 0 rfl ?_
    refine g_get (pc := 213) C fl_X12_262 dX12_readsPin_213 0 rfl rfl ?_
    refine g_if_le (pc := 216) (tgt := 275) C dX12_readsPin_216 (by decide) h (fun h => ?_) (fun h => ?_)
    · refine g_iconst (pc := 275) (v := 1) C dX12_readsPin_275 (by decide) ?_
      cases h
      exact hret _ _ _ dX12_readsPin_276 nb1 rfl
    · refine g_aload_n (pc := 219) C dX12_readsPin_219 rfl 0 rfl ?_
      refine g_aload_n (pc := 220) C dX12_readsPin_220 rfl 0 rfl ?_
      refine g_get (pc := 221) C fl_X12_146 dX12_readsPin_221 0 rfl rfl ?_
      refine g_iconst (pc := 224) (v := 1) C dX12_readsPin_224 (by decide) ?_
      refine g_iadd (pc := 225) C dX12_readsPin_225 ?_
      refine g_nm h (fun v20 h => ?_)
      refine g_put (pc := 226) (ws' := (W_X12_readsPin E o_t a_t t_toldDoors t_barredDoors t_taped v20 t_length0 s.2.1 t_number0 t_open t_codeMany t_waiting t_saidMany t_clauses s.2.2.1 s.2.2.2.1 t_pinFrom t_pinTimes t_lines t_wasTold t_wasBarred t_goesNow t_jamsNow t_queued t_isKept t_tape s.2.2.2.2 t_roundFrom t_roundAt t_roundTimes)) C .int fl_X12_146 dX12_readsPin_226 0 rfl (by decide +kernel) rfl rfl (Nat.le_of_ble_eq_true rfl) rfl ?_
      refine g_aload_n (pc := 229) C dX12_readsPin_229 rfl 0 rfl ?_
      refine g_aload_n (pc := 230) C dX12_readsPin_230 rfl 0 rfl ?_
      refine g_get (pc := 231) C fl_X12_262 dX12_readsPin_231 0 rfl rfl ?_
      refine g_iconst (pc := 234) (v := 1) C dX12_readsPin_234 (by decide) ?_
      refine g_isub (pc := 235) C dX12_readsPin_235 ?_
      refine g_nm h (fun v21 h => ?_)
      refine g_put (pc := 236) (ws' := (W_X12_readsPin E o_t a_t t_toldDoors t_barredDoors t_taped v20 t_length0 s.2.1 t_number0 t_open t_codeMany t_waiting t_saidMany t_clauses s.2.2.1 v21 t_pinFrom t_pinTimes t_lines t_wasTold t_wasBarred t_goesNow t_jamsNow t_queued t_isKept t_tape s.2.2.2.2 t_roundFrom t_roundAt t_roundTimes)) C .int fl_X12_262 dX12_readsPin_236 0 rfl (by decide +kernel) rfl rfl (Nat.le_of_ble_eq_true rfl) rfl ?_
      refine g_aload_n (pc := 239) C dX12_readsPin_239 rfl 0 rfl ?_
      refine g_aload_n (pc := 240) C dX12_readsPin_240 rfl 0 rfl ?_
      refine g_get (pc := 241) C fl_X12_92 dX12_readsPin_241 0 rfl rfl ?_
      refine g_aload_n (pc := 244) C dX12_readsPin_244 rfl 0 rfl ?_
      refine g_get (pc := 245) C fl_X12_262 dX12_readsPin_245 0 rfl rfl ?_
      refine g_iald (pc := 248) C dX12_readsPin_248 4 rfl h (fun v22 h => ?_)
      refine g_aload_n (pc := 249) C dX12_readsPin_249 rfl 0 rfl ?_
      refine g_get (pc := 250) C fl_X12_95 dX12_readsPin_250 0 rfl rfl ?_
      refine g_aload_n (pc := 253) C dX12_readsPin_253 rfl 0 rfl ?_
      refine g_get (pc := 254) C fl_X12_262 dX12_readsPin_254 0 rfl rfl ?_
      refine g_iald (pc := 257) C dX12_readsPin_257 5 rfl h (fun v23 h => ?_)
      refine g_aload_n (pc := 258) C dX12_readsPin_258 rfl 0 rfl ?_
      refine g_get (pc := 259) C fl_X12_89 dX12_readsPin_259 0 rfl rfl ?_
      refine g_aload_n (pc := 262) C dX12_readsPin_262 rfl 0 rfl ?_
      refine g_get (pc := 263) C fl_X12_262 dX12_readsPin_263 0 rfl rfl ?_
      refine g_iald (pc := 266) C dX12_readsPin_266 3 rfl h (fun v24 h => ?_)
      obtain ⟨u25, hu25, h⟩ := bs h
      refine g_callV (pc := 267) (st := []) (st1 := [.int u25.1]) (ws' := (W_X12_readsPin E o_t a_t t_toldDoors t_barredDoors t_taped v20 t_length0 u25.2.1 t_number0 t_open t_codeMany t_waiting t_saidMany t_clauses u25.2.2.1 v21 t_pinFrom t_pinTimes t_lines t_wasTold t_wasBarred t_goesNow t_jamsNow t_queued t_isKept t_tape u25.2.2.2 t_roundFrom t_roundAt t_roundTimes)) C mv_X12_repeats mi_X12_repeats ml_X12_265 (c_X12_repeats X.2.1 E o_t a_t t_toldDoors t_barredDoors t_taped v20 t_length0 s.2.1 t_number0 t_open t_codeMany t_waiting t_saidMany t_clauses s.2.2.1 v21 t_pinFrom t_pinTimes t_lines t_wasTold t_wasBarred t_goesNow t_jamsNow t_queued t_isKept s.2.2.2.2 v22 v23 v24 u25 hu25) dX12_readsPin_267 (by decide) rfl (Nat.le_of_ble_eq_true rfl) 0 11 rfl rfl [0, 2] rfl (by decide) rfl rfl rfl rfl ?_
      refine g_if_ne (pc := 270) (tgt := 203) C dX12_readsPin_270 (by decide) h (fun h => ?_) (fun h => ?_)
      · exact ih _ h
      · refine g_iconst (pc := 273) (v := 0) C dX12_readsPin_273 (by decide) ?_
        cases h
        exact hret _ _ _ dX12_readsPin_274 nb0 rfl
set_option maxHeartbeats 4000000 in
set_option maxRecDepth 100000 in
theorem c_X12_readsPin (l : Launch) (E : GE) (o_t : Nat) (a_t : Nat → Nat) (t_toldDoors : Int32) (t_barredDoors : Int32) (t_taped : Int32) (t_place0 : Int32) (t_length0 : Int32) (t_fault : Int32) (t_number0 : Int32) (t_open : Int32) (t_codeMany : Int32) (t_waiting : Int32) (t_saidMany : Int32) (t_clauses : Int32) (t_newMany : Int32) (t_rounds : Int32) (t_pinFrom : Int32) (t_pinTimes : Int32) (t_lines : Int32) (t_wasTold : Int32) (t_wasBarred : Int32) (t_goesNow : Int32) (t_jamsNow : Int32) (t_queued : Int32) (t_isKept : Int32) (t_tape : (Nat → Int32)) (t_newPins : (Nat → Int32)) (t_roundFrom : (Nat → Int32)) (t_roundAt : (Nat → Int32)) (t_roundTimes : (Nat → Int32)) (r : Int32 × Int32 × Int32 × Int32 × Int32 × Int32 × Int32 × (Nat → Int32) × (Nat → Int32) × (Nat → Int32) × (Nat → Int32)) (h : f_X12_readsPin t_place0 t_length0 t_fault t_newMany t_rounds t_pinFrom t_pinTimes t_tape t_newPins t_roundFrom t_roundAt t_roundTimes = some r) : Cn l E yX12_readsPin cX12_readsPin 3 (some .boolean) 3 0 0 [.ref o_t] (W_X12_readsPin E o_t a_t t_toldDoors t_barredDoors t_taped t_place0 t_length0 t_fault t_number0 t_open t_codeMany t_waiting t_saidMany t_clauses t_newMany t_rounds t_pinFrom t_pinTimes t_lines t_wasTold t_wasBarred t_goesNow t_jamsNow t_queued t_isKept t_tape t_newPins t_roundFrom t_roundAt t_roundTimes) (fun w => w = (W_X12_readsPin E o_t a_t t_toldDoors t_barredDoors t_taped r.2.1 t_length0 r.2.2.1 t_number0 t_open t_codeMany t_waiting t_saidMany t_clauses r.2.2.2.1 r.2.2.2.2.1 r.2.2.2.2.2.1 r.2.2.2.2.2.2.1 t_lines t_wasTold t_wasBarred t_goesNow t_jamsNow t_queued t_isKept t_tape r.2.2.2.2.2.2.2.1 r.2.2.2.2.2.2.2.2.1 r.2.2.2.2.2.2.2.2.2.1 r.2.2.2.2.2.2.2.2.2.2)) (some (.int r.1)) := by
  refine Cn.ofI (by decide +kernel) (Nat.le_of_ble_eq_true rfl) (fun X hX hR C hret => ?_)
  subst hX
  show Gx X E 0 0 (W_X12_readsPin E o_t a_t t_toldDoors t_barredDoors t_taped t_place0 t_length0 t_fault t_number0 t_open t_codeMany t_waiting t_saidMany t_clauses t_newMany t_rounds t_pinFrom t_pinTimes t_lines t_wasTold t_wasBarred t_goesNow t_jamsNow t_queued t_isKept t_tape t_newPins t_roundFrom t_roundAt t_roundTimes) 0 [(0, .ref o_t)] []
  unfold f_X12_readsPin at h
  refine g_aload_n (pc := 0) C dX12_readsPin_0 rfl 0 rfl ?_
  obtain ⟨u1, hu1, h⟩ := bs h
  refine g_callV (pc := 1) (st := []) (st1 := []) (ws' := (W_X12_readsPin E o_t a_t t_toldDoors t_barredDoors t_taped u1.1 t_length0 t_fault t_number0 t_open t_codeMany t_waiting t_saidMany t_clauses t_newMany t_rounds u1.2.1 u1.2.2 t_lines t_wasTold t_wasBarred t_goesNow t_jamsNow t_queued t_isKept t_tape t_newPins t_roundFrom t_roundAt t_roundTimes)) C mv_X12_readsTimes mi_X12_readsTimes ml_X12_259 (c_X12_readsTimes X.2.1 E o_t a_t t_toldDoors t_barredDoors t_taped t_place0 t_length0 t_fault t_number0 t_open t_codeMany t_waiting t_saidMany t_clauses t_newMany t_rounds t_pinFrom t_pinTimes t_lines t_wasTold t_wasBarred t_goesNow t_jamsNow t_queued t_isKept t_tape u1 hu1) dX12_readsPin_1 (by decide) rfl (Nat.le_of_ble_eq_true rfl) 0 11 rfl rfl [0, 1] rfl (by decide) rfl rfl rfl rfl ?_
  refine kL_X12_readsPin_4 C o_t a_t t_toldDoors t_barredDoors t_taped t_number0 t_open t_codeMany t_waiting t_saidMany t_clauses t_lines t_wasTold t_wasBarred t_goesNow t_jamsNow t_queued t_isKept t_length0 t_fault t_newMany t_tape t_newPins _ _ hret (fun s9 h => ?_) (fun s11 h => ?_) _ _ h
  · refine g_aload_n (pc := 21) C dX12_readsPin_21 rfl 0 rfl ?_
    refine g_iconst (pc := 22) (v := 5) C dX12_readsPin_22 (by decide) ?_
    refine g_aload_n (pc := 23) C dX12_readsPin_23 rfl 0 rfl ?_
    refine g_get (pc := 24) C fl_X12_146 dX12_readsPin_24 0 rfl rfl ?_
    obtain ⟨u10, hu10, h⟩ := bs h
    refine g_callV (pc := 27) (st := []) (st1 := [.int u10.1]) (ws' := (W_X12_readsPin E o_t a_t t_toldDoors t_barredDoors t_taped s9.1 t_length0 u10.2 t_number0 t_open t_codeMany t_waiting t_saidMany t_clauses t_newMany s9.2.1 s9.2.2.1 s9.2.2.2.1 t_lines t_wasTold t_wasBarred t_goesNow t_jamsNow t_queued t_isKept t_tape t_newPins s9.2.2.2.2.1 s9.2.2.2.2.2.1 s9.2.2.2.2.2.2)) C mv_X12_wrongAt mi_X12_wrongAt ml_X12_159 (c_X12_wrongAt X.2.1 E o_t a_t t_toldDoors t_barredDoors t_taped s9.1 t_length0 t_fault t_number0 t_open t_codeMany t_waiting t_saidMany t_clauses t_newMany s9.2.1 s9.2.2.1 s9.2.2.2.1 t_lines t_wasTold t_wasBarred t_goesNow t_jamsNow t_queued t_isKept (5 : Int32) s9.1 u10 hu10) dX12_readsPin_27 (by decide) rfl (Nat.le_of_ble_eq_true rfl) 0 11 rfl rfl [0] rfl (by decide) rfl rfl rfl rfl ?_
    obtain ⟨hgb, h⟩ := gb_is h
    cases h
    exact hret _ _ _ dX12_readsPin_30 hgb rfl
  · refine g_aload_n (pc := 97) C dX12_readsPin_97 rfl 0 rfl ?_
    refine g_get (pc := 98) C fl_X12_250 dX12_readsPin_98 0 rfl rfl ?_
    refine g_istore_n (pc := 101) (lv' := [(1, .int s11.2.2.1), (0, .ref o_t)]) C dX12_readsPin_101 rfl (by decide) rfl ?_
    refine g_aload_n (pc := 102) C dX12_readsPin_102 rfl 1 rfl ?_
    refine g_get (pc := 103) C fl_X12_253 dX12_readsPin_103 0 rfl rfl ?_
    refine g_istore_n (pc := 106) (lv' := [(2, .int s11.2.2.2.1), (1, .int s11.2.2.1), (0, .ref o_t)]) C dX12_readsPin_106 rfl (by decide) rfl ?_
    refine g_aload_n (pc := 107) C dX12_readsPin_107 rfl 2 rfl ?_
    obtain ⟨u12, hu12, h⟩ := bs h
    refine g_callV (pc := 108) (st := []) (st1 := [.int u12]) (ws' := (W_X12_readsPin E o_t a_t t_toldDoors t_barredDoors t_taped s11.1 t_length0 t_fault t_number0 t_open t_codeMany t_waiting t_saidMany t_clauses t_newMany s11.2.1 s11.2.2.1 s11.2.2.2.1 t_lines t_wasTold t_wasBarred t_goesNow t_jamsNow t_queued t_isKept t_tape t_newPins s11.2.2.2.2.1 s11.2.2.2.2.2.1 s11.2.2.2.2.2.2)) C mv_X12_here mi_X12_here ml_X12_152 (c_X12_here X.2.1 E o_t a_t t_toldDoors t_barredDoors t_taped s11.1 t_length0 t_fault t_number0 t_open t_codeMany t_waiting t_saidMany t_clauses t_newMany s11.2.1 s11.2.2.1 s11.2.2.2.1 t_lines t_wasTold t_wasBarred t_goesNow t_jamsNow t_queued t_isKept t_tape u12 hu12) dX12_readsPin_108 (by decide) rfl (Nat.le_of_ble_eq_true rfl) 0 11 rfl rfl [0, 1] rfl (by decide) rfl rfl rfl rfl ?_
    refine g_bipush (pc := 111) (v := 97) C dX12_readsPin_111 (by decide) ?_
    refine g_bipush (pc := 113) (v := 102) C dX12_readsPin_113 (by decide) ?_
    obtain ⟨u13, hu13, h⟩ := bs h
    refine g_callS (pc := 115) (st := []) (st1 := [.int u13]) (ws' := (W_X12_readsPin E o_t a_t t_toldDoors t_barredDoors t_taped s11.1 t_length0 t_fault t_number0 t_open t_codeMany t_waiting t_saidMany t_clauses t_newMany s11.2.1 s11.2.2.1 s11.2.2.2.1 t_lines t_wasTold t_wasBarred t_goesNow t_jamsNow t_queued t_isKept t_tape t_newPins s11.2.2.2.2.1 s11.2.2.2.2.2.1 s11.2.2.2.2.2.2)) C mv_X12_in ms_X12_in ml_X12_117 (c_X12_in X.2.1 E u12 (97 : Int32) (102 : Int32) u13 hu13) dX12_readsPin_115 (by decide) rfl (Nat.le_of_ble_eq_true rfl) [] rfl (by decide) rfl rfl rfl rfl ?_
    refine g_if_ne (pc := 118) (tgt := 131) C dX12_readsPin_118 (by decide) h (fun h => ?_) (fun h => ?_)
    · refine g_aload_n (pc := 131) C dX12_readsPin_131 rfl 2 rfl ?_
      refine g_get (pc := 132) C fl_X12_256 dX12_readsPin_132 0 rfl rfl ?_
      refine g_iload_n (pc := 135) C dX12_readsPin_135 rfl 0 rfl ?_
      refine g_iadd (pc := 136) C dX12_readsPin_136 ?_
      refine g_bipush (pc := 137) (v := 60) C dX12_readsPin_137 (by decide) ?_
      refine g_icmp_le (pc := 139) (tgt := 150) C dX12_readsPin_139 (by decide) h (fun h => ?_) (fun h => ?_)
      · refine g_aload_n (pc := 150) C dX12_readsPin_150 rfl 2 rfl ?_
        refine g_get (pc := 151) C fl_X12_86 dX12_readsPin_151 0 rfl rfl ?_
        refine g_aload_n (pc := 154) C dX12_readsPin_154 rfl 2 rfl ?_
        refine g_get (pc := 155) C fl_X12_256 dX12_readsPin_155 0 rfl rfl ?_
        refine g_aload_n (pc := 158) C dX12_readsPin_158 rfl 2 rfl ?_
        obtain ⟨u14, hu14, h⟩ := bs h
        refine g_callV (pc := 159) (st := [.int t_newMany, .ref (a_t 37)]) (st1 := [.int u14, .int t_newMany, .ref (a_t 37)]) (ws' := (W_X12_readsPin E o_t a_t t_toldDoors t_barredDoors t_taped s11.1 t_length0 t_fault t_number0 t_open t_codeMany t_waiting t_saidMany t_clauses t_newMany s11.2.1 s11.2.2.1 s11.2.2.2.1 t_lines t_wasTold t_wasBarred t_goesNow t_jamsNow t_queued t_isKept t_tape t_newPins s11.2.2.2.2.1 s11.2.2.2.2.2.1 s11.2.2.2.2.2.2)) C mv_X12_here mi_X12_here ml_X12_152 (c_X12_here X.2.1 E o_t a_t t_toldDoors t_barredDoors t_taped s11.1 t_length0 t_fault t_number0 t_open t_codeMany t_waiting t_saidMany t_clauses t_newMany s11.2.1 s11.2.2.1 s11.2.2.2.1 t_lines t_wasTold t_wasBarred t_goesNow t_jamsNow t_queued t_isKept t_tape u14 hu14) dX12_readsPin_159 (by decide) rfl (Nat.le_of_ble_eq_true rfl) 0 11 rfl rfl [0, 1] rfl (by decide) rfl rfl rfl rfl ?_
        refine g_bipush (pc := 162) (v := 97) C dX12_readsPin_162 (by decide) ?_
        refine g_isub (pc := 164) C dX12_readsPin_164 ?_
        refine g_iast (pc := 165) C dX12_readsPin_165 2 rfl h (fun g15 h => ?_)
        refine g_ws (ws' := (W_X12_readsPin E o_t a_t t_toldDoors t_barredDoors t_taped s11.1 t_length0 t_fault t_number0 t_open t_codeMany t_waiting t_saidMany t_clauses t_newMany s11.2.1 s11.2.2.1 s11.2.2.2.1 t_lines t_wasTold t_wasBarred t_goesNow t_jamsNow t_queued t_isKept t_tape g15 s11.2.2.2.2.1 s11.2.2.2.2.2.1 s11.2.2.2.2.2.2)) rfl ?_
        refine g_aload_n (pc := 166) C dX12_readsPin_166 rfl 2 rfl ?_
        refine g_aload_n (pc := 167) C dX12_readsPin_167 rfl 2 rfl ?_
        refine g_get (pc := 168) C fl_X12_146 dX12_readsPin_168 0 rfl rfl ?_
        refine g_iconst (pc := 171) (v := 1) C dX12_readsPin_171 (by decide) ?_
        refine g_iadd (pc := 172) C dX12_readsPin_172 ?_
        refine g_nm h (fun v16 h => ?_)
        refine g_put (pc := 173) (ws' := (W_X12_readsPin E o_t a_t t_toldDoors t_barredDoors t_taped v16 t_length0 t_fault t_number0 t_open t_codeMany t_waiting t_saidMany t_clauses t_newMany s11.2.1 s11.2.2.1 s11.2.2.2.1 t_lines t_wasTold t_wasBarred t_goesNow t_jamsNow t_queued t_isKept t_tape g15 s11.2.2.2.2.1 s11.2.2.2.2.2.1 s11.2.2.2.2.2.2)) C .int fl_X12_146 dX12_readsPin_173 0 rfl (by decide +kernel) rfl rfl (Nat.le_of_ble_eq_true rfl) rfl ?_
        refine g_aload_n (pc := 176) C dX12_readsPin_176 rfl 2 rfl ?_
        refine g_aload_n (pc := 177) C dX12_readsPin_177 rfl 2 rfl ?_
        refine g_get (pc := 178) C fl_X12_256 dX12_readsPin_178 0 rfl rfl ?_
        refine g_iconst (pc := 181) (v := 1) C dX12_readsPin_181 (by decide) ?_
        refine g_iadd (pc := 182) C dX12_readsPin_182 ?_
        refine g_nm h (fun v17 h => ?_)
        refine g_put (pc := 183) (ws' := (W_X12_readsPin E o_t a_t t_toldDoors t_barredDoors t_taped v16 t_length0 t_fault t_number0 t_open t_codeMany t_waiting t_saidMany t_clauses v17 s11.2.1 s11.2.2.1 s11.2.2.2.1 t_lines t_wasTold t_wasBarred t_goesNow t_jamsNow t_queued t_isKept t_tape g15 s11.2.2.2.2.1 s11.2.2.2.2.2.1 s11.2.2.2.2.2.2)) C .int fl_X12_256 dX12_readsPin_183 0 rfl (by decide +kernel) rfl rfl (Nat.le_of_ble_eq_true rfl) rfl ?_
        refine g_aload_n (pc := 186) C dX12_readsPin_186 rfl 2 rfl ?_
        refine g_aload_n (pc := 187) C dX12_readsPin_187 rfl 2 rfl ?_
        refine g_get (pc := 188) C fl_X12_256 dX12_readsPin_188 0 rfl rfl ?_
        refine g_iconst (pc := 191) (v := 1) C dX12_readsPin_191 (by decide) ?_
        refine g_isub (pc := 192) C dX12_readsPin_192 ?_
        refine g_iload_n (pc := 193) C dX12_readsPin_193 rfl 0 rfl ?_
        refine g_iload_n (pc := 194) C dX12_readsPin_194 rfl 1 rfl ?_
        obtain ⟨u18, hu18, h⟩ := bs h
        refine g_callV (pc := 195) (st := []) (st1 := [.int u18.1]) (ws' := (W_X12_readsPin E o_t a_t t_toldDoors t_barredDoors t_taped v16 t_length0 u18.2.1 t_number0 t_open t_codeMany t_waiting t_saidMany t_clauses u18.2.2.1 s11.2.1 s11.2.2.1 s11.2.2.2.1 t_lines t_wasTold t_wasBarred t_goesNow t_jamsNow t_queued t_isKept t_tape u18.2.2.2 s11.2.2.2.2.1 s11.2.2.2.2.2.1 s11.2.2.2.2.2.2)) C mv_X12_repeats mi_X12_repeats ml_X12_265 (c_X12_repeats X.2.1 E o_t a_t t_toldDoors t_barredDoors t_taped v16 t_length0 t_fault t_number0 t_open t_codeMany t_waiting t_saidMany t_clauses v17 s11.2.1 s11.2.2.1 s11.2.2.2.1 t_lines t_wasTold t_wasBarred t_goesNow t_jamsNow t_queued t_isKept g15 (v17 - (1 : Int32)) s11.2.2.2.1 s11.2.2.1 u18 hu18) dX12_readsPin_195 (by decide) rfl (Nat.le_of_ble_eq_true rfl) 0 11 rfl rfl [0, 2] rfl (by decide) rfl rfl rfl rfl ?_
        refine g_if_ne (pc := 198) (tgt := 203) C dX12_readsPin_198 (by decide) h (fun h => ?_) (fun h => ?_)
        · refine g_sub [2] rfl ?_
          refine kL_X12_readsPin_203 C o_t a_t t_toldDoors t_barredDoors t_taped t_number0 t_open t_codeMany t_waiting t_saidMany t_clauses t_lines t_wasTold t_wasBarred t_goesNow t_jamsNow t_queued t_isKept t_length0 s11.2.2.1 s11.2.2.2.1 t_tape s11.2.2.2.2.1 s11.2.2.2.2.2.1 s11.2.2.2.2.2.2 hret  _ _ h
        · refine g_iconst (pc := 201) (v := 0) C dX12_readsPin_201 (by decide) ?_
          cases h
          exact hret _ _ _ dX12_readsPin_202 nb0 rfl
      · refine g_aload_n (pc := 142) C dX12_readsPin_142 rfl 2 rfl ?_
        refine g_bipush (pc := 143) (v := 6) C dX12_readsPin_143 (by decide) ?_
        refine g_iload_n (pc := 145) C dX12_readsPin_145 rfl 1 rfl ?_
        obtain ⟨u26, hu26, h⟩ := bs h
        refine g_callV (pc := 146) (st := []) (st1 := [.int u26.1]) (ws' := (W_X12_readsPin E o_t a_t t_toldDoors t_barredDoors t_taped s11.1 t_length0 u26.2 t_number0 t_open t_codeMany t_waiting t_saidMany t_clauses t_newMany s11.2.1 s11.2.2.1 s11.2.2.2.1 t_lines t_wasTold t_wasBarred t_goesNow t_jamsNow t_queued t_isKept t_tape t_newPins s11.2.2.2.2.1 s11.2.2.2.2.2.1 s11.2.2.2.2.2.2)) C mv_X12_wrongAt mi_X12_wrongAt ml_X12_159 (c_X12_wrongAt X.2.1 E o_t a_t t_toldDoors t_barredDoors t_taped s11.1 t_length0 t_fault t_number0 t_open t_codeMany t_waiting t_saidMany t_clauses t_newMany s11.2.1 s11.2.2.1 s11.2.2.2.1 t_lines t_wasTold t_wasBarred t_goesNow t_jamsNow t_queued t_isKept (6 : Int32) s11.2.2.1 u26 hu26) dX12_readsPin_146 (by decide) rfl (Nat.le_of_ble_eq_true rfl) 0 11 rfl rfl [0] rfl (by decide) rfl rfl rfl rfl ?_
        obtain ⟨hgb, h⟩ := gb_is h
        cases h
        exact hret _ _ _ dX12_readsPin_149 hgb rfl
    · refine g_aload_n (pc := 121) C dX12_readsPin_121 rfl 2 rfl ?_
      refine g_iconst (pc := 122) (v := 1) C dX12_readsPin_122 (by decide) ?_
      refine g_aload_n (pc := 123) C dX12_readsPin_123 rfl 2 rfl ?_
      refine g_get (pc := 124) C fl_X12_146 dX12_readsPin_124 0 rfl rfl ?_
      obtain ⟨u27, hu27, h⟩ := bs h
      refine g_callV (pc := 127) (st := []) (st1 := [.int u27.1]) (ws' := (W_X12_readsPin E o_t a_t t_toldDoors t_barredDoors t_taped s11.1 t_length0 u27.2 t_number0 t_open t_codeMany t_waiting t_saidMany t_clauses t_newMany s11.2.1 s11.2.2.1 s11.2.2.2.1 t_lines t_wasTold t_wasBarred t_goesNow t_jamsNow t_queued t_isKept t_tape t_newPins s11.2.2.2.2.1 s11.2.2.2.2.2.1 s11.2.2.2.2.2.2)) C mv_X12_wrongAt mi_X12_wrongAt ml_X12_159 (c_X12_wrongAt X.2.1 E o_t a_t t_toldDoors t_barredDoors t_taped s11.1 t_length0 t_fault t_number0 t_open t_codeMany t_waiting t_saidMany t_clauses t_newMany s11.2.1 s11.2.2.1 s11.2.2.2.1 t_lines t_wasTold t_wasBarred t_goesNow t_jamsNow t_queued t_isKept (1 : Int32) s11.1 u27 hu27) dX12_readsPin_127 (by decide) rfl (Nat.le_of_ble_eq_true rfl) 0 11 rfl rfl [0] rfl (by decide) rfl rfl rfl rfl ?_
      obtain ⟨hgb, h⟩ := gb_is h
      cases h
      exact hret _ _ _ dX12_readsPin_130 hgb rfl
abbrev W_X12_readsWithin (E : GE) (O_t : Nat) (a_t : Nat → Nat) (t_toldDoors : Int32) (t_barredDoors : Int32) (t_taped : Int32) (t_place0 : Int32) (t_length0 : Int32) (t_fault : Int32) (t_number0 : Int32) (t_open : Int32) (t_codeMany : Int32) (t_waiting : Int32) (t_saidMany : Int32) (t_clauses : Int32) (t_newMany : Int32) (t_rounds : Int32) (t_pinFrom : Int32) (t_pinTimes : Int32) (t_lines : Int32) (t_wasTold : Int32) (t_wasBarred : Int32) (t_goesNow : Int32) (t_jamsNow : Int32) (t_queued : Int32) (t_isKept : Int32) (t_tape : (Nat → Int32)) : va_W := [(O_t, ob_X12 a_t t_toldDoors t_barredDoors t_taped t_place0 t_length0 t_fault t_number0 t_open t_codeMany t_waiting t_saidMany t_clauses t_newMany t_rounds t_pinFrom t_pinTimes t_lines t_wasTold t_wasBarred t_goesNow t_jamsNow t_queued t_isKept), (a_t 13, .inl (E.2.2.1, 260, .inl t_tape))]
def L_X12_readsWithin_27 (t_length0 : Int32) (t_fault : Int32) (t_tape : (Nat → Int32)) (x1 : Int32) (x2 : Int32) (k0 : Int32 × Int32 → Option (Int32 × Int32 × Int32 × Int32)) (k1 : Int32 × Int32 → Option (Int32 × Int32 × Int32 × Int32)) : Nat → Int32 × Int32 → Option (Int32 × Int32 × Int32 × Int32) := lp fun go s => (f_X12_isDigit s.1 t_length0 t_tape).bind fun u2 => if u2 = 0 then (k1 (s.1, s.2)) else if s.1 = (x2 + (2 : Int32)) then (k0 (s.1, s.2)) else (f_X12_here s.1 t_length0 t_tape).bind fun u3 => nm ((((10 : Int32) * s.2) + u3) - (48 : Int32)) fun v4 => nm (s.1 + (1 : Int32)) fun v5 => go (v5, v4)
def f_X12_readsWithin (t_place0 : Int32) (t_length0 : Int32) (t_fault : Int32) (t_number0 : Int32) (t_tape : (Nat → Int32)) (x1 : Int32) : Option (Int32 × Int32 × Int32 × Int32) := (f_X12_isDigit t_place0 t_length0 t_tape).bind fun u1 => if u1 = 0 then ((f_X12_wrongAt t_fault (1 : Int32) t_place0).bind fun u10 => gb u10.1 <| some (u10.1, t_place0, u10.2, t_number0)) else L_X12_readsWithin_27 t_length0 t_fault t_tape x1 t_place0 (fun s6 => (f_X12_wrongAt t_fault (2 : Int32) s6.1).bind fun u7 => gb u7.1 <| some (u7.1, s6.1, u7.2, s6.2)) (fun s8 => if s8.2 ≤ x1 then (some ((1 : Int32), s8.1, t_fault, s8.2)) else (f_X12_wrongAt t_fault (3 : Int32) t_place0).bind fun u9 => if u9.1 = 0 then (some ((0 : Int32), s8.1, u9.2, s8.2)) else some ((1 : Int32), s8.1, u9.2, s8.2)) fu (t_place0, (0 : Int32))
theorem dX12_readsWithin_0 : decode cX12_readsWithin 0 = .ok (.aload_n 0, 1) := by decide +kernel
theorem dX12_readsWithin_1 : decode cX12_readsWithin 1 = .ok (.getfield 146, 3) := by decide +kernel
theorem dX12_readsWithin_4 : decode cX12_readsWithin 4 = .ok (.istore_n 2, 1) := by decide +kernel
theorem dX12_readsWithin_5 : decode cX12_readsWithin 5 = .ok (.aload_n 0, 1) := by decide +kernel
theorem dX12_readsWithin_6 : decode cX12_readsWithin 6 = .ok (.invokevirtual 165, 3) := by decide +kernel
theorem dX12_readsWithin_9 : decode cX12_readsWithin 9 = .ok (.ifCond .ne 13, 3) := by decide +kernel
theorem dX12_readsWithin_12 : decode cX12_readsWithin 12 = .ok (.aload_n 0, 1) := by decide +kernel
theorem dX12_readsWithin_13 : decode cX12_readsWithin 13 = .ok (.iconst 1, 1) := by decide +kernel
theorem dX12_readsWithin_14 : decode cX12_readsWithin 14 = .ok (.aload_n 0, 1) := by decide +kernel
theorem dX12_readsWithin_15 : decode cX12_readsWithin 15 = .ok (.getfield 146, 3) := by decide +kernel
theorem dX12_readsWithin_18 : decode cX12_readsWithin 18 = .ok (.invokevirtual 159, 3) := by decide +kernel
theorem dX12_readsWithin_21 : decode cX12_readsWithin 21 = .ok (.ireturn, 1) := by decide +kernel
theorem dX12_readsWithin_22 : decode cX12_readsWithin 22 = .ok (.aload_n 0, 1) := by decide +kernel
theorem dX12_readsWithin_23 : decode cX12_readsWithin 23 = .ok (.iconst 0, 1) := by decide +kernel
theorem dX12_readsWithin_24 : decode cX12_readsWithin 24 = .ok (.putfield 162, 3) := by decide +kernel
theorem dX12_readsWithin_27 : decode cX12_readsWithin 27 = .ok (.aload_n 0, 1) := by decide +kernel
theorem dX12_readsWithin_28 : decode cX12_readsWithin 28 = .ok (.invokevirtual 165, 3) := by decide +kernel
theorem dX12_readsWithin_31 : decode cX12_readsWithin 31 = .ok (.ifCond .eq 55, 3) := by decide +kernel
theorem dX12_readsWithin_34 : decode cX12_readsWithin 34 = .ok (.aload_n 0, 1) := by decide +kernel
theorem dX12_readsWithin_35 : decode cX12_readsWithin 35 = .ok (.getfield 146, 3) := by decide +kernel
theorem dX12_readsWithin_38 : decode cX12_readsWithin 38 = .ok (.iload_n 2, 1) := by decide +kernel
theorem dX12_readsWithin_39 : decode cX12_readsWithin 39 = .ok (.iconst 2, 1) := by decide +kernel
theorem dX12_readsWithin_40 : decode cX12_readsWithin 40 = .ok (.iadd, 1) := by decide +kernel
theorem dX12_readsWithin_41 : decode cX12_readsWithin 41 = .ok (.if_icmp .ne 13, 3) := by decide +kernel
theorem dX12_readsWithin_44 : decode cX12_readsWithin 44 = .ok (.aload_n 0, 1) := by decide +kernel
theorem dX12_readsWithin_45 : decode cX12_readsWithin 45 = .ok (.iconst 2, 1) := by decide +kernel
theorem dX12_readsWithin_46 : decode cX12_readsWithin 46 = .ok (.aload_n 0, 1) := by decide +kernel
theorem dX12_readsWithin_47 : decode cX12_readsWithin 47 = .ok (.getfield 146, 3) := by decide +kernel
theorem dX12_readsWithin_50 : decode cX12_readsWithin 50 = .ok (.invokevirtual 159, 3) := by decide +kernel
theorem dX12_readsWithin_53 : decode cX12_readsWithin 53 = .ok (.ireturn, 1) := by decide +kernel
theorem dX12_readsWithin_54 : decode cX12_readsWithin 54 = .ok (.aload_n 0, 1) := by decide +kernel
theorem dX12_readsWithin_55 : decode cX12_readsWithin 55 = .ok (.bipush 10, 2) := by decide +kernel
theorem dX12_readsWithin_57 : decode cX12_readsWithin 57 = .ok (.aload_n 0, 1) := by decide +kernel
theorem dX12_readsWithin_58 : decode cX12_readsWithin 58 = .ok (.getfield 162, 3) := by decide +kernel
theorem dX12_readsWithin_61 : decode cX12_readsWithin 61 = .ok (.imul, 1) := by decide +kernel
theorem dX12_readsWithin_62 : decode cX12_readsWithin 62 = .ok (.aload_n 0, 1) := by decide +kernel
theorem dX12_readsWithin_63 : decode cX12_readsWithin 63 = .ok (.invokevirtual 152, 3) := by decide +kernel
theorem dX12_readsWithin_66 : decode cX12_readsWithin 66 = .ok (.iadd, 1) := by decide +kernel
theorem dX12_readsWithin_67 : decode cX12_readsWithin 67 = .ok (.bipush 48, 2) := by decide +kernel
theorem dX12_readsWithin_69 : decode cX12_readsWithin 69 = .ok (.isub, 1) := by decide +kernel
theorem dX12_readsWithin_70 : decode cX12_readsWithin 70 = .ok (.putfield 162, 3) := by decide +kernel
theorem dX12_readsWithin_73 : decode cX12_readsWithin 73 = .ok (.aload_n 0, 1) := by decide +kernel
theorem dX12_readsWithin_74 : decode cX12_readsWithin 74 = .ok (.aload_n 0, 1) := by decide +kernel
theorem dX12_readsWithin_75 : decode cX12_readsWithin 75 = .ok (.getfield 146, 3) := by decide +kernel
theorem dX12_readsWithin_78 : decode cX12_readsWithin 78 = .ok (.iconst 1, 1) := by decide +kernel
theorem dX12_readsWithin_79 : decode cX12_readsWithin 79 = .ok (.iadd, 1) := by decide +kernel
theorem dX12_readsWithin_80 : decode cX12_readsWithin 80 = .ok (.putfield 146, 3) := by decide +kernel
theorem dX12_readsWithin_83 : decode cX12_readsWithin 83 = .ok (.goto (-56), 3) := by decide +kernel
theorem dX12_readsWithin_86 : decode cX12_readsWithin 86 = .ok (.aload_n 0, 1) := by decide +kernel
theorem dX12_readsWithin_87 : decode cX12_readsWithin 87 = .ok (.getfield 162, 3) := by decide +kernel
theorem dX12_readsWithin_90 : decode cX12_readsWithin 90 = .ok (.iload_n 1, 1) := by decide +kernel
theorem dX12_readsWithin_91 : decode cX12_readsWithin 91 = .ok (.if_icmp .le 12, 3) := by decide +kernel
theorem dX12_readsWithin_94 : decode cX12_readsWithin 94 = .ok (.aload_n 0, 1) := by decide +kernel
theorem dX12_readsWithin_95 : decode cX12_readsWithin 95 = .ok (.iconst 3, 1) := by decide +kernel
theorem dX12_readsWithin_96 : decode cX12_readsWithin 96 = .ok (.iload_n 2, 1) := by decide +kernel
theorem dX12_readsWithin_97 : decode cX12_readsWithin 97 = .ok (.invokevirtual 159, 3) := by decide +kernel
theorem dX12_readsWithin_100 : decode cX12_readsWithin 100 = .ok (.ifCond .eq 7, 3) := by decide +kernel
theorem dX12_readsWithin_103 : decode cX12_readsWithin 103 = .ok (.iconst 1, 1) := by decide +kernel
theorem dX12_readsWithin_104 : decode cX12_readsWithin 104 = .ok (.goto 4, 3) := by decide +kernel
theorem dX12_readsWithin_107 : decode cX12_readsWithin 107 = .ok (.iconst 0, 1) := by decide +kernel
theorem dX12_readsWithin_108 : decode cX12_readsWithin 108 = .ok (.ireturn, 1) := by decide +kernel
set_option maxHeartbeats 4000000 in
set_option maxRecDepth 100000 in
theorem kL_X12_readsWithin_27 {X : GC} {E : GE} (C : Cx X E cX12_readsWithin RX12 3 3) (o_t : Nat) (a_t : Nat → Nat) (t_toldDoors : Int32) (t_barredDoors : Int32) (t_taped : Int32) (t_open : Int32) (t_codeMany : Int32) (t_waiting : Int32) (t_saidMany : Int32) (t_clauses : Int32) (t_newMany : Int32) (t_rounds : Int32) (t_pinFrom : Int32) (t_pinTimes : Int32) (t_lines : Int32) (t_wasTold : Int32) (t_wasBarred : Int32) (t_goesNow : Int32) (t_jamsNow : Int32) (t_queued : Int32) (t_isKept : Int32) (t_length0 : Int32) (t_fault : Int32) (t_tape : (Nat → Int32)) (x1 : Int32) (x2 : Int32) (k0 : Int32 × Int32 → Option (Int32 × Int32 × Int32 × Int32)) (k1 : Int32 × Int32 → Option (Int32 × Int32 × Int32 × Int32)) {r : Int32 × Int32 × Int32 × Int32} (hret : RtI X E cX12_readsWithin .boolean 0 0 (fun w => w = (W_X12_readsWithin E o_t a_t t_toldDoors t_barredDoors t_taped r.2.1 t_length0 r.2.2.1 r.2.2.2 t_open t_codeMany t_waiting t_saidMany t_clauses t_newMany t_rounds t_pinFrom t_pinTimes t_lines t_wasTold t_wasBarred t_goesNow t_jamsNow t_queued t_isKept t_tape)) r.1) (hk0 : ∀ u, k0 u = some r → Gx X E 0 0 (W_X12_readsWithin E o_t a_t t_toldDoors t_barredDoors t_taped u.1 t_length0 t_fault u.2 t_open t_codeMany t_waiting t_saidMany t_clauses t_newMany t_rounds t_pinFrom t_pinTimes t_lines t_wasTold t_wasBarred t_goesNow t_jamsNow t_queued t_isKept t_tape) 44 [(0, .ref o_t)] []) (hk1 : ∀ u, k1 u = some r → Gx X E 0 0 (W_X12_readsWithin E o_t a_t t_toldDoors t_barredDoors t_taped u.1 t_length0 t_fault u.2 t_open t_codeMany t_waiting t_saidMany t_clauses t_newMany t_rounds t_pinFrom t_pinTimes t_lines t_wasTold t_wasBarred t_goesNow t_jamsNow t_queued t_isKept t_tape) 86 [(0, .ref o_t), (1, .int x1), (2, .int x2)] []) : ∀ (n : Nat) (s : Int32 × Int32), L_X12_readsWithin_27 t_length0 t_fault t_tape x1 x2 k0 k1 n s = some r → Gx X E 0 0 (W_X12_readsWithin E o_t a_t t_toldDoors t_barredDoors t_taped s.1 t_length0 t_fault s.2 t_open t_codeMany t_waiting t_saidMany t_clauses t_newMany t_rounds t_pinFrom t_pinTimes t_lines t_wasTold t_wasBarred t_goesNow t_jamsNow t_queued t_isKept t_tape) 27 [(0, .ref o_t), (1, .int x1), (2, .int x2)] [] := by
  unfold L_X12_readsWithin_27
  refine lp_ind _ (fun go ih s h => ?_)
  refine g_aload_n (pc := 27) C dX12_readsWithin_27 rfl 0 rfl ?_
  obtain ⟨u2, hu2, h⟩ := bs h
  refine g_callV (pc := 28) (st := []) (st1 := [.int u2]) (ws' := (W_X12_readsWithin E o_t a_t t_toldDoors t_barredDoors t_taped s.1 t_length0 t_fault s.2 t_open t_codeMany t_waiting t_saidMany t_clauses t_newMany t_rounds t_pinFrom t_pinTimes t_lines t_wasTold t_wasBarred t_goesNow t_jamsNow t_queued t_isKept t_tape)) C mv_X12_isDigit mi_X12_isDigit ml_X12_165 (c_X12_isDigit X.2.1 E o_t a_t t_toldDoors t_barredDoors t_taped s.1 t_length0 t_fault s.2 t_open t_codeMany t_waiting t_saidMany t_clauses t_newMany t_rounds t_pinFrom t_pinTimes t_lines t_wasTold t_wasBarred t_goesNow t_jamsNow t_queued t_isKept t_tape u2 hu2) dX12_readsWithin_28 (by decide) rfl (Nat.le_of_ble_eq_true rfl) 0 11 rfl rfl [0, 1] rfl (by decide) rfl rfl rfl rfl ?_
  refine g_if_eq (pc := 31) (tgt := 86) C dX12_readsWithin_31 (by decide) h (fun h => ?_) (fun h => ?_)
  · exact hk1 _ h
  · refine g_aload_n (pc := 34) C dX12_readsWithin_34 rfl 0 rfl ?_
    refine g_get (pc := 35) C fl_X12_146 dX12_readsWithin_35 0 rfl rfl ?_
    refine g_iload_n (pc := 38) C dX12_readsWithin_38 rfl 2 rfl ?_
    refine g_iconst (pc := 39) (v := 2) C dX12_readsWithin_39 (by decide) ?_
    refine g_iadd (pc := 40) C dX12_readsWithin_40 ?_
    refine g_icmp_ne (pc := 41) (tgt := 54) C dX12_readsWithin_41 (by decide) h (fun h => ?_) (fun h => ?_)
    · refine g_aload_n (pc := 54) C dX12_readsWithin_54 rfl 0 rfl ?_
      refine g_bipush (pc := 55) (v := 10) C dX12_readsWithin_55 (by decide) ?_
      refine g_aload_n (pc := 57) C dX12_readsWithin_57 rfl 0 rfl ?_
      refine g_get (pc := 58) C fl_X12_162 dX12_readsWithin_58 0 rfl rfl ?_
      refine g_imul (pc := 61) C dX12_readsWithin_61 ?_
      refine g_aload_n (pc := 62) C dX12_readsWithin_62 rfl 0 rfl ?_
      obtain ⟨u3, hu3, h⟩ := bs h
      refine g_callV (pc := 63) (st := [.int ((10 : Int32) * s.2), .ref o_t]) (st1 := [.int u3, .int ((10 : Int32) * s.2), .ref o_t]) (ws' := (W_X12_readsWithin E o_t a_t t_toldDoors t_barredDoors t_taped s.1 t_length0 t_fault s.2 t_open t_codeMany t_waiting t_saidMany t_clauses t_newMany t_rounds t_pinFrom t_pinTimes t_lines t_wasTold t_wasBarred t_goesNow t_jamsNow t_queued t_isKept t_tape)) C mv_X12_here mi_X12_here ml_X12_152 (c_X12_here X.2.1 E o_t a_t t_toldDoors t_barredDoors t_taped s.1 t_length0 t_fault s.2 t_open t_codeMany t_waiting t_saidMany t_clauses t_newMany t_rounds t_pinFrom t_pinTimes t_lines t_wasTold t_wasBarred t_goesNow t_jamsNow t_queued t_isKept t_tape u3 hu3) dX12_readsWithin_63 (by decide) rfl (Nat.le_of_ble_eq_true rfl) 0 11 rfl rfl [0, 1] rfl (by decide) rfl rfl rfl rfl ?_
      refine g_iadd (pc := 66) C dX12_readsWithin_66 ?_
      refine g_bipush (pc := 67) (v := 48) C dX12_readsWithin_67 (by decide) ?_
      refine g_isub (pc := 69) C dX12_readsWithin_69 ?_
      refine g_nm h (fun v4 h => ?_)
      refine g_put (pc := 70) (ws' := (W_X12_readsWithin E o_t a_t t_toldDoors t_barredDoors t_taped s.1 t_length0 t_fault v4 t_open t_codeMany t_waiting t_saidMany t_clauses t_newMany t_rounds t_pinFrom t_pinTimes t_lines t_wasTold t_wasBarred t_goesNow t_jamsNow t_queued t_isKept t_tape)) C .int fl_X12_162 dX12_readsWithin_70 0 rfl (by decide +kernel) rfl rfl (Nat.le_of_ble_eq_true rfl) rfl ?_
      refine g_aload_n (pc := 73) C dX12_readsWithin_73 rfl 0 rfl ?_
      refine g_aload_n (pc := 74) C dX12_readsWithin_74 rfl 0 rfl ?_
      refine g_get (pc := 75) C fl_X12_146 dX12_readsWithin_75 0 rfl rfl ?_
      refine g_iconst (pc := 78) (v := 1) C dX12_readsWithin_78 (by decide) ?_
      refine g_iadd (pc := 79) C dX12_readsWithin_79 ?_
      refine g_nm h (fun v5 h => ?_)
      refine g_put (pc := 80) (ws' := (W_X12_readsWithin E o_t a_t t_toldDoors t_barredDoors t_taped v5 t_length0 t_fault v4 t_open t_codeMany t_waiting t_saidMany t_clauses t_newMany t_rounds t_pinFrom t_pinTimes t_lines t_wasTold t_wasBarred t_goesNow t_jamsNow t_queued t_isKept t_tape)) C .int fl_X12_146 dX12_readsWithin_80 0 rfl (by decide +kernel) rfl rfl (Nat.le_of_ble_eq_true rfl) rfl ?_
      refine g_goto (pc := 83) (tgt := 27) C dX12_readsWithin_83 (by decide) ?_
      exact ih _ h
    · refine g_sub [0] rfl ?_
      exact hk0 _ h
set_option maxHeartbeats 4000000 in
set_option maxRecDepth 100000 in
theorem c_X12_readsWithin (l : Launch) (E : GE) (o_t : Nat) (a_t : Nat → Nat) (t_toldDoors : Int32) (t_barredDoors : Int32) (t_taped : Int32) (t_place0 : Int32) (t_length0 : Int32) (t_fault : Int32) (t_number0 : Int32) (t_open : Int32) (t_codeMany : Int32) (t_waiting : Int32) (t_saidMany : Int32) (t_clauses : Int32) (t_newMany : Int32) (t_rounds : Int32) (t_pinFrom : Int32) (t_pinTimes : Int32) (t_lines : Int32) (t_wasTold : Int32) (t_wasBarred : Int32) (t_goesNow : Int32) (t_jamsNow : Int32) (t_queued : Int32) (t_isKept : Int32) (t_tape : (Nat → Int32)) (x1 : Int32) (r : Int32 × Int32 × Int32 × Int32) (h : f_X12_readsWithin t_place0 t_length0 t_fault t_number0 t_tape x1 = some r) : Cn l E yX12_readsWithin cX12_readsWithin 3 (some .boolean) 3 0 0 [.ref o_t, .int x1] (W_X12_readsWithin E o_t a_t t_toldDoors t_barredDoors t_taped t_place0 t_length0 t_fault t_number0 t_open t_codeMany t_waiting t_saidMany t_clauses t_newMany t_rounds t_pinFrom t_pinTimes t_lines t_wasTold t_wasBarred t_goesNow t_jamsNow t_queued t_isKept t_tape) (fun w => w = (W_X12_readsWithin E o_t a_t t_toldDoors t_barredDoors t_taped r.2.1 t_length0 r.2.2.1 r.2.2.2 t_open t_codeMany t_waiting t_saidMany t_clauses t_newMany t_rounds t_pinFrom t_pinTimes t_lines t_wasTold t_wasBarred t_goesNow t_jamsNow t_queued t_isKept t_tape)) (some (.int r.1)) := by
  refine Cn.ofI (by decide +kernel) (Nat.le_of_ble_eq_true rfl) (fun X hX hR C hret => ?_)
  subst hX
  show Gx X E 0 0 (W_X12_readsWithin E o_t a_t t_toldDoors t_barredDoors t_taped t_place0 t_length0 t_fault t_number0 t_open t_codeMany t_waiting t_saidMany t_clauses t_newMany t_rounds t_pinFrom t_pinTimes t_lines t_wasTold t_wasBarred t_goesNow t_jamsNow t_queued t_isKept t_tape) 0 [(0, .ref o_t), (1, .int x1)] []
  unfold f_X12_readsWithin at h
  refine g_aload_n (pc := 0) C dX12_readsWithin_0 rfl 0 rfl ?_
  refine g_get (pc := 1) C fl_X12_146 dX12_readsWithin_1 0 rfl rfl ?_
  refine g_istore_n (pc := 4) (lv' := [(2, .int t_place0), (0, .ref o_t), (1, .int x1)]) C dX12_readsWithin_4 rfl (by decide) rfl ?_
  refine g_aload_n (pc := 5) C dX12_readsWithin_5 rfl 1 rfl ?_
  obtain ⟨u1, hu1, h⟩ := bs h
  refine g_callV (pc := 6) (st := []) (st1 := [.int u1]) (ws' := (W_X12_readsWithin E o_t a_t t_toldDoors t_barredDoors t_taped t_place0 t_length0 t_fault t_number0 t_open t_codeMany t_waiting t_saidMany t_clauses t_newMany t_rounds t_pinFrom t_pinTimes t_lines t_wasTold t_wasBarred t_goesNow t_jamsNow t_queued t_isKept t_tape)) C mv_X12_isDigit mi_X12_isDigit ml_X12_165 (c_X12_isDigit X.2.1 E o_t a_t t_toldDoors t_barredDoors t_taped t_place0 t_length0 t_fault t_number0 t_open t_codeMany t_waiting t_saidMany t_clauses t_newMany t_rounds t_pinFrom t_pinTimes t_lines t_wasTold t_wasBarred t_goesNow t_jamsNow t_queued t_isKept t_tape u1 hu1) dX12_readsWithin_6 (by decide) rfl (Nat.le_of_ble_eq_true rfl) 0 11 rfl rfl [0, 1] rfl (by decide) rfl rfl rfl rfl ?_
  refine g_if_ne (pc := 9) (tgt := 22) C dX12_readsWithin_9 (by decide) h (fun h => ?_) (fun h => ?_)
  · refine g_aload_n (pc := 22) C dX12_readsWithin_22 rfl 1 rfl ?_
    refine g_iconst (pc := 23) (v := 0) C dX12_readsWithin_23 (by decide) ?_
    refine g_put (pc := 24) (ws' := (W_X12_readsWithin E o_t a_t t_toldDoors t_barredDoors t_taped t_place0 t_length0 t_fault (0 : Int32) t_open t_codeMany t_waiting t_saidMany t_clauses t_newMany t_rounds t_pinFrom t_pinTimes t_lines t_wasTold t_wasBarred t_goesNow t_jamsNow t_queued t_isKept t_tape)) C .int fl_X12_162 dX12_readsWithin_24 0 rfl (by decide +kernel) rfl rfl (Nat.le_of_ble_eq_true rfl) rfl ?_
    refine g_sub [1, 2, 0] rfl ?_
    refine kL_X12_readsWithin_27 C o_t a_t t_toldDoors t_barredDoors t_taped t_open t_codeMany t_waiting t_saidMany t_clauses t_newMany t_rounds t_pinFrom t_pinTimes t_lines t_wasTold t_wasBarred t_goesNow t_jamsNow t_queued t_isKept t_length0 t_fault t_tape x1 t_place0 _ _ hret (fun s6 h => ?_) (fun s8 h => ?_) _ _ h
    · refine g_aload_n (pc := 44) C dX12_readsWithin_44 rfl 0 rfl ?_
      refine g_iconst (pc := 45) (v := 2) C dX12_readsWithin_45 (by decide) ?_
      refine g_aload_n (pc := 46) C dX12_readsWithin_46 rfl 0 rfl ?_
      refine g_get (pc := 47) C fl_X12_146 dX12_readsWithin_47 0 rfl rfl ?_
      obtain ⟨u7, hu7, h⟩ := bs h
      refine g_callV (pc := 50) (st := []) (st1 := [.int u7.1]) (ws' := (W_X12_readsWithin E o_t a_t t_toldDoors t_barredDoors t_taped s6.1 t_length0 u7.2 s6.2 t_open t_codeMany t_waiting t_saidMany t_clauses t_newMany t_rounds t_pinFrom t_pinTimes t_lines t_wasTold t_wasBarred t_goesNow t_jamsNow t_queued t_isKept t_tape)) C mv_X12_wrongAt mi_X12_wrongAt ml_X12_159 (c_X12_wrongAt X.2.1 E o_t a_t t_toldDoors t_barredDoors t_taped s6.1 t_length0 t_fault s6.2 t_open t_codeMany t_waiting t_saidMany t_clauses t_newMany t_rounds t_pinFrom t_pinTimes t_lines t_wasTold t_wasBarred t_goesNow t_jamsNow t_queued t_isKept (2 : Int32) s6.1 u7 hu7) dX12_readsWithin_50 (by decide) rfl (Nat.le_of_ble_eq_true rfl) 0 11 rfl rfl [0] rfl (by decide) rfl rfl rfl rfl ?_
      obtain ⟨hgb, h⟩ := gb_is h
      cases h
      exact hret _ _ _ dX12_readsWithin_53 hgb rfl
    · refine g_aload_n (pc := 86) C dX12_readsWithin_86 rfl 0 rfl ?_
      refine g_get (pc := 87) C fl_X12_162 dX12_readsWithin_87 0 rfl rfl ?_
      refine g_iload_n (pc := 90) C dX12_readsWithin_90 rfl 1 rfl ?_
      refine g_icmp_le (pc := 91) (tgt := 103) C dX12_readsWithin_91 (by decide) h (fun h => ?_) (fun h => ?_)
      · refine g_iconst (pc := 103) (v := 1) C dX12_readsWithin_103 (by decide) ?_
        refine g_goto (pc := 104) (tgt := 108) C dX12_readsWithin_104 (by decide) ?_
        cases h
        exact hret _ _ _ dX12_readsWithin_108 nb1 rfl
      · refine g_aload_n (pc := 94) C dX12_readsWithin_94 rfl 0 rfl ?_
        refine g_iconst (pc := 95) (v := 3) C dX12_readsWithin_95 (by decide) ?_
        refine g_iload_n (pc := 96) C dX12_readsWithin_96 rfl 2 rfl ?_
        obtain ⟨u9, hu9, h⟩ := bs h
        refine g_callV (pc := 97) (st := []) (st1 := [.int u9.1]) (ws' := (W_X12_readsWithin E o_t a_t t_toldDoors t_barredDoors t_taped s8.1 t_length0 u9.2 s8.2 t_open t_codeMany t_waiting t_saidMany t_clauses t_newMany t_rounds t_pinFrom t_pinTimes t_lines t_wasTold t_wasBarred t_goesNow t_jamsNow t_queued t_isKept t_tape)) C mv_X12_wrongAt mi_X12_wrongAt ml_X12_159 (c_X12_wrongAt X.2.1 E o_t a_t t_toldDoors t_barredDoors t_taped s8.1 t_length0 t_fault s8.2 t_open t_codeMany t_waiting t_saidMany t_clauses t_newMany t_rounds t_pinFrom t_pinTimes t_lines t_wasTold t_wasBarred t_goesNow t_jamsNow t_queued t_isKept (3 : Int32) t_place0 u9 hu9) dX12_readsWithin_97 (by decide) rfl (Nat.le_of_ble_eq_true rfl) 0 11 rfl rfl [0] rfl (by decide) rfl rfl rfl rfl ?_
        refine g_if_eq (pc := 100) (tgt := 107) C dX12_readsWithin_100 (by decide) h (fun h => ?_) (fun h => ?_)
        · refine g_iconst (pc := 107) (v := 0) C dX12_readsWithin_107 (by decide) ?_
          cases h
          exact hret _ _ _ dX12_readsWithin_108 nb0 rfl
        · refine g_iconst (pc := 103) (v := 1) C dX12_readsWithin_103 (by decide) ?_
          refine g_goto (pc := 104) (tgt := 108) C dX12_readsWithin_104 (by decide) ?_
          cases h
          exact hret _ _ _ dX12_readsWithin_108 nb1 rfl
  · refine g_aload_n (pc := 12) C dX12_readsWithin_12 rfl 1 rfl ?_
    refine g_iconst (pc := 13) (v := 1) C dX12_readsWithin_13 (by decide) ?_
    refine g_aload_n (pc := 14) C dX12_readsWithin_14 rfl 1 rfl ?_
    refine g_get (pc := 15) C fl_X12_146 dX12_readsWithin_15 0 rfl rfl ?_
    obtain ⟨u10, hu10, h⟩ := bs h
    refine g_callV (pc := 18) (st := []) (st1 := [.int u10.1]) (ws' := (W_X12_readsWithin E o_t a_t t_toldDoors t_barredDoors t_taped t_place0 t_length0 u10.2 t_number0 t_open t_codeMany t_waiting t_saidMany t_clauses t_newMany t_rounds t_pinFrom t_pinTimes t_lines t_wasTold t_wasBarred t_goesNow t_jamsNow t_queued t_isKept t_tape)) C mv_X12_wrongAt mi_X12_wrongAt ml_X12_159 (c_X12_wrongAt X.2.1 E o_t a_t t_toldDoors t_barredDoors t_taped t_place0 t_length0 t_fault t_number0 t_open t_codeMany t_waiting t_saidMany t_clauses t_newMany t_rounds t_pinFrom t_pinTimes t_lines t_wasTold t_wasBarred t_goesNow t_jamsNow t_queued t_isKept (1 : Int32) t_place0 u10 hu10) dX12_readsWithin_18 (by decide) rfl (Nat.le_of_ble_eq_true rfl) 0 11 rfl rfl [0] rfl (by decide) rfl rfl rfl rfl ?_
    obtain ⟨hgb, h⟩ := gb_is h
    cases h
    exact hret _ _ _ dX12_readsWithin_21 hgb rfl
abbrev W_X12_toldWomen (E : GE) (O_t : Nat) (a_t : Nat → Nat) (t_toldDoors : Int32) (t_barredDoors : Int32) (t_taped : Int32) (t_place0 : Int32) (t_length0 : Int32) (t_fault : Int32) (t_number0 : Int32) (t_open : Int32) (t_codeMany : Int32) (t_waiting : Int32) (t_saidMany : Int32) (t_clauses : Int32) (t_newMany : Int32) (t_rounds : Int32) (t_pinFrom : Int32) (t_pinTimes : Int32) (t_lines : Int32) (t_wasTold : Int32) (t_wasBarred : Int32) (t_goesNow : Int32) (t_jamsNow : Int32) (t_queued : Int32) (t_isKept : Int32) (t_now : (Nat → Int32)) : va_W := [(O_t, ob_X12 a_t t_toldDoors t_barredDoors t_taped t_place0 t_length0 t_fault t_number0 t_open t_codeMany t_waiting t_saidMany t_clauses t_newMany t_rounds t_pinFrom t_pinTimes t_lines t_wasTold t_wasBarred t_goesNow t_jamsNow t_queued t_isKept), (a_t 0, .inl (E.2.1, 166, .inl t_now))]
def L_X12_toldWomen_4 (t_now : (Nat → Int32)) : Nat → Int32 × Int32 → Option (Int32) := lp fun go s => if (10 : Int32) ≤ s.2 then (some s.1) else (f_X12_isWoman t_now s.2).bind fun u1 => if u1 = 0 then (nm (s.2 + (1 : Int32)) fun v2 => go (s.1, v2)) else nm (s.1 ||| ((1 : Int32) <<< (s.2 &&& 31))) fun v3 => nm (s.2 + (1 : Int32)) fun v4 => go (v3, v4)
def f_X12_toldWomen (t_now : (Nat → Int32)) : Option (Int32) := L_X12_toldWomen_4 t_now fu ((0 : Int32), (0 : Int32))
theorem dX12_toldWomen_0 : decode cX12_toldWomen 0 = .ok (.iconst 0, 1) := by decide +kernel
theorem dX12_toldWomen_1 : decode cX12_toldWomen 1 = .ok (.istore_n 1, 1) := by decide +kernel
theorem dX12_toldWomen_2 : decode cX12_toldWomen 2 = .ok (.iconst 0, 1) := by decide +kernel
theorem dX12_toldWomen_3 : decode cX12_toldWomen 3 = .ok (.istore_n 2, 1) := by decide +kernel
theorem dX12_toldWomen_4 : decode cX12_toldWomen 4 = .ok (.iload_n 2, 1) := by decide +kernel
theorem dX12_toldWomen_5 : decode cX12_toldWomen 5 = .ok (.bipush 10, 2) := by decide +kernel
theorem dX12_toldWomen_7 : decode cX12_toldWomen 7 = .ok (.if_icmp .ge 23, 3) := by decide +kernel
theorem dX12_toldWomen_10 : decode cX12_toldWomen 10 = .ok (.aload_n 0, 1) := by decide +kernel
theorem dX12_toldWomen_11 : decode cX12_toldWomen 11 = .ok (.iload_n 2, 1) := by decide +kernel
theorem dX12_toldWomen_12 : decode cX12_toldWomen 12 = .ok (.invokevirtual 268, 3) := by decide +kernel
theorem dX12_toldWomen_15 : decode cX12_toldWomen 15 = .ok (.ifCond .eq 9, 3) := by decide +kernel
theorem dX12_toldWomen_18 : decode cX12_toldWomen 18 = .ok (.iload_n 1, 1) := by decide +kernel
theorem dX12_toldWomen_19 : decode cX12_toldWomen 19 = .ok (.iconst 1, 1) := by decide +kernel
theorem dX12_toldWomen_20 : decode cX12_toldWomen 20 = .ok (.iload_n 2, 1) := by decide +kernel
theorem dX12_toldWomen_21 : decode cX12_toldWomen 21 = .ok (.ishl, 1) := by decide +kernel
theorem dX12_toldWomen_22 : decode cX12_toldWomen 22 = .ok (.ior, 1) := by decide +kernel
theorem dX12_toldWomen_23 : decode cX12_toldWomen 23 = .ok (.istore_n 1, 1) := by decide +kernel
theorem dX12_toldWomen_24 : decode cX12_toldWomen 24 = .ok (.iinc 2 1, 3) := by decide +kernel
theorem dX12_toldWomen_27 : decode cX12_toldWomen 27 = .ok (.goto (-23), 3) := by decide +kernel
theorem dX12_toldWomen_30 : decode cX12_toldWomen 30 = .ok (.iload_n 1, 1) := by decide +kernel
theorem dX12_toldWomen_31 : decode cX12_toldWomen 31 = .ok (.ireturn, 1) := by decide +kernel
set_option maxHeartbeats 4000000 in
set_option maxRecDepth 100000 in
theorem kL_X12_toldWomen_4 {X : GC} {E : GE} (C : Cx X E cX12_toldWomen RX12 3 3) (o_t : Nat) (a_t : Nat → Nat) (t_toldDoors : Int32) (t_barredDoors : Int32) (t_taped : Int32) (t_place0 : Int32) (t_length0 : Int32) (t_fault : Int32) (t_number0 : Int32) (t_open : Int32) (t_codeMany : Int32) (t_waiting : Int32) (t_saidMany : Int32) (t_clauses : Int32) (t_newMany : Int32) (t_rounds : Int32) (t_pinFrom : Int32) (t_pinTimes : Int32) (t_lines : Int32) (t_wasTold : Int32) (t_wasBarred : Int32) (t_goesNow : Int32) (t_jamsNow : Int32) (t_queued : Int32) (t_isKept : Int32) (t_now : (Nat → Int32)) {r : Int32} (hret : RtI X E cX12_toldWomen .int 0 0 (fun w => w = (W_X12_toldWomen E o_t a_t t_toldDoors t_barredDoors t_taped t_place0 t_length0 t_fault t_number0 t_open t_codeMany t_waiting t_saidMany t_clauses t_newMany t_rounds t_pinFrom t_pinTimes t_lines t_wasTold t_wasBarred t_goesNow t_jamsNow t_queued t_isKept t_now)) r) : ∀ (n : Nat) (s : Int32 × Int32), L_X12_toldWomen_4 t_now n s = some r → Gx X E 0 0 (W_X12_toldWomen E o_t a_t t_toldDoors t_barredDoors t_taped t_place0 t_length0 t_fault t_number0 t_open t_codeMany t_waiting t_saidMany t_clauses t_newMany t_rounds t_pinFrom t_pinTimes t_lines t_wasTold t_wasBarred t_goesNow t_jamsNow t_queued t_isKept t_now) 4 [(0, .ref o_t), (1, .int s.1), (2, .int s.2)] [] := by
  unfold L_X12_toldWomen_4
  refine lp_ind _ (fun go ih s h => ?_)
  refine g_iload_n (pc := 4) C dX12_toldWomen_4 rfl 2 rfl ?_
  refine g_bipush (pc := 5) (v := 10) C dX12_toldWomen_5 (by decide) ?_
  refine g_icmp_ge (pc := 7) (tgt := 30) C dX12_toldWomen_7 (by decide) h (fun h => ?_) (fun h => ?_)
  · refine g_iload_n (pc := 30) C dX12_toldWomen_30 rfl 1 rfl ?_
    cases h
    exact hret _ _ _ dX12_toldWomen_31 rfl rfl
  · refine g_aload_n (pc := 10) C dX12_toldWomen_10 rfl 0 rfl ?_
    refine g_iload_n (pc := 11) C dX12_toldWomen_11 rfl 2 rfl ?_
    obtain ⟨u1, hu1, h⟩ := bs h
    refine g_callV (pc := 12) (st := []) (st1 := [.int u1]) (ws' := (W_X12_toldWomen E o_t a_t t_toldDoors t_barredDoors t_taped t_place0 t_length0 t_fault t_number0 t_open t_codeMany t_waiting t_saidMany t_clauses t_newMany t_rounds t_pinFrom t_pinTimes t_lines t_wasTold t_wasBarred t_goesNow t_jamsNow t_queued t_isKept t_now)) C mv_X12_isWoman mi_X12_isWoman ml_X12_268 (c_X12_isWoman X.2.1 E o_t a_t t_toldDoors t_barredDoors t_taped t_place0 t_length0 t_fault t_number0 t_open t_codeMany t_waiting t_saidMany t_clauses t_newMany t_rounds t_pinFrom t_pinTimes t_lines t_wasTold t_wasBarred t_goesNow t_jamsNow t_queued t_isKept t_now s.2 u1 hu1) dX12_toldWomen_12 (by decide) rfl (Nat.le_of_ble_eq_true rfl) 0 11 rfl rfl [0, 1] rfl (by decide) rfl rfl rfl rfl ?_
    refine g_if_eq (pc := 15) (tgt := 24) C dX12_toldWomen_15 (by decide) h (fun h => ?_) (fun h => ?_)
    · refine g_iincn (pc := 24) (j := 2) (d := 1) (lv' := fun v2 => [(2, .int v2), (0, .ref o_t), (1, .int s.1)]) C dX12_toldWomen_24 rfl (by decide) (by decide) (fun _ => rfl) h (fun v2 h => ?_)
      refine g_goto (pc := 27) (tgt := 4) C dX12_toldWomen_27 (by decide) ?_
      refine g_sub [1, 2, 0] rfl ?_
      exact ih _ h
    · refine g_iload_n (pc := 18) C dX12_toldWomen_18 rfl 1 rfl ?_
      refine g_iconst (pc := 19) (v := 1) C dX12_toldWomen_19 (by decide) ?_
      refine g_iload_n (pc := 20) C dX12_toldWomen_20 rfl 2 rfl ?_
      refine g_ishl (pc := 21) C dX12_toldWomen_21 ?_
      refine g_ior (pc := 22) C dX12_toldWomen_22 ?_
      refine g_nm h (fun v3 h => ?_)
      refine g_istore_n (pc := 23) (lv' := [(1, .int v3), (0, .ref o_t), (2, .int s.2)]) C dX12_toldWomen_23 rfl (by decide) rfl ?_
      refine g_iincn (pc := 24) (j := 2) (d := 1) (lv' := fun v4 => [(2, .int v4), (1, .int v3), (0, .ref o_t)]) C dX12_toldWomen_24 rfl (by decide) (by decide) (fun _ => rfl) h (fun v4 h => ?_)
      refine g_goto (pc := 27) (tgt := 4) C dX12_toldWomen_27 (by decide) ?_
      refine g_sub [2, 1, 0] rfl ?_
      exact ih _ h
set_option maxHeartbeats 4000000 in
set_option maxRecDepth 100000 in
theorem c_X12_toldWomen (l : Launch) (E : GE) (o_t : Nat) (a_t : Nat → Nat) (t_toldDoors : Int32) (t_barredDoors : Int32) (t_taped : Int32) (t_place0 : Int32) (t_length0 : Int32) (t_fault : Int32) (t_number0 : Int32) (t_open : Int32) (t_codeMany : Int32) (t_waiting : Int32) (t_saidMany : Int32) (t_clauses : Int32) (t_newMany : Int32) (t_rounds : Int32) (t_pinFrom : Int32) (t_pinTimes : Int32) (t_lines : Int32) (t_wasTold : Int32) (t_wasBarred : Int32) (t_goesNow : Int32) (t_jamsNow : Int32) (t_queued : Int32) (t_isKept : Int32) (t_now : (Nat → Int32)) (r : Int32) (h : f_X12_toldWomen t_now = some r) : Cn l E yX12_toldWomen cX12_toldWomen 3 (some .int) 3 0 0 [.ref o_t] (W_X12_toldWomen E o_t a_t t_toldDoors t_barredDoors t_taped t_place0 t_length0 t_fault t_number0 t_open t_codeMany t_waiting t_saidMany t_clauses t_newMany t_rounds t_pinFrom t_pinTimes t_lines t_wasTold t_wasBarred t_goesNow t_jamsNow t_queued t_isKept t_now) (fun w => w = (W_X12_toldWomen E o_t a_t t_toldDoors t_barredDoors t_taped t_place0 t_length0 t_fault t_number0 t_open t_codeMany t_waiting t_saidMany t_clauses t_newMany t_rounds t_pinFrom t_pinTimes t_lines t_wasTold t_wasBarred t_goesNow t_jamsNow t_queued t_isKept t_now)) (some (.int r)) := by
  refine Cn.ofI (by decide +kernel) (Nat.le_of_ble_eq_true rfl) (fun X hX hR C hret => ?_)
  subst hX
  show Gx X E 0 0 (W_X12_toldWomen E o_t a_t t_toldDoors t_barredDoors t_taped t_place0 t_length0 t_fault t_number0 t_open t_codeMany t_waiting t_saidMany t_clauses t_newMany t_rounds t_pinFrom t_pinTimes t_lines t_wasTold t_wasBarred t_goesNow t_jamsNow t_queued t_isKept t_now) 0 [(0, .ref o_t)] []
  unfold f_X12_toldWomen at h
  refine g_iconst (pc := 0) (v := 0) C dX12_toldWomen_0 (by decide) ?_
  refine g_istore_n (pc := 1) (lv' := [(1, .int (0 : Int32)), (0, .ref o_t)]) C dX12_toldWomen_1 rfl (by decide) rfl ?_
  refine g_iconst (pc := 2) (v := 0) C dX12_toldWomen_2 (by decide) ?_
  refine g_istore_n (pc := 3) (lv' := [(2, .int (0 : Int32)), (1, .int (0 : Int32)), (0, .ref o_t)]) C dX12_toldWomen_3 rfl (by decide) rfl ?_
  refine g_sub [2, 1, 0] rfl ?_
  refine kL_X12_toldWomen_4 C o_t a_t t_toldDoors t_barredDoors t_taped t_place0 t_length0 t_fault t_number0 t_open t_codeMany t_waiting t_saidMany t_clauses t_newMany t_rounds t_pinFrom t_pinTimes t_lines t_wasTold t_wasBarred t_goesNow t_jamsNow t_queued t_isKept t_now hret  _ _ h
abbrev W_X12_womanIs (E : GE) (O_t : Nat) (a_t : Nat → Nat) (t_toldDoors : Int32) (t_barredDoors : Int32) (t_taped : Int32) (t_place0 : Int32) (t_length0 : Int32) (t_fault : Int32) (t_number0 : Int32) (t_open : Int32) (t_codeMany : Int32) (t_waiting : Int32) (t_saidMany : Int32) (t_clauses : Int32) (t_newMany : Int32) (t_rounds : Int32) (t_pinFrom : Int32) (t_pinTimes : Int32) (t_lines : Int32) (t_wasTold : Int32) (t_wasBarred : Int32) (t_goesNow : Int32) (t_jamsNow : Int32) (t_queued : Int32) (t_isKept : Int32) (t_now : (Nat → Int32)) : va_W := [(O_t, ob_X12 a_t t_toldDoors t_barredDoors t_taped t_place0 t_length0 t_fault t_number0 t_open t_codeMany t_waiting t_saidMany t_clauses t_newMany t_rounds t_pinFrom t_pinTimes t_lines t_wasTold t_wasBarred t_goesNow t_jamsNow t_queued t_isKept), (a_t 0, .inl (E.2.1, 166, .inl t_now))]
def f_X12_womanIs (t_now : (Nat → Int32)) (x1 : Int32) (x2 : Int32) : Option (Int32) := (f_X12_isWoman t_now x1).bind fun u1 => if u1 = 0 then (some (-1 : Int32)) else if x2 = 0 then (rd t_now 166 ((34 : Int32) + x1) fun v7 => some v7) else if x2 = (1 : Int32) then ((f_X12_pinsOf t_now x1).bind fun u6 => some u6) else (f_X12_in x2 (10 : Int32) (15 : Int32)).bind fun u2 => if u2 = 0 then ((f_X12_in x2 (20 : Int32) (25 : Int32)).bind fun u3 => if u3 = 0 then (some (-1 : Int32)) else rd t_now 166 ((((44 : Int32) + ((6 : Int32) * x1)) + x2) - (20 : Int32)) fun v4 => some v4) else rd t_now 166 ((((104 : Int32) + ((6 : Int32) * x1)) + x2) - (10 : Int32)) fun v5 => some v5
theorem dX12_womanIs_0 : decode cX12_womanIs 0 = .ok (.aload_n 0, 1) := by decide +kernel
theorem dX12_womanIs_1 : decode cX12_womanIs 1 = .ok (.iload_n 1, 1) := by decide +kernel
theorem dX12_womanIs_2 : decode cX12_womanIs 2 = .ok (.invokevirtual 268, 3) := by decide +kernel
theorem dX12_womanIs_5 : decode cX12_womanIs 5 = .ok (.ifCond .ne 5, 3) := by decide +kernel
theorem dX12_womanIs_8 : decode cX12_womanIs 8 = .ok (.iconst (-1), 1) := by decide +kernel
theorem dX12_womanIs_9 : decode cX12_womanIs 9 = .ok (.ireturn, 1) := by decide +kernel
theorem dX12_womanIs_10 : decode cX12_womanIs 10 = .ok (.iload_n 2, 1) := by decide +kernel
theorem dX12_womanIs_11 : decode cX12_womanIs 11 = .ok (.ifCond .ne 13, 3) := by decide +kernel
theorem dX12_womanIs_14 : decode cX12_womanIs 14 = .ok (.aload_n 0, 1) := by decide +kernel
theorem dX12_womanIs_15 : decode cX12_womanIs 15 = .ok (.getfield 7, 3) := by decide +kernel
theorem dX12_womanIs_18 : decode cX12_womanIs 18 = .ok (.bipush 34, 2) := by decide +kernel
theorem dX12_womanIs_20 : decode cX12_womanIs 20 = .ok (.iload_n 1, 1) := by decide +kernel
theorem dX12_womanIs_21 : decode cX12_womanIs 21 = .ok (.iadd, 1) := by decide +kernel
theorem dX12_womanIs_22 : decode cX12_womanIs 22 = .ok (.iaload, 1) := by decide +kernel
theorem dX12_womanIs_23 : decode cX12_womanIs 23 = .ok (.ireturn, 1) := by decide +kernel
theorem dX12_womanIs_24 : decode cX12_womanIs 24 = .ok (.iload_n 2, 1) := by decide +kernel
theorem dX12_womanIs_25 : decode cX12_womanIs 25 = .ok (.iconst 1, 1) := by decide +kernel
theorem dX12_womanIs_26 : decode cX12_womanIs 26 = .ok (.if_icmp .ne 9, 3) := by decide +kernel
theorem dX12_womanIs_29 : decode cX12_womanIs 29 = .ok (.aload_n 0, 1) := by decide +kernel
theorem dX12_womanIs_30 : decode cX12_womanIs 30 = .ok (.iload_n 1, 1) := by decide +kernel
theorem dX12_womanIs_31 : decode cX12_womanIs 31 = .ok (.invokevirtual 311, 3) := by decide +kernel
theorem dX12_womanIs_34 : decode cX12_womanIs 34 = .ok (.ireturn, 1) := by decide +kernel
theorem dX12_womanIs_35 : decode cX12_womanIs 35 = .ok (.iload_n 2, 1) := by decide +kernel
theorem dX12_womanIs_36 : decode cX12_womanIs 36 = .ok (.bipush 10, 2) := by decide +kernel
theorem dX12_womanIs_38 : decode cX12_womanIs 38 = .ok (.bipush 15, 2) := by decide +kernel
theorem dX12_womanIs_40 : decode cX12_womanIs 40 = .ok (.invokestatic 117, 3) := by decide +kernel
theorem dX12_womanIs_43 : decode cX12_womanIs 43 = .ok (.ifCond .eq 21, 3) := by decide +kernel
theorem dX12_womanIs_46 : decode cX12_womanIs 46 = .ok (.aload_n 0, 1) := by decide +kernel
theorem dX12_womanIs_47 : decode cX12_womanIs 47 = .ok (.getfield 7, 3) := by decide +kernel
theorem dX12_womanIs_50 : decode cX12_womanIs 50 = .ok (.bipush 104, 2) := by decide +kernel
theorem dX12_womanIs_52 : decode cX12_womanIs 52 = .ok (.bipush 6, 2) := by decide +kernel
theorem dX12_womanIs_54 : decode cX12_womanIs 54 = .ok (.iload_n 1, 1) := by decide +kernel
theorem dX12_womanIs_55 : decode cX12_womanIs 55 = .ok (.imul, 1) := by decide +kernel
theorem dX12_womanIs_56 : decode cX12_womanIs 56 = .ok (.iadd, 1) := by decide +kernel
theorem dX12_womanIs_57 : decode cX12_womanIs 57 = .ok (.iload_n 2, 1) := by decide +kernel
theorem dX12_womanIs_58 : decode cX12_womanIs 58 = .ok (.iadd, 1) := by decide +kernel
theorem dX12_womanIs_59 : decode cX12_womanIs 59 = .ok (.bipush 10, 2) := by decide +kernel
theorem dX12_womanIs_61 : decode cX12_womanIs 61 = .ok (.isub, 1) := by decide +kernel
theorem dX12_womanIs_62 : decode cX12_womanIs 62 = .ok (.iaload, 1) := by decide +kernel
theorem dX12_womanIs_63 : decode cX12_womanIs 63 = .ok (.ireturn, 1) := by decide +kernel
theorem dX12_womanIs_64 : decode cX12_womanIs 64 = .ok (.iload_n 2, 1) := by decide +kernel
theorem dX12_womanIs_65 : decode cX12_womanIs 65 = .ok (.bipush 20, 2) := by decide +kernel
theorem dX12_womanIs_67 : decode cX12_womanIs 67 = .ok (.bipush 25, 2) := by decide +kernel
theorem dX12_womanIs_69 : decode cX12_womanIs 69 = .ok (.invokestatic 117, 3) := by decide +kernel
theorem dX12_womanIs_72 : decode cX12_womanIs 72 = .ok (.ifCond .eq 23, 3) := by decide +kernel
theorem dX12_womanIs_75 : decode cX12_womanIs 75 = .ok (.aload_n 0, 1) := by decide +kernel
theorem dX12_womanIs_76 : decode cX12_womanIs 76 = .ok (.getfield 7, 3) := by decide +kernel
theorem dX12_womanIs_79 : decode cX12_womanIs 79 = .ok (.bipush 44, 2) := by decide +kernel
theorem dX12_womanIs_81 : decode cX12_womanIs 81 = .ok (.bipush 6, 2) := by decide +kernel
theorem dX12_womanIs_83 : decode cX12_womanIs 83 = .ok (.iload_n 1, 1) := by decide +kernel
theorem dX12_womanIs_84 : decode cX12_womanIs 84 = .ok (.imul, 1) := by decide +kernel
theorem dX12_womanIs_85 : decode cX12_womanIs 85 = .ok (.iadd, 1) := by decide +kernel
theorem dX12_womanIs_86 : decode cX12_womanIs 86 = .ok (.iload_n 2, 1) := by decide +kernel
theorem dX12_womanIs_87 : decode cX12_womanIs 87 = .ok (.iadd, 1) := by decide +kernel
theorem dX12_womanIs_88 : decode cX12_womanIs 88 = .ok (.bipush 20, 2) := by decide +kernel
theorem dX12_womanIs_90 : decode cX12_womanIs 90 = .ok (.isub, 1) := by decide +kernel
theorem dX12_womanIs_91 : decode cX12_womanIs 91 = .ok (.iaload, 1) := by decide +kernel
theorem dX12_womanIs_92 : decode cX12_womanIs 92 = .ok (.goto 4, 3) := by decide +kernel
theorem dX12_womanIs_95 : decode cX12_womanIs 95 = .ok (.iconst (-1), 1) := by decide +kernel
theorem dX12_womanIs_96 : decode cX12_womanIs 96 = .ok (.ireturn, 1) := by decide +kernel
set_option maxHeartbeats 4000000 in
set_option maxRecDepth 100000 in
theorem c_X12_womanIs (l : Launch) (E : GE) (o_t : Nat) (a_t : Nat → Nat) (t_toldDoors : Int32) (t_barredDoors : Int32) (t_taped : Int32) (t_place0 : Int32) (t_length0 : Int32) (t_fault : Int32) (t_number0 : Int32) (t_open : Int32) (t_codeMany : Int32) (t_waiting : Int32) (t_saidMany : Int32) (t_clauses : Int32) (t_newMany : Int32) (t_rounds : Int32) (t_pinFrom : Int32) (t_pinTimes : Int32) (t_lines : Int32) (t_wasTold : Int32) (t_wasBarred : Int32) (t_goesNow : Int32) (t_jamsNow : Int32) (t_queued : Int32) (t_isKept : Int32) (t_now : (Nat → Int32)) (x1 : Int32) (x2 : Int32) (r : Int32) (h : f_X12_womanIs t_now x1 x2 = some r) : Cn l E yX12_womanIs cX12_womanIs 3 (some .int) 3 0 0 [.ref o_t, .int x1, .int x2] (W_X12_womanIs E o_t a_t t_toldDoors t_barredDoors t_taped t_place0 t_length0 t_fault t_number0 t_open t_codeMany t_waiting t_saidMany t_clauses t_newMany t_rounds t_pinFrom t_pinTimes t_lines t_wasTold t_wasBarred t_goesNow t_jamsNow t_queued t_isKept t_now) (fun w => w = (W_X12_womanIs E o_t a_t t_toldDoors t_barredDoors t_taped t_place0 t_length0 t_fault t_number0 t_open t_codeMany t_waiting t_saidMany t_clauses t_newMany t_rounds t_pinFrom t_pinTimes t_lines t_wasTold t_wasBarred t_goesNow t_jamsNow t_queued t_isKept t_now)) (some (.int r)) := by
  refine Cn.ofI (by decide +kernel) (Nat.le_of_ble_eq_true rfl) (fun X hX hR C hret => ?_)
  subst hX
  show Gx X E 0 0 (W_X12_womanIs E o_t a_t t_toldDoors t_barredDoors t_taped t_place0 t_length0 t_fault t_number0 t_open t_codeMany t_waiting t_saidMany t_clauses t_newMany t_rounds t_pinFrom t_pinTimes t_lines t_wasTold t_wasBarred t_goesNow t_jamsNow t_queued t_isKept t_now) 0 [(0, .ref o_t), (1, .int x1), (2, .int x2)] []
  unfold f_X12_womanIs at h
  refine g_aload_n (pc := 0) C dX12_womanIs_0 rfl 0 rfl ?_
  refine g_iload_n (pc := 1) C dX12_womanIs_1 rfl 1 rfl ?_
  obtain ⟨u1, hu1, h⟩ := bs h
  refine g_callV (pc := 2) (st := []) (st1 := [.int u1]) (ws' := (W_X12_womanIs E o_t a_t t_toldDoors t_barredDoors t_taped t_place0 t_length0 t_fault t_number0 t_open t_codeMany t_waiting t_saidMany t_clauses t_newMany t_rounds t_pinFrom t_pinTimes t_lines t_wasTold t_wasBarred t_goesNow t_jamsNow t_queued t_isKept t_now)) C mv_X12_isWoman mi_X12_isWoman ml_X12_268 (c_X12_isWoman X.2.1 E o_t a_t t_toldDoors t_barredDoors t_taped t_place0 t_length0 t_fault t_number0 t_open t_codeMany t_waiting t_saidMany t_clauses t_newMany t_rounds t_pinFrom t_pinTimes t_lines t_wasTold t_wasBarred t_goesNow t_jamsNow t_queued t_isKept t_now x1 u1 hu1) dX12_womanIs_2 (by decide) rfl (Nat.le_of_ble_eq_true rfl) 0 11 rfl rfl [0, 1] rfl (by decide) rfl rfl rfl rfl ?_
  refine g_if_ne (pc := 5) (tgt := 10) C dX12_womanIs_5 (by decide) h (fun h => ?_) (fun h => ?_)
  · refine g_iload_n (pc := 10) C dX12_womanIs_10 rfl 2 rfl ?_
    refine g_if_ne (pc := 11) (tgt := 24) C dX12_womanIs_11 (by decide) h (fun h => ?_) (fun h => ?_)
    · refine g_iload_n (pc := 24) C dX12_womanIs_24 rfl 2 rfl ?_
      refine g_iconst (pc := 25) (v := 1) C dX12_womanIs_25 (by decide) ?_
      refine g_icmp_ne (pc := 26) (tgt := 35) C dX12_womanIs_26 (by decide) h (fun h => ?_) (fun h => ?_)
      · refine g_iload_n (pc := 35) C dX12_womanIs_35 rfl 2 rfl ?_
        refine g_bipush (pc := 36) (v := 10) C dX12_womanIs_36 (by decide) ?_
        refine g_bipush (pc := 38) (v := 15) C dX12_womanIs_38 (by decide) ?_
        obtain ⟨u2, hu2, h⟩ := bs h
        refine g_callS (pc := 40) (st := []) (st1 := [.int u2]) (ws' := (W_X12_womanIs E o_t a_t t_toldDoors t_barredDoors t_taped t_place0 t_length0 t_fault t_number0 t_open t_codeMany t_waiting t_saidMany t_clauses t_newMany t_rounds t_pinFrom t_pinTimes t_lines t_wasTold t_wasBarred t_goesNow t_jamsNow t_queued t_isKept t_now)) C mv_X12_in ms_X12_in ml_X12_117 (c_X12_in X.2.1 E x2 (10 : Int32) (15 : Int32) u2 hu2) dX12_womanIs_40 (by decide) rfl (Nat.le_of_ble_eq_true rfl) [] rfl (by decide) rfl rfl rfl rfl ?_
        refine g_if_eq (pc := 43) (tgt := 64) C dX12_womanIs_43 (by decide) h (fun h => ?_) (fun h => ?_)
        · refine g_iload_n (pc := 64) C dX12_womanIs_64 rfl 2 rfl ?_
          refine g_bipush (pc := 65) (v := 20) C dX12_womanIs_65 (by decide) ?_
          refine g_bipush (pc := 67) (v := 25) C dX12_womanIs_67 (by decide) ?_
          obtain ⟨u3, hu3, h⟩ := bs h
          refine g_callS (pc := 69) (st := []) (st1 := [.int u3]) (ws' := (W_X12_womanIs E o_t a_t t_toldDoors t_barredDoors t_taped t_place0 t_length0 t_fault t_number0 t_open t_codeMany t_waiting t_saidMany t_clauses t_newMany t_rounds t_pinFrom t_pinTimes t_lines t_wasTold t_wasBarred t_goesNow t_jamsNow t_queued t_isKept t_now)) C mv_X12_in ms_X12_in ml_X12_117 (c_X12_in X.2.1 E x2 (20 : Int32) (25 : Int32) u3 hu3) dX12_womanIs_69 (by decide) rfl (Nat.le_of_ble_eq_true rfl) [] rfl (by decide) rfl rfl rfl rfl ?_
          refine g_if_eq (pc := 72) (tgt := 95) C dX12_womanIs_72 (by decide) h (fun h => ?_) (fun h => ?_)
          · refine g_iconst (pc := 95) (v := -1) C dX12_womanIs_95 (by decide) ?_
            cases h
            exact hret _ _ _ dX12_womanIs_96 rfl rfl
          · refine g_aload_n (pc := 75) C dX12_womanIs_75 rfl 0 rfl ?_
            refine g_get (pc := 76) C fl_X12_7 dX12_womanIs_76 0 rfl rfl ?_
            refine g_bipush (pc := 79) (v := 44) C dX12_womanIs_79 (by decide) ?_
            refine g_bipush (pc := 81) (v := 6) C dX12_womanIs_81 (by decide) ?_
            refine g_iload_n (pc := 83) C dX12_womanIs_83 rfl 1 rfl ?_
            refine g_imul (pc := 84) C dX12_womanIs_84 ?_
            refine g_iadd (pc := 85) C dX12_womanIs_85 ?_
            refine g_iload_n (pc := 86) C dX12_womanIs_86 rfl 2 rfl ?_
            refine g_iadd (pc := 87) C dX12_womanIs_87 ?_
            refine g_bipush (pc := 88) (v := 20) C dX12_womanIs_88 (by decide) ?_
            refine g_isub (pc := 90) C dX12_womanIs_90 ?_
            refine g_iald (pc := 91) C dX12_womanIs_91 1 rfl h (fun v4 h => ?_)
            refine g_goto (pc := 92) (tgt := 96) C dX12_womanIs_92 (by decide) ?_
            cases h
            exact hret _ _ _ dX12_womanIs_96 rfl rfl
        · refine g_aload_n (pc := 46) C dX12_womanIs_46 rfl 0 rfl ?_
          refine g_get (pc := 47) C fl_X12_7 dX12_womanIs_47 0 rfl rfl ?_
          refine g_bipush (pc := 50) (v := 104) C dX12_womanIs_50 (by decide) ?_
          refine g_bipush (pc := 52) (v := 6) C dX12_womanIs_52 (by decide) ?_
          refine g_iload_n (pc := 54) C dX12_womanIs_54 rfl 1 rfl ?_
          refine g_imul (pc := 55) C dX12_womanIs_55 ?_
          refine g_iadd (pc := 56) C dX12_womanIs_56 ?_
          refine g_iload_n (pc := 57) C dX12_womanIs_57 rfl 2 rfl ?_
          refine g_iadd (pc := 58) C dX12_womanIs_58 ?_
          refine g_bipush (pc := 59) (v := 10) C dX12_womanIs_59 (by decide) ?_
          refine g_isub (pc := 61) C dX12_womanIs_61 ?_
          refine g_iald (pc := 62) C dX12_womanIs_62 1 rfl h (fun v5 h => ?_)
          cases h
          exact hret _ _ _ dX12_womanIs_63 rfl rfl
      · refine g_aload_n (pc := 29) C dX12_womanIs_29 rfl 0 rfl ?_
        refine g_iload_n (pc := 30) C dX12_womanIs_30 rfl 1 rfl ?_
        obtain ⟨u6, hu6, h⟩ := bs h
        refine g_callV (pc := 31) (st := []) (st1 := [.int u6]) (ws' := (W_X12_womanIs E o_t a_t t_toldDoors t_barredDoors t_taped t_place0 t_length0 t_fault t_number0 t_open t_codeMany t_waiting t_saidMany t_clauses t_newMany t_rounds t_pinFrom t_pinTimes t_lines t_wasTold t_wasBarred t_goesNow t_jamsNow t_queued t_isKept t_now)) C mv_X12_pinsOf mi_X12_pinsOf ml_X12_311 (c_X12_pinsOf X.2.1 E o_t a_t t_toldDoors t_barredDoors t_taped t_place0 t_length0 t_fault t_number0 t_open t_codeMany t_waiting t_saidMany t_clauses t_newMany t_rounds t_pinFrom t_pinTimes t_lines t_wasTold t_wasBarred t_goesNow t_jamsNow t_queued t_isKept t_now x1 u6 hu6) dX12_womanIs_31 (by decide) rfl (Nat.le_of_ble_eq_true rfl) 0 11 rfl rfl [0, 1] rfl (by decide) rfl rfl rfl rfl ?_
        cases h
        exact hret _ _ _ dX12_womanIs_34 rfl rfl
    · refine g_aload_n (pc := 14) C dX12_womanIs_14 rfl 0 rfl ?_
      refine g_get (pc := 15) C fl_X12_7 dX12_womanIs_15 0 rfl rfl ?_
      refine g_bipush (pc := 18) (v := 34) C dX12_womanIs_18 (by decide) ?_
      refine g_iload_n (pc := 20) C dX12_womanIs_20 rfl 1 rfl ?_
      refine g_iadd (pc := 21) C dX12_womanIs_21 ?_
      refine g_iald (pc := 22) C dX12_womanIs_22 1 rfl h (fun v7 h => ?_)
      cases h
      exact hret _ _ _ dX12_womanIs_23 rfl rfl
  · refine g_iconst (pc := 8) (v := -1) C dX12_womanIs_8 (by decide) ?_
    cases h
    exact hret _ _ _ dX12_womanIs_9 rfl rfl
abbrev W_X12_womenIn (E : GE) (O_t : Nat) (a_t : Nat → Nat) (t_toldDoors : Int32) (t_barredDoors : Int32) (t_taped : Int32) (t_place0 : Int32) (t_length0 : Int32) (t_fault : Int32) (t_number0 : Int32) (t_open : Int32) (t_codeMany : Int32) (t_waiting : Int32) (t_saidMany : Int32) (t_clauses : Int32) (t_newMany : Int32) (t_rounds : Int32) (t_pinFrom : Int32) (t_pinTimes : Int32) (t_lines : Int32) (t_wasTold : Int32) (t_wasBarred : Int32) (t_goesNow : Int32) (t_jamsNow : Int32) (t_queued : Int32) (t_isKept : Int32) (t_now : (Nat → Int32)) : va_W := [(O_t, ob_X12 a_t t_toldDoors t_barredDoors t_taped t_place0 t_length0 t_fault t_number0 t_open t_codeMany t_waiting t_saidMany t_clauses t_newMany t_rounds t_pinFrom t_pinTimes t_lines t_wasTold t_wasBarred t_goesNow t_jamsNow t_queued t_isKept), (a_t 0, .inl (E.2.1, 166, .inl t_now))]
def L_X12_womenIn_4 (t_now : (Nat → Int32)) (x1 : Int32) : Nat → Int32 × Int32 → Option (Int32) := lp fun go s => if (10 : Int32) ≤ s.2 then (some s.1) else (f_X12_isWoman t_now s.2).bind fun u1 => if u1 = 0 then (nm (s.2 + (1 : Int32)) fun v2 => go (s.1, v2)) else rd t_now 166 ((34 : Int32) + s.2) fun v3 => if v3 = x1 then (nm (s.1 ||| ((1 : Int32) <<< (s.2 &&& 31))) fun v5 => nm (s.2 + (1 : Int32)) fun v6 => go (v5, v6)) else nm (s.2 + (1 : Int32)) fun v4 => go (s.1, v4)
def f_X12_womenIn (t_now : (Nat → Int32)) (x1 : Int32) : Option (Int32) := L_X12_womenIn_4 t_now x1 fu ((0 : Int32), (0 : Int32))
theorem dX12_womenIn_0 : decode cX12_womenIn 0 = .ok (.iconst 0, 1) := by decide +kernel
theorem dX12_womenIn_1 : decode cX12_womenIn 1 = .ok (.istore_n 2, 1) := by decide +kernel
theorem dX12_womenIn_2 : decode cX12_womenIn 2 = .ok (.iconst 0, 1) := by decide +kernel
theorem dX12_womenIn_3 : decode cX12_womenIn 3 = .ok (.istore_n 3, 1) := by decide +kernel
theorem dX12_womenIn_4 : decode cX12_womenIn 4 = .ok (.iload_n 3, 1) := by decide +kernel
theorem dX12_womenIn_5 : decode cX12_womenIn 5 = .ok (.bipush 10, 2) := by decide +kernel
theorem dX12_womenIn_7 : decode cX12_womenIn 7 = .ok (.if_icmp .ge 36, 3) := by decide +kernel
theorem dX12_womenIn_10 : decode cX12_womenIn 10 = .ok (.aload_n 0, 1) := by decide +kernel
theorem dX12_womenIn_11 : decode cX12_womenIn 11 = .ok (.iload_n 3, 1) := by decide +kernel
theorem dX12_womenIn_12 : decode cX12_womenIn 12 = .ok (.invokevirtual 268, 3) := by decide +kernel
theorem dX12_womenIn_15 : decode cX12_womenIn 15 = .ok (.ifCond .eq 22, 3) := by decide +kernel
theorem dX12_womenIn_18 : decode cX12_womenIn 18 = .ok (.aload_n 0, 1) := by decide +kernel
theorem dX12_womenIn_19 : decode cX12_womenIn 19 = .ok (.getfield 7, 3) := by decide +kernel
theorem dX12_womenIn_22 : decode cX12_womenIn 22 = .ok (.bipush 34, 2) := by decide +kernel
theorem dX12_womenIn_24 : decode cX12_womenIn 24 = .ok (.iload_n 3, 1) := by decide +kernel
theorem dX12_womenIn_25 : decode cX12_womenIn 25 = .ok (.iadd, 1) := by decide +kernel
theorem dX12_womenIn_26 : decode cX12_womenIn 26 = .ok (.iaload, 1) := by decide +kernel
theorem dX12_womenIn_27 : decode cX12_womenIn 27 = .ok (.iload_n 1, 1) := by decide +kernel
theorem dX12_womenIn_28 : decode cX12_womenIn 28 = .ok (.if_icmp .ne 9, 3) := by decide +kernel
theorem dX12_womenIn_31 : decode cX12_womenIn 31 = .ok (.iload_n 2, 1) := by decide +kernel
theorem dX12_womenIn_32 : decode cX12_womenIn 32 = .ok (.iconst 1, 1) := by decide +kernel
theorem dX12_womenIn_33 : decode cX12_womenIn 33 = .ok (.iload_n 3, 1) := by decide +kernel
theorem dX12_womenIn_34 : decode cX12_womenIn 34 = .ok (.ishl, 1) := by decide +kernel
theorem dX12_womenIn_35 : decode cX12_womenIn 35 = .ok (.ior, 1) := by decide +kernel
theorem dX12_womenIn_36 : decode cX12_womenIn 36 = .ok (.istore_n 2, 1) := by decide +kernel
theorem dX12_womenIn_37 : decode cX12_womenIn 37 = .ok (.iinc 3 1, 3) := by decide +kernel
theorem dX12_womenIn_40 : decode cX12_womenIn 40 = .ok (.goto (-36), 3) := by decide +kernel
theorem dX12_womenIn_43 : decode cX12_womenIn 43 = .ok (.iload_n 2, 1) := by decide +kernel
theorem dX12_womenIn_44 : decode cX12_womenIn 44 = .ok (.ireturn, 1) := by decide +kernel
set_option maxHeartbeats 4000000 in
set_option maxRecDepth 100000 in
theorem kL_X12_womenIn_4 {X : GC} {E : GE} (C : Cx X E cX12_womenIn RX12 3 4) (o_t : Nat) (a_t : Nat → Nat) (t_toldDoors : Int32) (t_barredDoors : Int32) (t_taped : Int32) (t_place0 : Int32) (t_length0 : Int32) (t_fault : Int32) (t_number0 : Int32) (t_open : Int32) (t_codeMany : Int32) (t_waiting : Int32) (t_saidMany : Int32) (t_clauses : Int32) (t_newMany : Int32) (t_rounds : Int32) (t_pinFrom : Int32) (t_pinTimes : Int32) (t_lines : Int32) (t_wasTold : Int32) (t_wasBarred : Int32) (t_goesNow : Int32) (t_jamsNow : Int32) (t_queued : Int32) (t_isKept : Int32) (t_now : (Nat → Int32)) (x1 : Int32) {r : Int32} (hret : RtI X E cX12_womenIn .int 0 0 (fun w => w = (W_X12_womenIn E o_t a_t t_toldDoors t_barredDoors t_taped t_place0 t_length0 t_fault t_number0 t_open t_codeMany t_waiting t_saidMany t_clauses t_newMany t_rounds t_pinFrom t_pinTimes t_lines t_wasTold t_wasBarred t_goesNow t_jamsNow t_queued t_isKept t_now)) r) : ∀ (n : Nat) (s : Int32 × Int32), L_X12_womenIn_4 t_now x1 n s = some r → Gx X E 0 0 (W_X12_womenIn E o_t a_t t_toldDoors t_barredDoors t_taped t_place0 t_length0 t_fault t_number0 t_open t_codeMany t_waiting t_saidMany t_clauses t_newMany t_rounds t_pinFrom t_pinTimes t_lines t_wasTold t_wasBarred t_goesNow t_jamsNow t_queued t_isKept t_now) 4 [(0, .ref o_t), (1, .int x1), (2, .int s.1), (3, .int s.2)] [] := by
  unfold L_X12_womenIn_4
  refine lp_ind _ (fun go ih s h => ?_)
  refine g_iload_n (pc := 4) C dX12_womenIn_4 rfl 3 rfl ?_
  refine g_bipush (pc := 5) (v := 10) C dX12_womenIn_5 (by decide) ?_
  refine g_icmp_ge (pc := 7) (tgt := 43) C dX12_womenIn_7 (by decide) h (fun h => ?_) (fun h => ?_)
  · refine g_iload_n (pc := 43) C dX12_womenIn_43 rfl 2 rfl ?_
    cases h
    exact hret _ _ _ dX12_womenIn_44 rfl rfl
  · refine g_aload_n (pc := 10) C dX12_womenIn_10 rfl 0 rfl ?_
    refine g_iload_n (pc := 11) C dX12_womenIn_11 rfl 3 rfl ?_
    obtain ⟨u1, hu1, h⟩ := bs h
    refine g_callV (pc := 12) (st := []) (st1 := [.int u1]) (ws' := (W_X12_womenIn E o_t a_t t_toldDoors t_barredDoors t_taped t_place0 t_length0 t_fault t_number0 t_open t_codeMany t_waiting t_saidMany t_clauses t_newMany t_rounds t_pinFrom t_pinTimes t_lines t_wasTold t_wasBarred t_goesNow t_jamsNow t_queued t_isKept t_now)) C mv_X12_isWoman mi_X12_isWoman ml_X12_268 (c_X12_isWoman X.2.1 E o_t a_t t_toldDoors t_barredDoors t_taped t_place0 t_length0 t_fault t_number0 t_open t_codeMany t_waiting t_saidMany t_clauses t_newMany t_rounds t_pinFrom t_pinTimes t_lines t_wasTold t_wasBarred t_goesNow t_jamsNow t_queued t_isKept t_now s.2 u1 hu1) dX12_womenIn_12 (by decide) rfl (Nat.le_of_ble_eq_true rfl) 0 11 rfl rfl [0, 1] rfl (by decide) rfl rfl rfl rfl ?_
    refine g_if_eq (pc := 15) (tgt := 37) C dX12_womenIn_15 (by decide) h (fun h => ?_) (fun h => ?_)
    · refine g_iincn (pc := 37) (j := 3) (d := 1) (lv' := fun v2 => [(3, .int v2), (0, .ref o_t), (1, .int x1), (2, .int s.1)]) C dX12_womenIn_37 rfl (by decide) (by decide) (fun _ => rfl) h (fun v2 h => ?_)
      refine g_goto (pc := 40) (tgt := 4) C dX12_womenIn_40 (by decide) ?_
      refine g_sub [1, 2, 3, 0] rfl ?_
      exact ih _ h
    · refine g_aload_n (pc := 18) C dX12_womenIn_18 rfl 0 rfl ?_
      refine g_get (pc := 19) C fl_X12_7 dX12_womenIn_19 0 rfl rfl ?_
      refine g_bipush (pc := 22) (v := 34) C dX12_womenIn_22 (by decide) ?_
      refine g_iload_n (pc := 24) C dX12_womenIn_24 rfl 3 rfl ?_
      refine g_iadd (pc := 25) C dX12_womenIn_25 ?_
      refine g_iald (pc := 26) C dX12_womenIn_26 1 rfl h (fun v3 h => ?_)
      refine g_iload_n (pc := 27) C dX12_womenIn_27 rfl 1 rfl ?_
      refine g_icmp_ne (pc := 28) (tgt := 37) C dX12_womenIn_28 (by decide) h (fun h => ?_) (fun h => ?_)
      · refine g_iincn (pc := 37) (j := 3) (d := 1) (lv' := fun v4 => [(3, .int v4), (0, .ref o_t), (1, .int x1), (2, .int s.1)]) C dX12_womenIn_37 rfl (by decide) (by decide) (fun _ => rfl) h (fun v4 h => ?_)
        refine g_goto (pc := 40) (tgt := 4) C dX12_womenIn_40 (by decide) ?_
        refine g_sub [1, 2, 3, 0] rfl ?_
        exact ih _ h
      · refine g_iload_n (pc := 31) C dX12_womenIn_31 rfl 2 rfl ?_
        refine g_iconst (pc := 32) (v := 1) C dX12_womenIn_32 (by decide) ?_
        refine g_iload_n (pc := 33) C dX12_womenIn_33 rfl 3 rfl ?_
        refine g_ishl (pc := 34) C dX12_womenIn_34 ?_
        refine g_ior (pc := 35) C dX12_womenIn_35 ?_
        refine g_nm h (fun v5 h => ?_)
        refine g_istore_n (pc := 36) (lv' := [(2, .int v5), (0, .ref o_t), (1, .int x1), (3, .int s.2)]) C dX12_womenIn_36 rfl (by decide) rfl ?_
        refine g_iincn (pc := 37) (j := 3) (d := 1) (lv' := fun v6 => [(3, .int v6), (2, .int v5), (0, .ref o_t), (1, .int x1)]) C dX12_womenIn_37 rfl (by decide) (by decide) (fun _ => rfl) h (fun v6 h => ?_)
        refine g_goto (pc := 40) (tgt := 4) C dX12_womenIn_40 (by decide) ?_
        refine g_sub [2, 3, 1, 0] rfl ?_
        exact ih _ h
set_option maxHeartbeats 4000000 in
set_option maxRecDepth 100000 in
theorem c_X12_womenIn (l : Launch) (E : GE) (o_t : Nat) (a_t : Nat → Nat) (t_toldDoors : Int32) (t_barredDoors : Int32) (t_taped : Int32) (t_place0 : Int32) (t_length0 : Int32) (t_fault : Int32) (t_number0 : Int32) (t_open : Int32) (t_codeMany : Int32) (t_waiting : Int32) (t_saidMany : Int32) (t_clauses : Int32) (t_newMany : Int32) (t_rounds : Int32) (t_pinFrom : Int32) (t_pinTimes : Int32) (t_lines : Int32) (t_wasTold : Int32) (t_wasBarred : Int32) (t_goesNow : Int32) (t_jamsNow : Int32) (t_queued : Int32) (t_isKept : Int32) (t_now : (Nat → Int32)) (x1 : Int32) (r : Int32) (h : f_X12_womenIn t_now x1 = some r) : Cn l E yX12_womenIn cX12_womenIn 4 (some .int) 3 0 0 [.ref o_t, .int x1] (W_X12_womenIn E o_t a_t t_toldDoors t_barredDoors t_taped t_place0 t_length0 t_fault t_number0 t_open t_codeMany t_waiting t_saidMany t_clauses t_newMany t_rounds t_pinFrom t_pinTimes t_lines t_wasTold t_wasBarred t_goesNow t_jamsNow t_queued t_isKept t_now) (fun w => w = (W_X12_womenIn E o_t a_t t_toldDoors t_barredDoors t_taped t_place0 t_length0 t_fault t_number0 t_open t_codeMany t_waiting t_saidMany t_clauses t_newMany t_rounds t_pinFrom t_pinTimes t_lines t_wasTold t_wasBarred t_goesNow t_jamsNow t_queued t_isKept t_now)) (some (.int r)) := by
  refine Cn.ofI (by decide +kernel) (Nat.le_of_ble_eq_true rfl) (fun X hX hR C hret => ?_)
  subst hX
  show Gx X E 0 0 (W_X12_womenIn E o_t a_t t_toldDoors t_barredDoors t_taped t_place0 t_length0 t_fault t_number0 t_open t_codeMany t_waiting t_saidMany t_clauses t_newMany t_rounds t_pinFrom t_pinTimes t_lines t_wasTold t_wasBarred t_goesNow t_jamsNow t_queued t_isKept t_now) 0 [(0, .ref o_t), (1, .int x1)] []
  unfold f_X12_womenIn at h
  refine g_iconst (pc := 0) (v := 0) C dX12_womenIn_0 (by decide) ?_
  refine g_istore_n (pc := 1) (lv' := [(2, .int (0 : Int32)), (0, .ref o_t), (1, .int x1)]) C dX12_womenIn_1 rfl (by decide) rfl ?_
  refine g_iconst (pc := 2) (v := 0) C dX12_womenIn_2 (by decide) ?_
  refine g_istore_n (pc := 3) (lv' := [(3, .int (0 : Int32)), (2, .int (0 : Int32)), (0, .ref o_t), (1, .int x1)]) C dX12_womenIn_3 rfl (by decide) rfl ?_
  refine g_sub [2, 3, 1, 0] rfl ?_
  refine kL_X12_womenIn_4 C o_t a_t t_toldDoors t_barredDoors t_taped t_place0 t_length0 t_fault t_number0 t_open t_codeMany t_waiting t_saidMany t_clauses t_newMany t_rounds t_pinFrom t_pinTimes t_lines t_wasTold t_wasBarred t_goesNow t_jamsNow t_queued t_isKept t_now x1 hret  _ _ h
abbrev W_X12_atOnce (E : GE) (O_t : Nat) (a_t : Nat → Nat) (t_toldDoors : Int32) (t_barredDoors : Int32) (t_taped : Int32) (t_place0 : Int32) (t_length0 : Int32) (t_fault : Int32) (t_number0 : Int32) (t_open : Int32) (t_codeMany : Int32) (t_waiting : Int32) (t_saidMany : Int32) (t_clauses : Int32) (t_newMany : Int32) (t_rounds : Int32) (t_pinFrom : Int32) (t_pinTimes : Int32) (t_lines : Int32) (t_wasTold : Int32) (t_wasBarred : Int32) (t_goesNow : Int32) (t_jamsNow : Int32) (t_queued : Int32) (t_isKept : Int32) (t_now : (Nat → Int32)) (t_prongsOf : (Nat → Int32)) (t_oneOf : (Nat → Int32)) (t_otherOf : (Nat → Int32)) (t_wardsOf : (Nat → Int32)) : va_W := [(O_t, ob_X12 a_t t_toldDoors t_barredDoors t_taped t_place0 t_length0 t_fault t_number0 t_open t_codeMany t_waiting t_saidMany t_clauses t_newMany t_rounds t_pinFrom t_pinTimes t_lines t_wasTold t_wasBarred t_goesNow t_jamsNow t_queued t_isKept), (a_t 0, .inl (E.2.1, 166, .inl t_now)), (a_t 3, .inl (E.2.1, 6, .inl t_prongsOf)), (a_t 4, .inl (E.2.1, 24, .inl t_oneOf)), (a_t 5, .inl (E.2.1, 24, .inl t_otherOf)), (a_t 6, .inl (E.2.1, 24, .inl t_wardsOf))]
def L_X12_atOnce_39 (t_toldDoors : Int32) (t_barredDoors : Int32) (t_now : (Nat → Int32)) (t_prongsOf : (Nat → Int32)) (t_oneOf : (Nat → Int32)) (t_otherOf : (Nat → Int32)) (t_wardsOf : (Nat → Int32)) (x1 : Int32) (x2 : Int32) (x3 : Int32) (x4 : Int32) (k0 : Int32 → Option (Int32)) : Nat → Int32 × Int32 → Option (Int32) := lp fun go s => if (6 : Int32) ≤ s.2 then (k0 s.1) else (f_X12_has x4 s.2).bind fun u3 => if u3 = 0 then (nm (s.2 + (1 : Int32)) fun v4 => go (s.1, v4)) else rd t_now 166 (((104 : Int32) + ((6 : Int32) * x1)) + s.2) fun v5 => nm (s.1 + v5) fun v6 => nm (s.2 + (1 : Int32)) fun v7 => go (v6, v7)
def L_X12_atOnce_85 (t_toldDoors : Int32) (t_barredDoors : Int32) (t_now : (Nat → Int32)) (t_prongsOf : (Nat → Int32)) (t_oneOf : (Nat → Int32)) (t_otherOf : (Nat → Int32)) (t_wardsOf : (Nat → Int32)) (x1 : Int32) (x2 : Int32) (x3 : Int32) (x4 : Int32) (k0 : Int32 → Option (Int32)) : Nat → Int32 × Int32 → Option (Int32) := lp fun go s => if (24 : Int32) ≤ s.2 then (k0 s.1) else (f_X12_canOpen t_toldDoors t_barredDoors s.2).bind fun u9 => jn (fun s10 : Int32 => if s10 = 0 then (nm (s.2 + (1 : Int32)) fun v11 => go (s.1, v11)) else (f_X12_fitting t_prongsOf t_wardsOf s.2).bind fun u12 => if (u12 &&& (x4 ^^^ (-1 : Int32))) = 0 then (nm (s.2 + (1 : Int32)) fun v13 => go (s.1, v13)) else nm (s.1 + (1 : Int32)) fun v14 => nm (s.2 + (1 : Int32)) fun v15 => go (v14, v15)) fun j129 => jn (fun s16 : Unit => j129 (0 : Int32)) fun j128 => if u9 = 0 then (j128 ()) else if x2 = 0 then (j129 (1 : Int32)) else rd t_now 166 ((34 : Int32) + x1) fun v17 => (f_X12_behind t_oneOf t_otherOf s.2 v17).bind fun u18 => if u18 = (-1 : Int32) then (j128 ()) else j129 (1 : Int32)
def L_X12_atOnce_26 (t_toldDoors : Int32) (t_barredDoors : Int32) (t_now : (Nat → Int32)) (t_prongsOf : (Nat → Int32)) (t_oneOf : (Nat → Int32)) (t_otherOf : (Nat → Int32)) (t_wardsOf : (Nat → Int32)) (x1 : Int32) (x2 : Int32) : Nat → Int32 × Int32 → Option (Int32) := lp fun go s => if (64 : Int32) ≤ s.2 then (some s.1) else L_X12_atOnce_39 t_toldDoors t_barredDoors t_now t_prongsOf t_oneOf t_otherOf t_wardsOf x1 x2 s.1 s.2 (fun s8 => L_X12_atOnce_85 t_toldDoors t_barredDoors t_now t_prongsOf t_oneOf t_otherOf t_wardsOf x1 x2 s.1 s.2 (fun s19 => (f_X12_min s.1 s19).bind fun u20 => nm (s.2 + (1 : Int32)) fun v21 => go (u20, v21)) fu (s8, (0 : Int32))) fu ((0 : Int32), (0 : Int32))
def f_X12_atOnce (t_toldDoors : Int32) (t_barredDoors : Int32) (t_now : (Nat → Int32)) (t_prongsOf : (Nat → Int32)) (t_oneOf : (Nat → Int32)) (t_otherOf : (Nat → Int32)) (t_wardsOf : (Nat → Int32)) (x1 : Int32) (x2 : Int32) : Option (Int32) := (f_X12_isWoman t_now x1).bind fun u1 => if u1 = 0 then (some (-1 : Int32)) else (f_X12_in x2 (0 : Int32) (1 : Int32)).bind fun u2 => if u2 = 0 then (some (-1 : Int32)) else L_X12_atOnce_26 t_toldDoors t_barredDoors t_now t_prongsOf t_oneOf t_otherOf t_wardsOf x1 x2 fu ((1000000 : Int32), (0 : Int32))
theorem dX12_atOnce_0 : decode cX12_atOnce 0 = .ok (.aload_n 0, 1) := by decide +kernel
theorem dX12_atOnce_1 : decode cX12_atOnce 1 = .ok (.iload_n 1, 1) := by decide +kernel
theorem dX12_atOnce_2 : decode cX12_atOnce 2 = .ok (.invokevirtual 268, 3) := by decide +kernel
theorem dX12_atOnce_5 : decode cX12_atOnce 5 = .ok (.ifCond .eq 12, 3) := by decide +kernel
theorem dX12_atOnce_8 : decode cX12_atOnce 8 = .ok (.iload_n 2, 1) := by decide +kernel
theorem dX12_atOnce_9 : decode cX12_atOnce 9 = .ok (.iconst 0, 1) := by decide +kernel
theorem dX12_atOnce_10 : decode cX12_atOnce 10 = .ok (.iconst 1, 1) := by decide +kernel
theorem dX12_atOnce_11 : decode cX12_atOnce 11 = .ok (.invokestatic 117, 3) := by decide +kernel
theorem dX12_atOnce_14 : decode cX12_atOnce 14 = .ok (.ifCond .ne 5, 3) := by decide +kernel
theorem dX12_atOnce_17 : decode cX12_atOnce 17 = .ok (.iconst (-1), 1) := by decide +kernel
theorem dX12_atOnce_18 : decode cX12_atOnce 18 = .ok (.ireturn, 1) := by decide +kernel
theorem dX12_atOnce_19 : decode cX12_atOnce 19 = .ok (.ldc_w 383, 3) := by decide +kernel
theorem dX12_atOnce_22 : decode cX12_atOnce 22 = .ok (.istore_n 3, 1) := by decide +kernel
theorem dX12_atOnce_23 : decode cX12_atOnce 23 = .ok (.iconst 0, 1) := by decide +kernel
theorem dX12_atOnce_24 : decode cX12_atOnce 24 = .ok (.istore 4, 2) := by decide +kernel
theorem dX12_atOnce_26 : decode cX12_atOnce 26 = .ok (.iload 4, 2) := by decide +kernel
theorem dX12_atOnce_28 : decode cX12_atOnce 28 = .ok (.bipush 64, 2) := by decide +kernel
theorem dX12_atOnce_30 : decode cX12_atOnce 30 = .ok (.if_icmp .ge 145, 3) := by decide +kernel
theorem dX12_atOnce_33 : decode cX12_atOnce 33 = .ok (.iconst 0, 1) := by decide +kernel
theorem dX12_atOnce_34 : decode cX12_atOnce 34 = .ok (.istore 5, 2) := by decide +kernel
theorem dX12_atOnce_36 : decode cX12_atOnce 36 = .ok (.iconst 0, 1) := by decide +kernel
theorem dX12_atOnce_37 : decode cX12_atOnce 37 = .ok (.istore 6, 2) := by decide +kernel
theorem dX12_atOnce_39 : decode cX12_atOnce 39 = .ok (.iload 6, 2) := by decide +kernel
theorem dX12_atOnce_41 : decode cX12_atOnce 41 = .ok (.bipush 6, 2) := by decide +kernel
theorem dX12_atOnce_43 : decode cX12_atOnce 43 = .ok (.if_icmp .ge 39, 3) := by decide +kernel
theorem dX12_atOnce_46 : decode cX12_atOnce 46 = .ok (.iload 4, 2) := by decide +kernel
theorem dX12_atOnce_48 : decode cX12_atOnce 48 = .ok (.iload 6, 2) := by decide +kernel
theorem dX12_atOnce_50 : decode cX12_atOnce 50 = .ok (.invokestatic 125, 3) := by decide +kernel
theorem dX12_atOnce_53 : decode cX12_atOnce 53 = .ok (.ifCond .eq 23, 3) := by decide +kernel
theorem dX12_atOnce_56 : decode cX12_atOnce 56 = .ok (.iload 5, 2) := by decide +kernel
theorem dX12_atOnce_58 : decode cX12_atOnce 58 = .ok (.aload_n 0, 1) := by decide +kernel
theorem dX12_atOnce_59 : decode cX12_atOnce 59 = .ok (.getfield 7, 3) := by decide +kernel
theorem dX12_atOnce_62 : decode cX12_atOnce 62 = .ok (.bipush 104, 2) := by decide +kernel
theorem dX12_atOnce_64 : decode cX12_atOnce 64 = .ok (.bipush 6, 2) := by decide +kernel
theorem dX12_atOnce_66 : decode cX12_atOnce 66 = .ok (.iload_n 1, 1) := by decide +kernel
theorem dX12_atOnce_67 : decode cX12_atOnce 67 = .ok (.imul, 1) := by decide +kernel
theorem dX12_atOnce_68 : decode cX12_atOnce 68 = .ok (.iadd, 1) := by decide +kernel
theorem dX12_atOnce_69 : decode cX12_atOnce 69 = .ok (.iload 6, 2) := by decide +kernel
theorem dX12_atOnce_71 : decode cX12_atOnce 71 = .ok (.iadd, 1) := by decide +kernel
theorem dX12_atOnce_72 : decode cX12_atOnce 72 = .ok (.iaload, 1) := by decide +kernel
theorem dX12_atOnce_73 : decode cX12_atOnce 73 = .ok (.iadd, 1) := by decide +kernel
theorem dX12_atOnce_74 : decode cX12_atOnce 74 = .ok (.istore 5, 2) := by decide +kernel
theorem dX12_atOnce_76 : decode cX12_atOnce 76 = .ok (.iinc 6 1, 3) := by decide +kernel
theorem dX12_atOnce_79 : decode cX12_atOnce 79 = .ok (.goto (-40), 3) := by decide +kernel
theorem dX12_atOnce_82 : decode cX12_atOnce 82 = .ok (.iconst 0, 1) := by decide +kernel
theorem dX12_atOnce_83 : decode cX12_atOnce 83 = .ok (.istore 6, 2) := by decide +kernel
theorem dX12_atOnce_85 : decode cX12_atOnce 85 = .ok (.iload 6, 2) := by decide +kernel
theorem dX12_atOnce_87 : decode cX12_atOnce 87 = .ok (.bipush 24, 2) := by decide +kernel
theorem dX12_atOnce_89 : decode cX12_atOnce 89 = .ok (.if_icmp .ge 73, 3) := by decide +kernel
theorem dX12_atOnce_92 : decode cX12_atOnce 92 = .ok (.aload_n 0, 1) := by decide +kernel
theorem dX12_atOnce_93 : decode cX12_atOnce 93 = .ok (.iload 6, 2) := by decide +kernel
theorem dX12_atOnce_95 : decode cX12_atOnce 95 = .ok (.invokevirtual 329, 3) := by decide +kernel
theorem dX12_atOnce_98 : decode cX12_atOnce 98 = .ok (.ifCond .eq 30, 3) := by decide +kernel
theorem dX12_atOnce_101 : decode cX12_atOnce 101 = .ok (.iload_n 2, 1) := by decide +kernel
theorem dX12_atOnce_102 : decode cX12_atOnce 102 = .ok (.ifCond .eq 22, 3) := by decide +kernel
theorem dX12_atOnce_105 : decode cX12_atOnce 105 = .ok (.aload_n 0, 1) := by decide +kernel
theorem dX12_atOnce_106 : decode cX12_atOnce 106 = .ok (.iload 6, 2) := by decide +kernel
theorem dX12_atOnce_108 : decode cX12_atOnce 108 = .ok (.aload_n 0, 1) := by decide +kernel
theorem dX12_atOnce_109 : decode cX12_atOnce 109 = .ok (.getfield 7, 3) := by decide +kernel
theorem dX12_atOnce_112 : decode cX12_atOnce 112 = .ok (.bipush 34, 2) := by decide +kernel
theorem dX12_atOnce_114 : decode cX12_atOnce 114 = .ok (.iload_n 1, 1) := by decide +kernel
theorem dX12_atOnce_115 : decode cX12_atOnce 115 = .ok (.iadd, 1) := by decide +kernel
theorem dX12_atOnce_116 : decode cX12_atOnce 116 = .ok (.iaload, 1) := by decide +kernel
theorem dX12_atOnce_117 : decode cX12_atOnce 117 = .ok (.invokevirtual 317, 3) := by decide +kernel
theorem dX12_atOnce_120 : decode cX12_atOnce 120 = .ok (.iconst (-1), 1) := by decide +kernel
theorem dX12_atOnce_121 : decode cX12_atOnce 121 = .ok (.if_icmp .eq 7, 3) := by decide +kernel
theorem dX12_atOnce_124 : decode cX12_atOnce 124 = .ok (.iconst 1, 1) := by decide +kernel
theorem dX12_atOnce_125 : decode cX12_atOnce 125 = .ok (.goto 4, 3) := by decide +kernel
theorem dX12_atOnce_128 : decode cX12_atOnce 128 = .ok (.iconst 0, 1) := by decide +kernel
theorem dX12_atOnce_129 : decode cX12_atOnce 129 = .ok (.istore 7, 2) := by decide +kernel
theorem dX12_atOnce_131 : decode cX12_atOnce 131 = .ok (.iload 7, 2) := by decide +kernel
theorem dX12_atOnce_133 : decode cX12_atOnce 133 = .ok (.ifCond .eq 23, 3) := by decide +kernel
theorem dX12_atOnce_136 : decode cX12_atOnce 136 = .ok (.aload_n 0, 1) := by decide +kernel
theorem dX12_atOnce_137 : decode cX12_atOnce 137 = .ok (.iload 6, 2) := by decide +kernel
theorem dX12_atOnce_139 : decode cX12_atOnce 139 = .ok (.invokevirtual 360, 3) := by decide +kernel
theorem dX12_atOnce_142 : decode cX12_atOnce 142 = .ok (.iload 4, 2) := by decide +kernel
theorem dX12_atOnce_144 : decode cX12_atOnce 144 = .ok (.iconst (-1), 1) := by decide +kernel
theorem dX12_atOnce_145 : decode cX12_atOnce 145 = .ok (.ixor, 1) := by decide +kernel
theorem dX12_atOnce_146 : decode cX12_atOnce 146 = .ok (.iand, 1) := by decide +kernel
theorem dX12_atOnce_147 : decode cX12_atOnce 147 = .ok (.ifCond .eq 9, 3) := by decide +kernel
theorem dX12_atOnce_150 : decode cX12_atOnce 150 = .ok (.iload 5, 2) := by decide +kernel
theorem dX12_atOnce_152 : decode cX12_atOnce 152 = .ok (.iconst 1, 1) := by decide +kernel
theorem dX12_atOnce_153 : decode cX12_atOnce 153 = .ok (.iadd, 1) := by decide +kernel
theorem dX12_atOnce_154 : decode cX12_atOnce 154 = .ok (.istore 5, 2) := by decide +kernel
theorem dX12_atOnce_156 : decode cX12_atOnce 156 = .ok (.iinc 6 1, 3) := by decide +kernel
theorem dX12_atOnce_159 : decode cX12_atOnce 159 = .ok (.goto (-74), 3) := by decide +kernel
theorem dX12_atOnce_162 : decode cX12_atOnce 162 = .ok (.iload_n 3, 1) := by decide +kernel
theorem dX12_atOnce_163 : decode cX12_atOnce 163 = .ok (.iload 5, 2) := by decide +kernel
theorem dX12_atOnce_165 : decode cX12_atOnce 165 = .ok (.invokestatic 345, 3) := by decide +kernel
theorem dX12_atOnce_168 : decode cX12_atOnce 168 = .ok (.istore_n 3, 1) := by decide +kernel
theorem dX12_atOnce_169 : decode cX12_atOnce 169 = .ok (.iinc 4 1, 3) := by decide +kernel
theorem dX12_atOnce_172 : decode cX12_atOnce 172 = .ok (.goto (-146), 3) := by decide +kernel
theorem dX12_atOnce_175 : decode cX12_atOnce 175 = .ok (.iload_n 3, 1) := by decide +kernel
theorem dX12_atOnce_176 : decode cX12_atOnce 176 = .ok (.ireturn, 1) := by decide +kernel
set_option maxHeartbeats 4000000 in
set_option maxRecDepth 100000 in
theorem kL_X12_atOnce_39 {X : GC} {E : GE} (C : Cx X E cX12_atOnce RX12 4 8) (o_t : Nat) (a_t : Nat → Nat) (t_taped : Int32) (t_place0 : Int32) (t_length0 : Int32) (t_fault : Int32) (t_number0 : Int32) (t_open : Int32) (t_codeMany : Int32) (t_waiting : Int32) (t_saidMany : Int32) (t_clauses : Int32) (t_newMany : Int32) (t_rounds : Int32) (t_pinFrom : Int32) (t_pinTimes : Int32) (t_lines : Int32) (t_wasTold : Int32) (t_wasBarred : Int32) (t_goesNow : Int32) (t_jamsNow : Int32) (t_queued : Int32) (t_isKept : Int32) (t_toldDoors : Int32) (t_barredDoors : Int32) (t_now : (Nat → Int32)) (t_prongsOf : (Nat → Int32)) (t_oneOf : (Nat → Int32)) (t_otherOf : (Nat → Int32)) (t_wardsOf : (Nat → Int32)) (x1 : Int32) (x2 : Int32) (x3 : Int32) (x4 : Int32) (k0 : Int32 → Option (Int32)) {r : Int32} (hret : RtI X E cX12_atOnce .int 0 0 (fun w => w = (W_X12_atOnce E o_t a_t t_toldDoors t_barredDoors t_taped t_place0 t_length0 t_fault t_number0 t_open t_codeMany t_waiting t_saidMany t_clauses t_newMany t_rounds t_pinFrom t_pinTimes t_lines t_wasTold t_wasBarred t_goesNow t_jamsNow t_queued t_isKept t_now t_prongsOf t_oneOf t_otherOf t_wardsOf)) r) (hk0 : ∀ u, k0 u = some r → Gx X E 0 0 (W_X12_atOnce E o_t a_t t_toldDoors t_barredDoors t_taped t_place0 t_length0 t_fault t_number0 t_open t_codeMany t_waiting t_saidMany t_clauses t_newMany t_rounds t_pinFrom t_pinTimes t_lines t_wasTold t_wasBarred t_goesNow t_jamsNow t_queued t_isKept t_now t_prongsOf t_oneOf t_otherOf t_wardsOf) 82 [(0, .ref o_t), (1, .int x1), (2, .int x2), (3, .int x3), (4, .int x4), (5, .int u)] []) : ∀ (n : Nat) (s : Int32 × Int32), L_X12_atOnce_39 t_toldDoors t_barredDoors t_now t_prongsOf t_oneOf t_otherOf t_wardsOf x1 x2 x3 x4 k0 n s = some r → Gx X E 0 0 (W_X12_atOnce E o_t a_t t_toldDoors t_barredDoors t_taped t_place0 t_length0 t_fault t_number0 t_open t_codeMany t_waiting t_saidMany t_clauses t_newMany t_rounds t_pinFrom t_pinTimes t_lines t_wasTold t_wasBarred t_goesNow t_jamsNow t_queued t_isKept t_now t_prongsOf t_oneOf t_otherOf t_wardsOf) 39 [(0, .ref o_t), (1, .int x1), (2, .int x2), (3, .int x3), (4, .int x4), (5, .int s.1), (6, .int s.2)] [] := by
  unfold L_X12_atOnce_39
  refine lp_ind _ (fun go ih s h => ?_)
  refine g_iload (pc := 39) C dX12_atOnce_39 6 rfl ?_
  refine g_bipush (pc := 41) (v := 6) C dX12_atOnce_41 (by decide) ?_
  refine g_icmp_ge (pc := 43) (tgt := 82) C dX12_atOnce_43 (by decide) h (fun h => ?_) (fun h => ?_)
  · refine g_sub [0, 1, 2, 3, 4, 5] rfl ?_
    exact hk0 _ h
  · refine g_iload (pc := 46) C dX12_atOnce_46 4 rfl ?_
    refine g_iload (pc := 48) C dX12_atOnce_48 6 rfl ?_
    obtain ⟨u3, hu3, h⟩ := bs h
    refine g_callS (pc := 50) (st := []) (st1 := [.int u3]) (ws' := (W_X12_atOnce E o_t a_t t_toldDoors t_barredDoors t_taped t_place0 t_length0 t_fault t_number0 t_open t_codeMany t_waiting t_saidMany t_clauses t_newMany t_rounds t_pinFrom t_pinTimes t_lines t_wasTold t_wasBarred t_goesNow t_jamsNow t_queued t_isKept t_now t_prongsOf t_oneOf t_otherOf t_wardsOf)) C mv_X12_has ms_X12_has ml_X12_125 (c_X12_has X.2.1 E x4 s.2 u3 hu3) dX12_atOnce_50 (by decide) rfl (Nat.le_of_ble_eq_true rfl) [] rfl (by decide) rfl rfl rfl rfl ?_
    refine g_if_eq (pc := 53) (tgt := 76) C dX12_atOnce_53 (by decide) h (fun h => ?_) (fun h => ?_)
    · refine g_iincn (pc := 76) (j := 6) (d := 1) (lv' := fun v4 => [(6, .int v4), (0, .ref o_t), (1, .int x1), (2, .int x2), (3, .int x3), (4, .int x4), (5, .int s.1)]) C dX12_atOnce_76 rfl (by decide) (by decide) (fun _ => rfl) h (fun v4 h => ?_)
      refine g_goto (pc := 79) (tgt := 39) C dX12_atOnce_79 (by decide) ?_
      refine g_sub [1, 2, 3, 4, 5, 6, 0] rfl ?_
      exact ih _ h
    · refine g_iload (pc := 56) C dX12_atOnce_56 5 rfl ?_
      refine g_aload_n (pc := 58) C dX12_atOnce_58 rfl 0 rfl ?_
      refine g_get (pc := 59) C fl_X12_7 dX12_atOnce_59 0 rfl rfl ?_
      refine g_bipush (pc := 62) (v := 104) C dX12_atOnce_62 (by decide) ?_
      refine g_bipush (pc := 64) (v := 6) C dX12_atOnce_64 (by decide) ?_
      refine g_iload_n (pc := 66) C dX12_atOnce_66 rfl 1 rfl ?_
      refine g_imul (pc := 67) C dX12_atOnce_67 ?_
      refine g_iadd (pc := 68) C dX12_atOnce_68 ?_
      refine g_iload (pc := 69) C dX12_atOnce_69 6 rfl ?_
      refine g_iadd (pc := 71) C dX12_atOnce_71 ?_
      refine g_iald (pc := 72) C dX12_atOnce_72 1 rfl h (fun v5 h => ?_)
      refine g_iadd (pc := 73) C dX12_atOnce_73 ?_
      refine g_nm h (fun v6 h => ?_)
      refine g_istore (pc := 74) (lv' := [(5, .int v6), (0, .ref o_t), (1, .int x1), (2, .int x2), (3, .int x3), (4, .int x4), (6, .int s.2)]) C dX12_atOnce_74 (by decide) rfl ?_
      refine g_iincn (pc := 76) (j := 6) (d := 1) (lv' := fun v7 => [(6, .int v7), (5, .int v6), (0, .ref o_t), (1, .int x1), (2, .int x2), (3, .int x3), (4, .int x4)]) C dX12_atOnce_76 rfl (by decide) (by decide) (fun _ => rfl) h (fun v7 h => ?_)
      refine g_goto (pc := 79) (tgt := 39) C dX12_atOnce_79 (by decide) ?_
      refine g_sub [2, 3, 4, 5, 6, 1, 0] rfl ?_
      exact ih _ h
set_option maxHeartbeats 4000000 in
set_option maxRecDepth 100000 in
theorem kL_X12_atOnce_85 {X : GC} {E : GE} (C : Cx X E cX12_atOnce RX12 4 8) (o_t : Nat) (a_t : Nat → Nat) (t_taped : Int32) (t_place0 : Int32) (t_length0 : Int32) (t_fault : Int32) (t_number0 : Int32) (t_open : Int32) (t_codeMany : Int32) (t_waiting : Int32) (t_saidMany : Int32) (t_clauses : Int32) (t_newMany : Int32) (t_rounds : Int32) (t_pinFrom : Int32) (t_pinTimes : Int32) (t_lines : Int32) (t_wasTold : Int32) (t_wasBarred : Int32) (t_goesNow : Int32) (t_jamsNow : Int32) (t_queued : Int32) (t_isKept : Int32) (t_toldDoors : Int32) (t_barredDoors : Int32) (t_now : (Nat → Int32)) (t_prongsOf : (Nat → Int32)) (t_oneOf : (Nat → Int32)) (t_otherOf : (Nat → Int32)) (t_wardsOf : (Nat → Int32)) (x1 : Int32) (x2 : Int32) (x3 : Int32) (x4 : Int32) (k0 : Int32 → Option (Int32)) {r : Int32} (hret : RtI X E cX12_atOnce .int 0 0 (fun w => w = (W_X12_atOnce E o_t a_t t_toldDoors t_barredDoors t_taped t_place0 t_length0 t_fault t_number0 t_open t_codeMany t_waiting t_saidMany t_clauses t_newMany t_rounds t_pinFrom t_pinTimes t_lines t_wasTold t_wasBarred t_goesNow t_jamsNow t_queued t_isKept t_now t_prongsOf t_oneOf t_otherOf t_wardsOf)) r) (hk0 : ∀ u, k0 u = some r → Gx X E 0 0 (W_X12_atOnce E o_t a_t t_toldDoors t_barredDoors t_taped t_place0 t_length0 t_fault t_number0 t_open t_codeMany t_waiting t_saidMany t_clauses t_newMany t_rounds t_pinFrom t_pinTimes t_lines t_wasTold t_wasBarred t_goesNow t_jamsNow t_queued t_isKept t_now t_prongsOf t_oneOf t_otherOf t_wardsOf) 162 [(0, .ref o_t), (1, .int x1), (2, .int x2), (3, .int x3), (4, .int x4), (5, .int u)] []) : ∀ (n : Nat) (s : Int32 × Int32), L_X12_atOnce_85 t_toldDoors t_barredDoors t_now t_prongsOf t_oneOf t_otherOf t_wardsOf x1 x2 x3 x4 k0 n s = some r → Gx X E 0 0 (W_X12_atOnce E o_t a_t t_toldDoors t_barredDoors t_taped t_place0 t_length0 t_fault t_number0 t_open t_codeMany t_waiting t_saidMany t_clauses t_newMany t_rounds t_pinFrom t_pinTimes t_lines t_wasTold t_wasBarred t_goesNow t_jamsNow t_queued t_isKept t_now t_prongsOf t_oneOf t_otherOf t_wardsOf) 85 [(0, .ref o_t), (1, .int x1), (2, .int x2), (3, .int x3), (4, .int x4), (5, .int s.1), (6, .int s.2)] [] := by
  unfold L_X12_atOnce_85
  refine lp_ind _ (fun go ih s h => ?_)
  refine g_iload (pc := 85) C dX12_atOnce_85 6 rfl ?_
  refine g_bipush (pc := 87) (v := 24) C dX12_atOnce_87 (by decide) ?_
  refine g_icmp_ge (pc := 89) (tgt := 162) C dX12_atOnce_89 (by decide) h (fun h => ?_) (fun h => ?_)
  · refine g_sub [0, 1, 2, 3, 4, 5] rfl ?_
    exact hk0 _ h
  · refine g_aload_n (pc := 92) C dX12_atOnce_92 rfl 0 rfl ?_
    refine g_iload (pc := 93) C dX12_atOnce_93 6 rfl ?_
    obtain ⟨u9, hu9, h⟩ := bs h
    refine g_callV (pc := 95) (st := []) (st1 := [.int u9]) (ws' := (W_X12_atOnce E o_t a_t t_toldDoors t_barredDoors t_taped t_place0 t_length0 t_fault t_number0 t_open t_codeMany t_waiting t_saidMany t_clauses t_newMany t_rounds t_pinFrom t_pinTimes t_lines t_wasTold t_wasBarred t_goesNow t_jamsNow t_queued t_isKept t_now t_prongsOf t_oneOf t_otherOf t_wardsOf)) C mv_X12_canOpen mi_X12_canOpen ml_X12_329 (c_X12_canOpen X.2.1 E o_t a_t t_toldDoors t_barredDoors t_taped t_place0 t_length0 t_fault t_number0 t_open t_codeMany t_waiting t_saidMany t_clauses t_newMany t_rounds t_pinFrom t_pinTimes t_lines t_wasTold t_wasBarred t_goesNow t_jamsNow t_queued t_isKept s.2 u9 hu9) dX12_atOnce_95 (by decide) rfl (Nat.le_of_ble_eq_true rfl) 0 11 rfl rfl [0] rfl (by decide) rfl rfl rfl rfl ?_
    refine g_jn (fun s10 : Int32 => Gx X E 0 0 (W_X12_atOnce E o_t a_t t_toldDoors t_barredDoors t_taped t_place0 t_length0 t_fault t_number0 t_open t_codeMany t_waiting t_saidMany t_clauses t_newMany t_rounds t_pinFrom t_pinTimes t_lines t_wasTold t_wasBarred t_goesNow t_jamsNow t_queued t_isKept t_now t_prongsOf t_oneOf t_otherOf t_wardsOf) 129 [(0, .ref o_t), (1, .int x1), (2, .int x2), (3, .int x3), (4, .int x4), (5, .int s.1), (6, .int s.2)] [.int s10]) h (fun s10 h => ?_) (fun j129 hj129 h => ?_)
    · refine g_istore (pc := 129) (lv' := [(7, .int s10), (0, .ref o_t), (1, .int x1), (2, .int x2), (3, .int x3), (4, .int x4), (5, .int s.1), (6, .int s.2)]) C dX12_atOnce_129 (by decide) rfl ?_
      refine g_iload (pc := 131) C dX12_atOnce_131 0 rfl ?_
      refine g_if_eq (pc := 133) (tgt := 156) C dX12_atOnce_133 (by decide) h (fun h => ?_) (fun h => ?_)
      · refine g_iincn (pc := 156) (j := 7) (d := 1) (lv' := fun v11 => [(6, .int v11), (7, .int s10), (0, .ref o_t), (1, .int x1), (2, .int x2), (3, .int x3), (4, .int x4), (5, .int s.1)]) C dX12_atOnce_156 rfl (by decide) (by decide) (fun _ => rfl) h (fun v11 h => ?_)
        refine g_goto (pc := 159) (tgt := 85) C dX12_atOnce_159 (by decide) ?_
        refine g_sub [2, 3, 4, 5, 6, 7, 0] rfl ?_
        exact ih _ h
      · refine g_aload_n (pc := 136) C dX12_atOnce_136 rfl 1 rfl ?_
        refine g_iload (pc := 137) C dX12_atOnce_137 7 rfl ?_
        obtain ⟨u12, hu12, h⟩ := bs h
        refine g_callV (pc := 139) (st := []) (st1 := [.int u12]) (ws' := (W_X12_atOnce E o_t a_t t_toldDoors t_barredDoors t_taped t_place0 t_length0 t_fault t_number0 t_open t_codeMany t_waiting t_saidMany t_clauses t_newMany t_rounds t_pinFrom t_pinTimes t_lines t_wasTold t_wasBarred t_goesNow t_jamsNow t_queued t_isKept t_now t_prongsOf t_oneOf t_otherOf t_wardsOf)) C mv_X12_fitting mi_X12_fitting ml_X12_360 (c_X12_fitting X.2.1 E o_t a_t t_toldDoors t_barredDoors t_taped t_place0 t_length0 t_fault t_number0 t_open t_codeMany t_waiting t_saidMany t_clauses t_newMany t_rounds t_pinFrom t_pinTimes t_lines t_wasTold t_wasBarred t_goesNow t_jamsNow t_queued t_isKept t_prongsOf t_wardsOf s.2 u12 hu12) dX12_atOnce_139 (by decide) rfl (Nat.le_of_ble_eq_true rfl) 0 11 rfl rfl [0, 2, 5] rfl (by decide) rfl rfl rfl rfl ?_
        refine g_iload (pc := 142) C dX12_atOnce_142 5 rfl ?_
        refine g_iconst (pc := 144) (v := -1) C dX12_atOnce_144 (by decide) ?_
        refine g_ixor (pc := 145) C dX12_atOnce_145 ?_
        refine g_iand (pc := 146) C dX12_atOnce_146 ?_
        refine g_if_eq (pc := 147) (tgt := 156) C dX12_atOnce_147 (by decide) h (fun h => ?_) (fun h => ?_)
        · refine g_iincn (pc := 156) (j := 7) (d := 1) (lv' := fun v13 => [(6, .int v13), (7, .int s10), (0, .ref o_t), (1, .int x1), (2, .int x2), (3, .int x3), (4, .int x4), (5, .int s.1)]) C dX12_atOnce_156 rfl (by decide) (by decide) (fun _ => rfl) h (fun v13 h => ?_)
          refine g_goto (pc := 159) (tgt := 85) C dX12_atOnce_159 (by decide) ?_
          refine g_sub [2, 3, 4, 5, 6, 7, 0] rfl ?_
          exact ih _ h
        · refine g_iload (pc := 150) C dX12_atOnce_150 6 rfl ?_
          refine g_iconst (pc := 152) (v := 1) C dX12_atOnce_152 (by decide) ?_
          refine g_iadd (pc := 153) C dX12_atOnce_153 ?_
          refine g_nm h (fun v14 h => ?_)
          refine g_istore (pc := 154) (lv' := [(5, .int v14), (7, .int s10), (0, .ref o_t), (1, .int x1), (2, .int x2), (3, .int x3), (4, .int x4), (6, .int s.2)]) C dX12_atOnce_154 (by decide) rfl ?_
          refine g_iincn (pc := 156) (j := 7) (d := 1) (lv' := fun v15 => [(6, .int v15), (5, .int v14), (7, .int s10), (0, .ref o_t), (1, .int x1), (2, .int x2), (3, .int x3), (4, .int x4)]) C dX12_atOnce_156 rfl (by decide) (by decide) (fun _ => rfl) h (fun v15 h => ?_)
          refine g_goto (pc := 159) (tgt := 85) C dX12_atOnce_159 (by decide) ?_
          refine g_sub [3, 4, 5, 6, 7, 1, 0] rfl ?_
          exact ih _ h
    refine g_jn (fun s16 : Unit => Gx X E 0 0 (W_X12_atOnce E o_t a_t t_toldDoors t_barredDoors t_taped t_place0 t_length0 t_fault t_number0 t_open t_codeMany t_waiting t_saidMany t_clauses t_newMany t_rounds t_pinFrom t_pinTimes t_lines t_wasTold t_wasBarred t_goesNow t_jamsNow t_queued t_isKept t_now t_prongsOf t_oneOf t_otherOf t_wardsOf) 128 [(0, .ref o_t), (1, .int x1), (2, .int x2), (3, .int x3), (4, .int x4), (5, .int s.1), (6, .int s.2)] []) h (fun s16 h => ?_) (fun j128 hj128 h => ?_)
    · refine g_iconst (pc := 128) (v := 0) C dX12_atOnce_128 (by decide) ?_
      exact hj129 _ h
    refine g_if_eq (pc := 98) (tgt := 128) C dX12_atOnce_98 (by decide) h (fun h => ?_) (fun h => ?_)
    · exact hj128 _ h
    · refine g_iload_n (pc := 101) C dX12_atOnce_101 rfl 2 rfl ?_
      refine g_if_eq (pc := 102) (tgt := 124) C dX12_atOnce_102 (by decide) h (fun h => ?_) (fun h => ?_)
      · refine g_iconst (pc := 124) (v := 1) C dX12_atOnce_124 (by decide) ?_
        refine g_goto (pc := 125) (tgt := 129) C dX12_atOnce_125 (by decide) ?_
        exact hj129 _ h
      · refine g_aload_n (pc := 105) C dX12_atOnce_105 rfl 0 rfl ?_
        refine g_iload (pc := 106) C dX12_atOnce_106 6 rfl ?_
        refine g_aload_n (pc := 108) C dX12_atOnce_108 rfl 0 rfl ?_
        refine g_get (pc := 109) C fl_X12_7 dX12_atOnce_109 0 rfl rfl ?_
        refine g_bipush (pc := 112) (v := 34) C dX12_atOnce_112 (by decide) ?_
        refine g_iload_n (pc := 114) C dX12_atOnce_114 rfl 1 rfl ?_
        refine g_iadd (pc := 115) C dX12_atOnce_115 ?_
        refine g_iald (pc := 116) C dX12_atOnce_116 1 rfl h (fun v17 h => ?_)
        obtain ⟨u18, hu18, h⟩ := bs h
        refine g_callV (pc := 117) (st := []) (st1 := [.int u18]) (ws' := (W_X12_atOnce E o_t a_t t_toldDoors t_barredDoors t_taped t_place0 t_length0 t_fault t_number0 t_open t_codeMany t_waiting t_saidMany t_clauses t_newMany t_rounds t_pinFrom t_pinTimes t_lines t_wasTold t_wasBarred t_goesNow t_jamsNow t_queued t_isKept t_now t_prongsOf t_oneOf t_otherOf t_wardsOf)) C mv_X12_behind mi_X12_behind ml_X12_317 (c_X12_behind X.2.1 E o_t a_t t_toldDoors t_barredDoors t_taped t_place0 t_length0 t_fault t_number0 t_open t_codeMany t_waiting t_saidMany t_clauses t_newMany t_rounds t_pinFrom t_pinTimes t_lines t_wasTold t_wasBarred t_goesNow t_jamsNow t_queued t_isKept t_oneOf t_otherOf s.2 v17 u18 hu18) dX12_atOnce_117 (by decide) rfl (Nat.le_of_ble_eq_true rfl) 0 11 rfl rfl [0, 3, 4] rfl (by decide) rfl rfl rfl rfl ?_
        refine g_iconst (pc := 120) (v := -1) C dX12_atOnce_120 (by decide) ?_
        refine g_icmp_eq (pc := 121) (tgt := 128) C dX12_atOnce_121 (by decide) h (fun h => ?_) (fun h => ?_)
        · exact hj128 _ h
        · refine g_iconst (pc := 124) (v := 1) C dX12_atOnce_124 (by decide) ?_
          refine g_goto (pc := 125) (tgt := 129) C dX12_atOnce_125 (by decide) ?_
          exact hj129 _ h
set_option maxHeartbeats 4000000 in
set_option maxRecDepth 100000 in
theorem kL_X12_atOnce_26 {X : GC} {E : GE} (C : Cx X E cX12_atOnce RX12 4 8) (o_t : Nat) (a_t : Nat → Nat) (t_taped : Int32) (t_place0 : Int32) (t_length0 : Int32) (t_fault : Int32) (t_number0 : Int32) (t_open : Int32) (t_codeMany : Int32) (t_waiting : Int32) (t_saidMany : Int32) (t_clauses : Int32) (t_newMany : Int32) (t_rounds : Int32) (t_pinFrom : Int32) (t_pinTimes : Int32) (t_lines : Int32) (t_wasTold : Int32) (t_wasBarred : Int32) (t_goesNow : Int32) (t_jamsNow : Int32) (t_queued : Int32) (t_isKept : Int32) (t_toldDoors : Int32) (t_barredDoors : Int32) (t_now : (Nat → Int32)) (t_prongsOf : (Nat → Int32)) (t_oneOf : (Nat → Int32)) (t_otherOf : (Nat → Int32)) (t_wardsOf : (Nat → Int32)) (x1 : Int32) (x2 : Int32) {r : Int32} (hret : RtI X E cX12_atOnce .int 0 0 (fun w => w = (W_X12_atOnce E o_t a_t t_toldDoors t_barredDoors t_taped t_place0 t_length0 t_fault t_number0 t_open t_codeMany t_waiting t_saidMany t_clauses t_newMany t_rounds t_pinFrom t_pinTimes t_lines t_wasTold t_wasBarred t_goesNow t_jamsNow t_queued t_isKept t_now t_prongsOf t_oneOf t_otherOf t_wardsOf)) r) : ∀ (n : Nat) (s : Int32 × Int32), L_X12_atOnce_26 t_toldDoors t_barredDoors t_now t_prongsOf t_oneOf t_otherOf t_wardsOf x1 x2 n s = some r → Gx X E 0 0 (W_X12_atOnce E o_t a_t t_toldDoors t_barredDoors t_taped t_place0 t_length0 t_fault t_number0 t_open t_codeMany t_waiting t_saidMany t_clauses t_newMany t_rounds t_pinFrom t_pinTimes t_lines t_wasTold t_wasBarred t_goesNow t_jamsNow t_queued t_isKept t_now t_prongsOf t_oneOf t_otherOf t_wardsOf) 26 [(0, .ref o_t), (1, .int x1), (2, .int x2), (3, .int s.1), (4, .int s.2)] [] := by
  unfold L_X12_atOnce_26
  refine lp_ind _ (fun go ih s h => ?_)
  refine g_iload (pc := 26) C dX12_atOnce_26 4 rfl ?_
  refine g_bipush (pc := 28) (v := 64) C dX12_atOnce_28 (by decide) ?_
  refine g_icmp_ge (pc := 30) (tgt := 175) C dX12_atOnce_30 (by decide) h (fun h => ?_) (fun h => ?_)
  · refine g_iload_n (pc := 175) C dX12_atOnce_175 rfl 3 rfl ?_
    cases h
    exact hret _ _ _ dX12_atOnce_176 rfl rfl
  · refine g_iconst (pc := 33) (v := 0) C dX12_atOnce_33 (by decide) ?_
    refine g_istore (pc := 34) (lv' := [(5, .int (0 : Int32)), (0, .ref o_t), (1, .int x1), (2, .int x2), (3, .int s.1), (4, .int s.2)]) C dX12_atOnce_34 (by decide) rfl ?_
    refine g_iconst (pc := 36) (v := 0) C dX12_atOnce_36 (by decide) ?_
    refine g_istore (pc := 37) (lv' := [(6, .int (0 : Int32)), (5, .int (0 : Int32)), (0, .ref o_t), (1, .int x1), (2, .int x2), (3, .int s.1), (4, .int s.2)]) C dX12_atOnce_37 (by decide) rfl ?_
    refine g_sub [2, 3, 4, 5, 6, 1, 0] rfl ?_
    refine kL_X12_atOnce_39 C o_t a_t t_taped t_place0 t_length0 t_fault t_number0 t_open t_codeMany t_waiting t_saidMany t_clauses t_newMany t_rounds t_pinFrom t_pinTimes t_lines t_wasTold t_wasBarred t_goesNow t_jamsNow t_queued t_isKept t_toldDoors t_barredDoors t_now t_prongsOf t_oneOf t_otherOf t_wardsOf x1 x2 s.1 s.2 _ hret (fun s8 h => ?_) _ _ h
    refine g_iconst (pc := 82) (v := 0) C dX12_atOnce_82 (by decide) ?_
    refine g_istore (pc := 83) (lv' := [(6, .int (0 : Int32)), (0, .ref o_t), (1, .int x1), (2, .int x2), (3, .int s.1), (4, .int s.2), (5, .int s8)]) C dX12_atOnce_83 (by decide) rfl ?_
    refine g_sub [1, 2, 3, 4, 5, 6, 0] rfl ?_
    refine kL_X12_atOnce_85 C o_t a_t t_taped t_place0 t_length0 t_fault t_number0 t_open t_codeMany t_waiting t_saidMany t_clauses t_newMany t_rounds t_pinFrom t_pinTimes t_lines t_wasTold t_wasBarred t_goesNow t_jamsNow t_queued t_isKept t_toldDoors t_barredDoors t_now t_prongsOf t_oneOf t_otherOf t_wardsOf x1 x2 s.1 s.2 _ hret (fun s19 h => ?_) _ _ h
    refine g_iload_n (pc := 162) C dX12_atOnce_162 rfl 3 rfl ?_
    refine g_iload (pc := 163) C dX12_atOnce_163 5 rfl ?_
    obtain ⟨u20, hu20, h⟩ := bs h
    refine g_callS (pc := 165) (st := []) (st1 := [.int u20]) (ws' := (W_X12_atOnce E o_t a_t t_toldDoors t_barredDoors t_taped t_place0 t_length0 t_fault t_number0 t_open t_codeMany t_waiting t_saidMany t_clauses t_newMany t_rounds t_pinFrom t_pinTimes t_lines t_wasTold t_wasBarred t_goesNow t_jamsNow t_queued t_isKept t_now t_prongsOf t_oneOf t_otherOf t_wardsOf)) C mv_X12_min ms_X12_min ml_X12_345 (c_X12_min X.2.1 E s.1 s19 u20 hu20) dX12_atOnce_165 (by decide) rfl (Nat.le_of_ble_eq_true rfl) [] rfl (by decide) rfl rfl rfl rfl ?_
    refine g_istore_n (pc := 168) (lv' := [(3, .int u20), (0, .ref o_t), (1, .int x1), (2, .int x2), (4, .int s.2), (5, .int s19)]) C dX12_atOnce_168 rfl (by decide) rfl ?_
    refine g_iincn (pc := 169) (j := 4) (d := 1) (lv' := fun v21 => [(4, .int v21), (3, .int u20), (0, .ref o_t), (1, .int x1), (2, .int x2), (5, .int s19)]) C dX12_atOnce_169 rfl (by decide) (by decide) (fun _ => rfl) h (fun v21 h => ?_)
    refine g_goto (pc := 172) (tgt := 26) C dX12_atOnce_172 (by decide) ?_
    refine g_sub [2, 3, 4, 1, 0] rfl ?_
    exact ih _ h
set_option maxHeartbeats 4000000 in
set_option maxRecDepth 100000 in
theorem c_X12_atOnce (l : Launch) (E : GE) (o_t : Nat) (a_t : Nat → Nat) (t_toldDoors : Int32) (t_barredDoors : Int32) (t_taped : Int32) (t_place0 : Int32) (t_length0 : Int32) (t_fault : Int32) (t_number0 : Int32) (t_open : Int32) (t_codeMany : Int32) (t_waiting : Int32) (t_saidMany : Int32) (t_clauses : Int32) (t_newMany : Int32) (t_rounds : Int32) (t_pinFrom : Int32) (t_pinTimes : Int32) (t_lines : Int32) (t_wasTold : Int32) (t_wasBarred : Int32) (t_goesNow : Int32) (t_jamsNow : Int32) (t_queued : Int32) (t_isKept : Int32) (t_now : (Nat → Int32)) (t_prongsOf : (Nat → Int32)) (t_oneOf : (Nat → Int32)) (t_otherOf : (Nat → Int32)) (t_wardsOf : (Nat → Int32)) (x1 : Int32) (x2 : Int32) (r : Int32) (h : f_X12_atOnce t_toldDoors t_barredDoors t_now t_prongsOf t_oneOf t_otherOf t_wardsOf x1 x2 = some r) : Cn l E yX12_atOnce cX12_atOnce 8 (some .int) 4 0 0 [.ref o_t, .int x1, .int x2] (W_X12_atOnce E o_t a_t t_toldDoors t_barredDoors t_taped t_place0 t_length0 t_fault t_number0 t_open t_codeMany t_waiting t_saidMany t_clauses t_newMany t_rounds t_pinFrom t_pinTimes t_lines t_wasTold t_wasBarred t_goesNow t_jamsNow t_queued t_isKept t_now t_prongsOf t_oneOf t_otherOf t_wardsOf) (fun w => w = (W_X12_atOnce E o_t a_t t_toldDoors t_barredDoors t_taped t_place0 t_length0 t_fault t_number0 t_open t_codeMany t_waiting t_saidMany t_clauses t_newMany t_rounds t_pinFrom t_pinTimes t_lines t_wasTold t_wasBarred t_goesNow t_jamsNow t_queued t_isKept t_now t_prongsOf t_oneOf t_otherOf t_wardsOf)) (some (.int r)) := by
  refine Cn.ofI (by decide +kernel) (Nat.le_of_ble_eq_true rfl) (fun X hX hR C hret => ?_)
  subst hX
  show Gx X E 0 0 (W_X12_atOnce E o_t a_t t_toldDoors t_barredDoors t_taped t_place0 t_length0 t_fault t_number0 t_open t_codeMany t_waiting t_saidMany t_clauses t_newMany t_rounds t_pinFrom t_pinTimes t_lines t_wasTold t_wasBarred t_goesNow t_jamsNow t_queued t_isKept t_now t_prongsOf t_oneOf t_otherOf t_wardsOf) 0 [(0, .ref o_t), (1, .int x1), (2, .int x2)] []
  unfold f_X12_atOnce at h
  refine g_aload_n (pc := 0) C dX12_atOnce_0 rfl 0 rfl ?_
  refine g_iload_n (pc := 1) C dX12_atOnce_1 rfl 1 rfl ?_
  obtain ⟨u1, hu1, h⟩ := bs h
  refine g_callV (pc := 2) (st := []) (st1 := [.int u1]) (ws' := (W_X12_atOnce E o_t a_t t_toldDoors t_barredDoors t_taped t_place0 t_length0 t_fault t_number0 t_open t_codeMany t_waiting t_saidMany t_clauses t_newMany t_rounds t_pinFrom t_pinTimes t_lines t_wasTold t_wasBarred t_goesNow t_jamsNow t_queued t_isKept t_now t_prongsOf t_oneOf t_otherOf t_wardsOf)) C mv_X12_isWoman mi_X12_isWoman ml_X12_268 (c_X12_isWoman X.2.1 E o_t a_t t_toldDoors t_barredDoors t_taped t_place0 t_length0 t_fault t_number0 t_open t_codeMany t_waiting t_saidMany t_clauses t_newMany t_rounds t_pinFrom t_pinTimes t_lines t_wasTold t_wasBarred t_goesNow t_jamsNow t_queued t_isKept t_now x1 u1 hu1) dX12_atOnce_2 (by decide) rfl (Nat.le_of_ble_eq_true rfl) 0 11 rfl rfl [0, 1] rfl (by decide) rfl rfl rfl rfl ?_
  refine g_if_eq (pc := 5) (tgt := 17) C dX12_atOnce_5 (by decide) h (fun h => ?_) (fun h => ?_)
  · refine g_iconst (pc := 17) (v := -1) C dX12_atOnce_17 (by decide) ?_
    cases h
    exact hret _ _ _ dX12_atOnce_18 rfl rfl
  · refine g_iload_n (pc := 8) C dX12_atOnce_8 rfl 2 rfl ?_
    refine g_iconst (pc := 9) (v := 0) C dX12_atOnce_9 (by decide) ?_
    refine g_iconst (pc := 10) (v := 1) C dX12_atOnce_10 (by decide) ?_
    obtain ⟨u2, hu2, h⟩ := bs h
    refine g_callS (pc := 11) (st := []) (st1 := [.int u2]) (ws' := (W_X12_atOnce E o_t a_t t_toldDoors t_barredDoors t_taped t_place0 t_length0 t_fault t_number0 t_open t_codeMany t_waiting t_saidMany t_clauses t_newMany t_rounds t_pinFrom t_pinTimes t_lines t_wasTold t_wasBarred t_goesNow t_jamsNow t_queued t_isKept t_now t_prongsOf t_oneOf t_otherOf t_wardsOf)) C mv_X12_in ms_X12_in ml_X12_117 (c_X12_in X.2.1 E x2 (0 : Int32) (1 : Int32) u2 hu2) dX12_atOnce_11 (by decide) rfl (Nat.le_of_ble_eq_true rfl) [] rfl (by decide) rfl rfl rfl rfl ?_
    refine g_if_ne (pc := 14) (tgt := 19) C dX12_atOnce_14 (by decide) h (fun h => ?_) (fun h => ?_)
    · refine g_ldcw (pc := 19) C dX12_atOnce_19 ct_X12_383 ?_
      refine g_istore_n (pc := 22) (lv' := [(3, .int (1000000 : Int32)), (0, .ref o_t), (1, .int x1), (2, .int x2)]) C dX12_atOnce_22 rfl (by decide) rfl ?_
      refine g_iconst (pc := 23) (v := 0) C dX12_atOnce_23 (by decide) ?_
      refine g_istore (pc := 24) (lv' := [(4, .int (0 : Int32)), (3, .int (1000000 : Int32)), (0, .ref o_t), (1, .int x1), (2, .int x2)]) C dX12_atOnce_24 (by decide) rfl ?_
      refine g_sub [2, 3, 4, 1, 0] rfl ?_
      refine kL_X12_atOnce_26 C o_t a_t t_taped t_place0 t_length0 t_fault t_number0 t_open t_codeMany t_waiting t_saidMany t_clauses t_newMany t_rounds t_pinFrom t_pinTimes t_lines t_wasTold t_wasBarred t_goesNow t_jamsNow t_queued t_isKept t_toldDoors t_barredDoors t_now t_prongsOf t_oneOf t_otherOf t_wardsOf x1 x2 hret  _ _ h
    · refine g_iconst (pc := 17) (v := -1) C dX12_atOnce_17 (by decide) ?_
      cases h
      exact hret _ _ _ dX12_atOnce_18 rfl rfl
abbrev W_X12_count (E : GE) (O_t : Nat) (a_t : Nat → Nat) (t_toldDoors : Int32) (t_barredDoors : Int32) (t_taped : Int32) (t_place0 : Int32) (t_length0 : Int32) (t_fault : Int32) (t_number0 : Int32) (t_open : Int32) (t_codeMany : Int32) (t_waiting : Int32) (t_saidMany : Int32) (t_clauses : Int32) (t_newMany : Int32) (t_rounds : Int32) (t_pinFrom : Int32) (t_pinTimes : Int32) (t_lines : Int32) (t_wasTold : Int32) (t_wasBarred : Int32) (t_goesNow : Int32) (t_jamsNow : Int32) (t_queued : Int32) (t_isKept : Int32) (t_now : (Nat → Int32)) : va_W := [(O_t, ob_X12 a_t t_toldDoors t_barredDoors t_taped t_place0 t_length0 t_fault t_number0 t_open t_codeMany t_waiting t_saidMany t_clauses t_newMany t_rounds t_pinFrom t_pinTimes t_lines t_wasTold t_wasBarred t_goesNow t_jamsNow t_queued t_isKept), (a_t 0, .inl (E.2.1, 166, .inl t_now))]
def f_X12_count (t_toldDoors : Int32) (t_barredDoors : Int32) (t_taped : Int32) (t_clauses : Int32) (t_now : (Nat → Int32)) (x1 : Int32) : Option (Int32) := (f_X12_in x1 (10 : Int32) (25 : Int32)).bind fun u1 => if u1 = 0 then (if x1 = (0 : Int32) then (rd t_now 166 (164 : Int32) fun v3 => some v3) else if x1 = (1 : Int32) then ((f_X12_toldWomen t_now).bind fun u5 => some u5) else if x1 = (2 : Int32) then (some t_toldDoors) else if x1 = (3 : Int32) then (some t_barredDoors) else if x1 = (4 : Int32) then ((f_X12_pinsOfAll t_now).bind fun u9 => some u9) else if x1 = (5 : Int32) then (some t_clauses) else if x1 = (6 : Int32) then (some t_taped) else if x1 = (7 : Int32) then (rd t_now 166 (165 : Int32) fun v13 => some v13) else some (-1 : Int32)) else (f_X12_womenIn t_now (x1 - (10 : Int32))).bind fun u14 => some u14
theorem dX12_count_0 : decode cX12_count 0 = .ok (.iload_n 1, 1) := by decide +kernel
theorem dX12_count_1 : decode cX12_count 1 = .ok (.bipush 10, 2) := by decide +kernel
theorem dX12_count_3 : decode cX12_count 3 = .ok (.bipush 25, 2) := by decide +kernel
theorem dX12_count_5 : decode cX12_count 5 = .ok (.invokestatic 117, 3) := by decide +kernel
theorem dX12_count_8 : decode cX12_count 8 = .ok (.ifCond .eq 12, 3) := by decide +kernel
theorem dX12_count_11 : decode cX12_count 11 = .ok (.aload_n 0, 1) := by decide +kernel
theorem dX12_count_12 : decode cX12_count 12 = .ok (.iload_n 1, 1) := by decide +kernel
theorem dX12_count_13 : decode cX12_count 13 = .ok (.bipush 10, 2) := by decide +kernel
theorem dX12_count_15 : decode cX12_count 15 = .ok (.isub, 1) := by decide +kernel
theorem dX12_count_16 : decode cX12_count 16 = .ok (.invokevirtual 323, 3) := by decide +kernel
theorem dX12_count_19 : decode cX12_count 19 = .ok (.ireturn, 1) := by decide +kernel
theorem dX12_count_20 : decode cX12_count 20 = .ok (.iload_n 1, 1) := by decide +kernel
theorem dX12_count_21 : decode cX12_count 21 = .ok (.tableswitch 95 0 7 #[47, 56, 61, 66, 71, 76, 81, 86], 47) := by decide +kernel
theorem dX12_count_68 : decode cX12_count 68 = .ok (.aload_n 0, 1) := by decide +kernel
theorem dX12_count_69 : decode cX12_count 69 = .ok (.getfield 7, 3) := by decide +kernel
theorem dX12_count_72 : decode cX12_count 72 = .ok (.sipush 164, 3) := by decide +kernel
theorem dX12_count_75 : decode cX12_count 75 = .ok (.iaload, 1) := by decide +kernel
theorem dX12_count_76 : decode cX12_count 76 = .ok (.ireturn, 1) := by decide +kernel
theorem dX12_count_77 : decode cX12_count 77 = .ok (.aload_n 0, 1) := by decide +kernel
theorem dX12_count_78 : decode cX12_count 78 = .ok (.invokevirtual 413, 3) := by decide +kernel
theorem dX12_count_81 : decode cX12_count 81 = .ok (.ireturn, 1) := by decide +kernel
theorem dX12_count_82 : decode cX12_count 82 = .ok (.aload_n 0, 1) := by decide +kernel
theorem dX12_count_83 : decode cX12_count 83 = .ok (.getfield 121, 3) := by decide +kernel
theorem dX12_count_86 : decode cX12_count 86 = .ok (.ireturn, 1) := by decide +kernel
theorem dX12_count_87 : decode cX12_count 87 = .ok (.aload_n 0, 1) := by decide +kernel
theorem dX12_count_88 : decode cX12_count 88 = .ok (.getfield 133, 3) := by decide +kernel
theorem dX12_count_91 : decode cX12_count 91 = .ok (.ireturn, 1) := by decide +kernel
theorem dX12_count_92 : decode cX12_count 92 = .ok (.aload_n 0, 1) := by decide +kernel
theorem dX12_count_93 : decode cX12_count 93 = .ok (.invokevirtual 416, 3) := by decide +kernel
theorem dX12_count_96 : decode cX12_count 96 = .ok (.ireturn, 1) := by decide +kernel
theorem dX12_count_97 : decode cX12_count 97 = .ok (.aload_n 0, 1) := by decide +kernel
theorem dX12_count_98 : decode cX12_count 98 = .ok (.getfield 239, 3) := by decide +kernel
theorem dX12_count_101 : decode cX12_count 101 = .ok (.ireturn, 1) := by decide +kernel
theorem dX12_count_102 : decode cX12_count 102 = .ok (.aload_n 0, 1) := by decide +kernel
theorem dX12_count_103 : decode cX12_count 103 = .ok (.getfield 139, 3) := by decide +kernel
theorem dX12_count_106 : decode cX12_count 106 = .ok (.ireturn, 1) := by decide +kernel
theorem dX12_count_107 : decode cX12_count 107 = .ok (.aload_n 0, 1) := by decide +kernel
theorem dX12_count_108 : decode cX12_count 108 = .ok (.getfield 7, 3) := by decide +kernel
theorem dX12_count_111 : decode cX12_count 111 = .ok (.sipush 165, 3) := by decide +kernel
theorem dX12_count_114 : decode cX12_count 114 = .ok (.iaload, 1) := by decide +kernel
theorem dX12_count_115 : decode cX12_count 115 = .ok (.ireturn, 1) := by decide +kernel
theorem dX12_count_116 : decode cX12_count 116 = .ok (.iconst (-1), 1) := by decide +kernel
theorem dX12_count_117 : decode cX12_count 117 = .ok (.ireturn, 1) := by decide +kernel
set_option maxHeartbeats 4000000 in
set_option maxRecDepth 100000 in
theorem c_X12_count (l : Launch) (E : GE) (o_t : Nat) (a_t : Nat → Nat) (t_toldDoors : Int32) (t_barredDoors : Int32) (t_taped : Int32) (t_place0 : Int32) (t_length0 : Int32) (t_fault : Int32) (t_number0 : Int32) (t_open : Int32) (t_codeMany : Int32) (t_waiting : Int32) (t_saidMany : Int32) (t_clauses : Int32) (t_newMany : Int32) (t_rounds : Int32) (t_pinFrom : Int32) (t_pinTimes : Int32) (t_lines : Int32) (t_wasTold : Int32) (t_wasBarred : Int32) (t_goesNow : Int32) (t_jamsNow : Int32) (t_queued : Int32) (t_isKept : Int32) (t_now : (Nat → Int32)) (x1 : Int32) (r : Int32) (h : f_X12_count t_toldDoors t_barredDoors t_taped t_clauses t_now x1 = some r) : Cn l E yX12_count cX12_count 2 (some .int) 4 0 0 [.ref o_t, .int x1] (W_X12_count E o_t a_t t_toldDoors t_barredDoors t_taped t_place0 t_length0 t_fault t_number0 t_open t_codeMany t_waiting t_saidMany t_clauses t_newMany t_rounds t_pinFrom t_pinTimes t_lines t_wasTold t_wasBarred t_goesNow t_jamsNow t_queued t_isKept t_now) (fun w => w = (W_X12_count E o_t a_t t_toldDoors t_barredDoors t_taped t_place0 t_length0 t_fault t_number0 t_open t_codeMany t_waiting t_saidMany t_clauses t_newMany t_rounds t_pinFrom t_pinTimes t_lines t_wasTold t_wasBarred t_goesNow t_jamsNow t_queued t_isKept t_now)) (some (.int r)) := by
  refine Cn.ofI (by decide +kernel) (Nat.le_of_ble_eq_true rfl) (fun X hX hR C hret => ?_)
  subst hX
  show Gx X E 0 0 (W_X12_count E o_t a_t t_toldDoors t_barredDoors t_taped t_place0 t_length0 t_fault t_number0 t_open t_codeMany t_waiting t_saidMany t_clauses t_newMany t_rounds t_pinFrom t_pinTimes t_lines t_wasTold t_wasBarred t_goesNow t_jamsNow t_queued t_isKept t_now) 0 [(0, .ref o_t), (1, .int x1)] []
  unfold f_X12_count at h
  refine g_iload_n (pc := 0) C dX12_count_0 rfl 1 rfl ?_
  refine g_bipush (pc := 1) (v := 10) C dX12_count_1 (by decide) ?_
  refine g_bipush (pc := 3) (v := 25) C dX12_count_3 (by decide) ?_
  obtain ⟨u1, hu1, h⟩ := bs h
  refine g_callS (pc := 5) (st := []) (st1 := [.int u1]) (ws' := (W_X12_count E o_t a_t t_toldDoors t_barredDoors t_taped t_place0 t_length0 t_fault t_number0 t_open t_codeMany t_waiting t_saidMany t_clauses t_newMany t_rounds t_pinFrom t_pinTimes t_lines t_wasTold t_wasBarred t_goesNow t_jamsNow t_queued t_isKept t_now)) C mv_X12_in ms_X12_in ml_X12_117 (c_X12_in X.2.1 E x1 (10 : Int32) (25 : Int32) u1 hu1) dX12_count_5 (by decide) rfl (Nat.le_of_ble_eq_true rfl) [] rfl (by decide) rfl rfl rfl rfl ?_
  refine g_if_eq (pc := 8) (tgt := 20) C dX12_count_8 (by decide) h (fun h => ?_) (fun h => ?_)
  · refine g_iload_n (pc := 20) C dX12_count_20 rfl 1 rfl ?_
    rcases ite_cs h with ⟨c2, h⟩ | ⟨c2, h⟩
    · refine g_tabHit (pc := 21) (tgt := 68) C 0 c2 dX12_count_21 (by decide) (by decide) rfl (by decide) ?_
      refine g_aload_n (pc := 68) C dX12_count_68 rfl 0 rfl ?_
      refine g_get (pc := 69) C fl_X12_7 dX12_count_69 0 rfl rfl ?_
      refine g_sipush (pc := 72) (v := 164) C dX12_count_72 (by decide) ?_
      refine g_iald (pc := 75) C dX12_count_75 1 rfl h (fun v3 h => ?_)
      cases h
      exact hret _ _ _ dX12_count_76 rfl rfl
    rcases ite_cs h with ⟨c4, h⟩ | ⟨c4, h⟩
    · refine g_tabHit (pc := 21) (tgt := 77) C 1 c4 dX12_count_21 (by decide) (by decide) rfl (by decide) ?_
      refine g_aload_n (pc := 77) C dX12_count_77 rfl 0 rfl ?_
      obtain ⟨u5, hu5, h⟩ := bs h
      refine g_callV (pc := 78) (st := []) (st1 := [.int u5]) (ws' := (W_X12_count E o_t a_t t_toldDoors t_barredDoors t_taped t_place0 t_length0 t_fault t_number0 t_open t_codeMany t_waiting t_saidMany t_clauses t_newMany t_rounds t_pinFrom t_pinTimes t_lines t_wasTold t_wasBarred t_goesNow t_jamsNow t_queued t_isKept t_now)) C mv_X12_toldWomen mi_X12_toldWomen ml_X12_413 (c_X12_toldWomen X.2.1 E o_t a_t t_toldDoors t_barredDoors t_taped t_place0 t_length0 t_fault t_number0 t_open t_codeMany t_waiting t_saidMany t_clauses t_newMany t_rounds t_pinFrom t_pinTimes t_lines t_wasTold t_wasBarred t_goesNow t_jamsNow t_queued t_isKept t_now u5 hu5) dX12_count_78 (by decide) rfl (Nat.le_of_ble_eq_true rfl) 0 11 rfl rfl [0, 1] rfl (by decide) rfl rfl rfl rfl ?_
      cases h
      exact hret _ _ _ dX12_count_81 rfl rfl
    rcases ite_cs h with ⟨c6, h⟩ | ⟨c6, h⟩
    · refine g_tabHit (pc := 21) (tgt := 82) C 2 c6 dX12_count_21 (by decide) (by decide) rfl (by decide) ?_
      refine g_aload_n (pc := 82) C dX12_count_82 rfl 0 rfl ?_
      refine g_get (pc := 83) C fl_X12_121 dX12_count_83 0 rfl rfl ?_
      cases h
      exact hret _ _ _ dX12_count_86 rfl rfl
    rcases ite_cs h with ⟨c7, h⟩ | ⟨c7, h⟩
    · refine g_tabHit (pc := 21) (tgt := 87) C 3 c7 dX12_count_21 (by decide) (by decide) rfl (by decide) ?_
      refine g_aload_n (pc := 87) C dX12_count_87 rfl 0 rfl ?_
      refine g_get (pc := 88) C fl_X12_133 dX12_count_88 0 rfl rfl ?_
      cases h
      exact hret _ _ _ dX12_count_91 rfl rfl
    rcases ite_cs h with ⟨c8, h⟩ | ⟨c8, h⟩
    · refine g_tabHit (pc := 21) (tgt := 92) C 4 c8 dX12_count_21 (by decide) (by decide) rfl (by decide) ?_
      refine g_aload_n (pc := 92) C dX12_count_92 rfl 0 rfl ?_
      obtain ⟨u9, hu9, h⟩ := bs h
      refine g_callV (pc := 93) (st := []) (st1 := [.int u9]) (ws' := (W_X12_count E o_t a_t t_toldDoors t_barredDoors t_taped t_place0 t_length0 t_fault t_number0 t_open t_codeMany t_waiting t_saidMany t_clauses t_newMany t_rounds t_pinFrom t_pinTimes t_lines t_wasTold t_wasBarred t_goesNow t_jamsNow t_queued t_isKept t_now)) C mv_X12_pinsOfAll mi_X12_pinsOfAll ml_X12_416 (c_X12_pinsOfAll X.2.1 E o_t a_t t_toldDoors t_barredDoors t_taped t_place0 t_length0 t_fault t_number0 t_open t_codeMany t_waiting t_saidMany t_clauses t_newMany t_rounds t_pinFrom t_pinTimes t_lines t_wasTold t_wasBarred t_goesNow t_jamsNow t_queued t_isKept t_now u9 hu9) dX12_count_93 (by decide) rfl (Nat.le_of_ble_eq_true rfl) 0 11 rfl rfl [0, 1] rfl (by decide) rfl rfl rfl rfl ?_
      cases h
      exact hret _ _ _ dX12_count_96 rfl rfl
    rcases ite_cs h with ⟨c10, h⟩ | ⟨c10, h⟩
    · refine g_tabHit (pc := 21) (tgt := 97) C 5 c10 dX12_count_21 (by decide) (by decide) rfl (by decide) ?_
      refine g_aload_n (pc := 97) C dX12_count_97 rfl 0 rfl ?_
      refine g_get (pc := 98) C fl_X12_239 dX12_count_98 0 rfl rfl ?_
      cases h
      exact hret _ _ _ dX12_count_101 rfl rfl
    rcases ite_cs h with ⟨c11, h⟩ | ⟨c11, h⟩
    · refine g_tabHit (pc := 21) (tgt := 102) C 6 c11 dX12_count_21 (by decide) (by decide) rfl (by decide) ?_
      refine g_aload_n (pc := 102) C dX12_count_102 rfl 0 rfl ?_
      refine g_get (pc := 103) C fl_X12_139 dX12_count_103 0 rfl rfl ?_
      cases h
      exact hret _ _ _ dX12_count_106 rfl rfl
    rcases ite_cs h with ⟨c12, h⟩ | ⟨c12, h⟩
    · refine g_tabHit (pc := 21) (tgt := 107) C 7 c12 dX12_count_21 (by decide) (by decide) rfl (by decide) ?_
      refine g_aload_n (pc := 107) C dX12_count_107 rfl 0 rfl ?_
      refine g_get (pc := 108) C fl_X12_7 dX12_count_108 0 rfl rfl ?_
      refine g_sipush (pc := 111) (v := 165) C dX12_count_111 (by decide) ?_
      refine g_iald (pc := 114) C dX12_count_114 1 rfl h (fun v13 h => ?_)
      cases h
      exact hret _ _ _ dX12_count_115 rfl rfl
    have nc2 := lv_neT c2 (a := 0) rfl
    have nc4 := lv_neT c4 (a := 1) rfl
    have nc6 := lv_neT c6 (a := 2) rfl
    have nc7 := lv_neT c7 (a := 3) rfl
    have nc8 := lv_neT c8 (a := 4) rfl
    have nc10 := lv_neT c10 (a := 5) rfl
    have nc11 := lv_neT c11 (a := 6) rfl
    have nc12 := lv_neT c12 (a := 7) rfl
    refine g_tabMiss (pc := 21) (tgt := 116) C dX12_count_21 (by omega) (by decide) ?_
    refine g_iconst (pc := 116) (v := -1) C dX12_count_116 (by decide) ?_
    cases h
    exact hret _ _ _ dX12_count_117 rfl rfl
  · refine g_aload_n (pc := 11) C dX12_count_11 rfl 0 rfl ?_
    refine g_iload_n (pc := 12) C dX12_count_12 rfl 1 rfl ?_
    refine g_bipush (pc := 13) (v := 10) C dX12_count_13 (by decide) ?_
    refine g_isub (pc := 15) C dX12_count_15 ?_
    obtain ⟨u14, hu14, h⟩ := bs h
    refine g_callV (pc := 16) (st := []) (st1 := [.int u14]) (ws' := (W_X12_count E o_t a_t t_toldDoors t_barredDoors t_taped t_place0 t_length0 t_fault t_number0 t_open t_codeMany t_waiting t_saidMany t_clauses t_newMany t_rounds t_pinFrom t_pinTimes t_lines t_wasTold t_wasBarred t_goesNow t_jamsNow t_queued t_isKept t_now)) C mv_X12_womenIn mi_X12_womenIn ml_X12_323 (c_X12_womenIn X.2.1 E o_t a_t t_toldDoors t_barredDoors t_taped t_place0 t_length0 t_fault t_number0 t_open t_codeMany t_waiting t_saidMany t_clauses t_newMany t_rounds t_pinFrom t_pinTimes t_lines t_wasTold t_wasBarred t_goesNow t_jamsNow t_queued t_isKept t_now (x1 - (10 : Int32)) u14 hu14) dX12_count_16 (by decide) rfl (Nat.le_of_ble_eq_true rfl) 0 11 rfl rfl [0, 1] rfl (by decide) rfl rfl rfl rfl ?_
    cases h
    exact hret _ _ _ dX12_count_19 rfl rfl
abbrev W_X12_enough (E : GE) (O_t : Nat) (a_t : Nat → Nat) (t_toldDoors : Int32) (t_barredDoors : Int32) (t_taped : Int32) (t_place0 : Int32) (t_length0 : Int32) (t_fault : Int32) (t_number0 : Int32) (t_open : Int32) (t_codeMany : Int32) (t_waiting : Int32) (t_saidMany : Int32) (t_clauses : Int32) (t_newMany : Int32) (t_rounds : Int32) (t_pinFrom : Int32) (t_pinTimes : Int32) (t_lines : Int32) (t_wasTold : Int32) (t_wasBarred : Int32) (t_goesNow : Int32) (t_jamsNow : Int32) (t_queued : Int32) (t_isKept : Int32) (t_prongsOf : (Nat → Int32)) (t_wardsOf : (Nat → Int32)) : va_W := [(O_t, ob_X12 a_t t_toldDoors t_barredDoors t_taped t_place0 t_length0 t_fault t_number0 t_open t_codeMany t_waiting t_saidMany t_clauses t_newMany t_rounds t_pinFrom t_pinTimes t_lines t_wasTold t_wasBarred t_goesNow t_jamsNow t_queued t_isKept), (a_t 3, .inl (E.2.1, 6, .inl t_prongsOf)), (a_t 6, .inl (E.2.1, 24, .inl t_wardsOf))]
def L_X12_enough_16 (t_toldDoors : Int32) (t_prongsOf : (Nat → Int32)) (t_wardsOf : (Nat → Int32)) (x1 : Int32) (k0 : Int32 → Option (Int32)) : Nat → Int32 × Int32 → Option (Int32) := lp fun go s => if (64 : Int32) ≤ s.2 then (k0 s.1) else (f_X12_areEnough t_toldDoors t_prongsOf t_wardsOf s.2).bind fun u2 => if u2 = 0 then (nm (s.2 + (1 : Int32)) fun v3 => go (s.1, v3)) else if s.1 = (-2 : Int32) then (nm (s.2 + (1 : Int32)) fun v4 => go (s.2, v4)) else (f_X12_bits s.2).bind fun u5 => (f_X12_bits s.1).bind fun u6 => if u6 ≤ u5 then (nm (s.2 + (1 : Int32)) fun v7 => go (s.1, v7)) else nm (s.2 + (1 : Int32)) fun v8 => go (s.2, v8)
def f_X12_enough (t_toldDoors : Int32) (t_prongsOf : (Nat → Int32)) (t_wardsOf : (Nat → Int32)) (x1 : Int32) : Option (Int32) := (f_X12_in x1 (0 : Int32) (1 : Int32)).bind fun u1 => if u1 = 0 then (some (-1 : Int32)) else L_X12_enough_16 t_toldDoors t_prongsOf t_wardsOf x1 (fun s9 => if x1 = (1 : Int32) then (some s9) else if s9 = (-2 : Int32) then (some s9) else (f_X12_bits s9).bind fun u10 => some u10) fu ((-2 : Int32), (0 : Int32))
theorem dX12_enough_0 : decode cX12_enough 0 = .ok (.iload_n 1, 1) := by decide +kernel
theorem dX12_enough_1 : decode cX12_enough 1 = .ok (.iconst 0, 1) := by decide +kernel
theorem dX12_enough_2 : decode cX12_enough 2 = .ok (.iconst 1, 1) := by decide +kernel
theorem dX12_enough_3 : decode cX12_enough 3 = .ok (.invokestatic 117, 3) := by decide +kernel
theorem dX12_enough_6 : decode cX12_enough 6 = .ok (.ifCond .ne 5, 3) := by decide +kernel
theorem dX12_enough_9 : decode cX12_enough 9 = .ok (.iconst (-1), 1) := by decide +kernel
theorem dX12_enough_10 : decode cX12_enough 10 = .ok (.ireturn, 1) := by decide +kernel
theorem dX12_enough_11 : decode cX12_enough 11 = .ok (.bipush (-2), 2) := by decide +kernel
theorem dX12_enough_13 : decode cX12_enough 13 = .ok (.istore_n 2, 1) := by decide +kernel
theorem dX12_enough_14 : decode cX12_enough 14 = .ok (.iconst 0, 1) := by decide +kernel
theorem dX12_enough_15 : decode cX12_enough 15 = .ok (.istore_n 3, 1) := by decide +kernel
theorem dX12_enough_16 : decode cX12_enough 16 = .ok (.iload_n 3, 1) := by decide +kernel
theorem dX12_enough_17 : decode cX12_enough 17 = .ok (.bipush 64, 2) := by decide +kernel
theorem dX12_enough_19 : decode cX12_enough 19 = .ok (.if_icmp .ge 36, 3) := by decide +kernel
theorem dX12_enough_22 : decode cX12_enough 22 = .ok (.aload_n 0, 1) := by decide +kernel
theorem dX12_enough_23 : decode cX12_enough 23 = .ok (.iload_n 3, 1) := by decide +kernel
theorem dX12_enough_24 : decode cX12_enough 24 = .ok (.invokevirtual 384, 3) := by decide +kernel
theorem dX12_enough_27 : decode cX12_enough 27 = .ok (.ifCond .eq 22, 3) := by decide +kernel
theorem dX12_enough_30 : decode cX12_enough 30 = .ok (.iload_n 2, 1) := by decide +kernel
theorem dX12_enough_31 : decode cX12_enough 31 = .ok (.bipush (-2), 2) := by decide +kernel
theorem dX12_enough_33 : decode cX12_enough 33 = .ok (.if_icmp .eq 14, 3) := by decide +kernel
theorem dX12_enough_36 : decode cX12_enough 36 = .ok (.iload_n 3, 1) := by decide +kernel
theorem dX12_enough_37 : decode cX12_enough 37 = .ok (.invokestatic 326, 3) := by decide +kernel
theorem dX12_enough_40 : decode cX12_enough 40 = .ok (.iload_n 2, 1) := by decide +kernel
theorem dX12_enough_41 : decode cX12_enough 41 = .ok (.invokestatic 326, 3) := by decide +kernel
theorem dX12_enough_44 : decode cX12_enough 44 = .ok (.if_icmp .ge 5, 3) := by decide +kernel
theorem dX12_enough_47 : decode cX12_enough 47 = .ok (.iload_n 3, 1) := by decide +kernel
theorem dX12_enough_48 : decode cX12_enough 48 = .ok (.istore_n 2, 1) := by decide +kernel
theorem dX12_enough_49 : decode cX12_enough 49 = .ok (.iinc 3 1, 3) := by decide +kernel
theorem dX12_enough_52 : decode cX12_enough 52 = .ok (.goto (-36), 3) := by decide +kernel
theorem dX12_enough_55 : decode cX12_enough 55 = .ok (.iload_n 1, 1) := by decide +kernel
theorem dX12_enough_56 : decode cX12_enough 56 = .ok (.iconst 1, 1) := by decide +kernel
theorem dX12_enough_57 : decode cX12_enough 57 = .ok (.if_icmp .eq 9, 3) := by decide +kernel
theorem dX12_enough_60 : decode cX12_enough 60 = .ok (.iload_n 2, 1) := by decide +kernel
theorem dX12_enough_61 : decode cX12_enough 61 = .ok (.bipush (-2), 2) := by decide +kernel
theorem dX12_enough_63 : decode cX12_enough 63 = .ok (.if_icmp .ne 7, 3) := by decide +kernel
theorem dX12_enough_66 : decode cX12_enough 66 = .ok (.iload_n 2, 1) := by decide +kernel
theorem dX12_enough_67 : decode cX12_enough 67 = .ok (.goto 7, 3) := by decide +kernel
theorem dX12_enough_70 : decode cX12_enough 70 = .ok (.iload_n 2, 1) := by decide +kernel
theorem dX12_enough_71 : decode cX12_enough 71 = .ok (.invokestatic 326, 3) := by decide +kernel
theorem dX12_enough_74 : decode cX12_enough 74 = .ok (.ireturn, 1) := by decide +kernel
set_option maxHeartbeats 4000000 in
set_option maxRecDepth 100000 in
theorem kL_X12_enough_16 {X : GC} {E : GE} (C : Cx X E cX12_enough RX12 4 4) (o_t : Nat) (a_t : Nat → Nat) (t_barredDoors : Int32) (t_taped : Int32) (t_place0 : Int32) (t_length0 : Int32) (t_fault : Int32) (t_number0 : Int32) (t_open : Int32) (t_codeMany : Int32) (t_waiting : Int32) (t_saidMany : Int32) (t_clauses : Int32) (t_newMany : Int32) (t_rounds : Int32) (t_pinFrom : Int32) (t_pinTimes : Int32) (t_lines : Int32) (t_wasTold : Int32) (t_wasBarred : Int32) (t_goesNow : Int32) (t_jamsNow : Int32) (t_queued : Int32) (t_isKept : Int32) (t_toldDoors : Int32) (t_prongsOf : (Nat → Int32)) (t_wardsOf : (Nat → Int32)) (x1 : Int32) (k0 : Int32 → Option (Int32)) {r : Int32} (hret : RtI X E cX12_enough .int 0 0 (fun w => w = (W_X12_enough E o_t a_t t_toldDoors t_barredDoors t_taped t_place0 t_length0 t_fault t_number0 t_open t_codeMany t_waiting t_saidMany t_clauses t_newMany t_rounds t_pinFrom t_pinTimes t_lines t_wasTold t_wasBarred t_goesNow t_jamsNow t_queued t_isKept t_prongsOf t_wardsOf)) r) (hk0 : ∀ u, k0 u = some r → Gx X E 0 0 (W_X12_enough E o_t a_t t_toldDoors t_barredDoors t_taped t_place0 t_length0 t_fault t_number0 t_open t_codeMany t_waiting t_saidMany t_clauses t_newMany t_rounds t_pinFrom t_pinTimes t_lines t_wasTold t_wasBarred t_goesNow t_jamsNow t_queued t_isKept t_prongsOf t_wardsOf) 55 [(1, .int x1), (2, .int u)] []) : ∀ (n : Nat) (s : Int32 × Int32), L_X12_enough_16 t_toldDoors t_prongsOf t_wardsOf x1 k0 n s = some r → Gx X E 0 0 (W_X12_enough E o_t a_t t_toldDoors t_barredDoors t_taped t_place0 t_length0 t_fault t_number0 t_open t_codeMany t_waiting t_saidMany t_clauses t_newMany t_rounds t_pinFrom t_pinTimes t_lines t_wasTold t_wasBarred t_goesNow t_jamsNow t_queued t_isKept t_prongsOf t_wardsOf) 16 [(0, .ref o_t), (1, .int x1), (2, .int s.1), (3, .int s.2)] [] := by
  unfold L_X12_enough_16
  refine lp_ind _ (fun go ih s h => ?_)
  refine g_iload_n (pc := 16) C dX12_enough_16 rfl 3 rfl ?_
  refine g_bipush (pc := 17) (v := 64) C dX12_enough_17 (by decide) ?_
  refine g_icmp_ge (pc := 19) (tgt := 55) C dX12_enough_19 (by decide) h (fun h => ?_) (fun h => ?_)
  · refine g_sub [1, 2] rfl ?_
    exact hk0 _ h
  · refine g_aload_n (pc := 22) C dX12_enough_22 rfl 0 rfl ?_
    refine g_iload_n (pc := 23) C dX12_enough_23 rfl 3 rfl ?_
    obtain ⟨u2, hu2, h⟩ := bs h
    refine g_callV (pc := 24) (st := []) (st1 := [.int u2]) (ws' := (W_X12_enough E o_t a_t t_toldDoors t_barredDoors t_taped t_place0 t_length0 t_fault t_number0 t_open t_codeMany t_waiting t_saidMany t_clauses t_newMany t_rounds t_pinFrom t_pinTimes t_lines t_wasTold t_wasBarred t_goesNow t_jamsNow t_queued t_isKept t_prongsOf t_wardsOf)) C mv_X12_areEnough mi_X12_areEnough ml_X12_384 (c_X12_areEnough X.2.1 E o_t a_t t_toldDoors t_barredDoors t_taped t_place0 t_length0 t_fault t_number0 t_open t_codeMany t_waiting t_saidMany t_clauses t_newMany t_rounds t_pinFrom t_pinTimes t_lines t_wasTold t_wasBarred t_goesNow t_jamsNow t_queued t_isKept t_prongsOf t_wardsOf s.2 u2 hu2) dX12_enough_24 (by decide) rfl (Nat.le_of_ble_eq_true rfl) 0 11 rfl rfl [0, 1, 2] rfl (by decide) rfl rfl rfl rfl ?_
    refine g_if_eq (pc := 27) (tgt := 49) C dX12_enough_27 (by decide) h (fun h => ?_) (fun h => ?_)
    · refine g_iincn (pc := 49) (j := 3) (d := 1) (lv' := fun v3 => [(3, .int v3), (0, .ref o_t), (1, .int x1), (2, .int s.1)]) C dX12_enough_49 rfl (by decide) (by decide) (fun _ => rfl) h (fun v3 h => ?_)
      refine g_goto (pc := 52) (tgt := 16) C dX12_enough_52 (by decide) ?_
      refine g_sub [1, 2, 3, 0] rfl ?_
      exact ih _ h
    · refine g_iload_n (pc := 30) C dX12_enough_30 rfl 2 rfl ?_
      refine g_bipush (pc := 31) (v := -2) C dX12_enough_31 (by decide) ?_
      refine g_icmp_eq (pc := 33) (tgt := 47) C dX12_enough_33 (by decide) h (fun h => ?_) (fun h => ?_)
      · refine g_iload_n (pc := 47) C dX12_enough_47 rfl 3 rfl ?_
        refine g_istore_n (pc := 48) (lv' := [(2, .int s.2), (0, .ref o_t), (1, .int x1), (3, .int s.2)]) C dX12_enough_48 rfl (by decide) rfl ?_
        refine g_iincn (pc := 49) (j := 3) (d := 1) (lv' := fun v4 => [(3, .int v4), (2, .int s.2), (0, .ref o_t), (1, .int x1)]) C dX12_enough_49 rfl (by decide) (by decide) (fun _ => rfl) h (fun v4 h => ?_)
        refine g_goto (pc := 52) (tgt := 16) C dX12_enough_52 (by decide) ?_
        refine g_sub [2, 3, 1, 0] rfl ?_
        exact ih _ h
      · refine g_iload_n (pc := 36) C dX12_enough_36 rfl 3 rfl ?_
        obtain ⟨u5, hu5, h⟩ := bs h
        refine g_callS (pc := 37) (st := []) (st1 := [.int u5]) (ws' := (W_X12_enough E o_t a_t t_toldDoors t_barredDoors t_taped t_place0 t_length0 t_fault t_number0 t_open t_codeMany t_waiting t_saidMany t_clauses t_newMany t_rounds t_pinFrom t_pinTimes t_lines t_wasTold t_wasBarred t_goesNow t_jamsNow t_queued t_isKept t_prongsOf t_wardsOf)) C mv_X12_bits ms_X12_bits ml_X12_326 (c_X12_bits X.2.1 E s.2 u5 hu5) dX12_enough_37 (by decide) rfl (Nat.le_of_ble_eq_true rfl) [] rfl (by decide) rfl rfl rfl rfl ?_
        refine g_iload_n (pc := 40) C dX12_enough_40 rfl 2 rfl ?_
        obtain ⟨u6, hu6, h⟩ := bs h
        refine g_callS (pc := 41) (st := [.int u5]) (st1 := [.int u6, .int u5]) (ws' := (W_X12_enough E o_t a_t t_toldDoors t_barredDoors t_taped t_place0 t_length0 t_fault t_number0 t_open t_codeMany t_waiting t_saidMany t_clauses t_newMany t_rounds t_pinFrom t_pinTimes t_lines t_wasTold t_wasBarred t_goesNow t_jamsNow t_queued t_isKept t_prongsOf t_wardsOf)) C mv_X12_bits ms_X12_bits ml_X12_326 (c_X12_bits X.2.1 E s.1 u6 hu6) dX12_enough_41 (by decide) rfl (Nat.le_of_ble_eq_true rfl) [] rfl (by decide) rfl rfl rfl rfl ?_
        refine g_icmp_ge (pc := 44) (tgt := 49) C dX12_enough_44 (by decide) h (fun h => ?_) (fun h => ?_)
        · refine g_iincn (pc := 49) (j := 3) (d := 1) (lv' := fun v7 => [(3, .int v7), (0, .ref o_t), (1, .int x1), (2, .int s.1)]) C dX12_enough_49 rfl (by decide) (by decide) (fun _ => rfl) h (fun v7 h => ?_)
          refine g_goto (pc := 52) (tgt := 16) C dX12_enough_52 (by decide) ?_
          refine g_sub [1, 2, 3, 0] rfl ?_
          exact ih _ h
        · refine g_iload_n (pc := 47) C dX12_enough_47 rfl 3 rfl ?_
          refine g_istore_n (pc := 48) (lv' := [(2, .int s.2), (0, .ref o_t), (1, .int x1), (3, .int s.2)]) C dX12_enough_48 rfl (by decide) rfl ?_
          refine g_iincn (pc := 49) (j := 3) (d := 1) (lv' := fun v8 => [(3, .int v8), (2, .int s.2), (0, .ref o_t), (1, .int x1)]) C dX12_enough_49 rfl (by decide) (by decide) (fun _ => rfl) h (fun v8 h => ?_)
          refine g_goto (pc := 52) (tgt := 16) C dX12_enough_52 (by decide) ?_
          refine g_sub [2, 3, 1, 0] rfl ?_
          exact ih _ h
set_option maxHeartbeats 4000000 in
set_option maxRecDepth 100000 in
theorem c_X12_enough (l : Launch) (E : GE) (o_t : Nat) (a_t : Nat → Nat) (t_toldDoors : Int32) (t_barredDoors : Int32) (t_taped : Int32) (t_place0 : Int32) (t_length0 : Int32) (t_fault : Int32) (t_number0 : Int32) (t_open : Int32) (t_codeMany : Int32) (t_waiting : Int32) (t_saidMany : Int32) (t_clauses : Int32) (t_newMany : Int32) (t_rounds : Int32) (t_pinFrom : Int32) (t_pinTimes : Int32) (t_lines : Int32) (t_wasTold : Int32) (t_wasBarred : Int32) (t_goesNow : Int32) (t_jamsNow : Int32) (t_queued : Int32) (t_isKept : Int32) (t_prongsOf : (Nat → Int32)) (t_wardsOf : (Nat → Int32)) (x1 : Int32) (r : Int32) (h : f_X12_enough t_toldDoors t_prongsOf t_wardsOf x1 = some r) : Cn l E yX12_enough cX12_enough 4 (some .int) 4 0 0 [.ref o_t, .int x1] (W_X12_enough E o_t a_t t_toldDoors t_barredDoors t_taped t_place0 t_length0 t_fault t_number0 t_open t_codeMany t_waiting t_saidMany t_clauses t_newMany t_rounds t_pinFrom t_pinTimes t_lines t_wasTold t_wasBarred t_goesNow t_jamsNow t_queued t_isKept t_prongsOf t_wardsOf) (fun w => w = (W_X12_enough E o_t a_t t_toldDoors t_barredDoors t_taped t_place0 t_length0 t_fault t_number0 t_open t_codeMany t_waiting t_saidMany t_clauses t_newMany t_rounds t_pinFrom t_pinTimes t_lines t_wasTold t_wasBarred t_goesNow t_jamsNow t_queued t_isKept t_prongsOf t_wardsOf)) (some (.int r)) := by
  refine Cn.ofI (by decide +kernel) (Nat.le_of_ble_eq_true rfl) (fun X hX hR C hret => ?_)
  subst hX
  show Gx X E 0 0 (W_X12_enough E o_t a_t t_toldDoors t_barredDoors t_taped t_place0 t_length0 t_fault t_number0 t_open t_codeMany t_waiting t_saidMany t_clauses t_newMany t_rounds t_pinFrom t_pinTimes t_lines t_wasTold t_wasBarred t_goesNow t_jamsNow t_queued t_isKept t_prongsOf t_wardsOf) 0 [(0, .ref o_t), (1, .int x1)] []
  unfold f_X12_enough at h
  refine g_iload_n (pc := 0) C dX12_enough_0 rfl 1 rfl ?_
  refine g_iconst (pc := 1) (v := 0) C dX12_enough_1 (by decide) ?_
  refine g_iconst (pc := 2) (v := 1) C dX12_enough_2 (by decide) ?_
  obtain ⟨u1, hu1, h⟩ := bs h
  refine g_callS (pc := 3) (st := []) (st1 := [.int u1]) (ws' := (W_X12_enough E o_t a_t t_toldDoors t_barredDoors t_taped t_place0 t_length0 t_fault t_number0 t_open t_codeMany t_waiting t_saidMany t_clauses t_newMany t_rounds t_pinFrom t_pinTimes t_lines t_wasTold t_wasBarred t_goesNow t_jamsNow t_queued t_isKept t_prongsOf t_wardsOf)) C mv_X12_in ms_X12_in ml_X12_117 (c_X12_in X.2.1 E x1 (0 : Int32) (1 : Int32) u1 hu1) dX12_enough_3 (by decide) rfl (Nat.le_of_ble_eq_true rfl) [] rfl (by decide) rfl rfl rfl rfl ?_
  refine g_if_ne (pc := 6) (tgt := 11) C dX12_enough_6 (by decide) h (fun h => ?_) (fun h => ?_)
  · refine g_bipush (pc := 11) (v := -2) C dX12_enough_11 (by decide) ?_
    refine g_istore_n (pc := 13) (lv' := [(2, .int (-2 : Int32)), (0, .ref o_t), (1, .int x1)]) C dX12_enough_13 rfl (by decide) rfl ?_
    refine g_iconst (pc := 14) (v := 0) C dX12_enough_14 (by decide) ?_
    refine g_istore_n (pc := 15) (lv' := [(3, .int (0 : Int32)), (2, .int (-2 : Int32)), (0, .ref o_t), (1, .int x1)]) C dX12_enough_15 rfl (by decide) rfl ?_
    refine g_sub [2, 3, 1, 0] rfl ?_
    refine kL_X12_enough_16 C o_t a_t t_barredDoors t_taped t_place0 t_length0 t_fault t_number0 t_open t_codeMany t_waiting t_saidMany t_clauses t_newMany t_rounds t_pinFrom t_pinTimes t_lines t_wasTold t_wasBarred t_goesNow t_jamsNow t_queued t_isKept t_toldDoors t_prongsOf t_wardsOf x1 _ hret (fun s9 h => ?_) _ _ h
    refine g_iload_n (pc := 55) C dX12_enough_55 rfl 0 rfl ?_
    refine g_iconst (pc := 56) (v := 1) C dX12_enough_56 (by decide) ?_
    refine g_icmp_eq (pc := 57) (tgt := 66) C dX12_enough_57 (by decide) h (fun h => ?_) (fun h => ?_)
    · refine g_iload_n (pc := 66) C dX12_enough_66 rfl 1 rfl ?_
      refine g_goto (pc := 67) (tgt := 74) C dX12_enough_67 (by decide) ?_
      cases h
      exact hret _ _ _ dX12_enough_74 rfl rfl
    · refine g_iload_n (pc := 60) C dX12_enough_60 rfl 1 rfl ?_
      refine g_bipush (pc := 61) (v := -2) C dX12_enough_61 (by decide) ?_
      refine g_icmp_ne (pc := 63) (tgt := 70) C dX12_enough_63 (by decide) h (fun h => ?_) (fun h => ?_)
      · refine g_iload_n (pc := 70) C dX12_enough_70 rfl 1 rfl ?_
        obtain ⟨u10, hu10, h⟩ := bs h
        refine g_callS (pc := 71) (st := []) (st1 := [.int u10]) (ws' := (W_X12_enough E o_t a_t t_toldDoors t_barredDoors t_taped t_place0 t_length0 t_fault t_number0 t_open t_codeMany t_waiting t_saidMany t_clauses t_newMany t_rounds t_pinFrom t_pinTimes t_lines t_wasTold t_wasBarred t_goesNow t_jamsNow t_queued t_isKept t_prongsOf t_wardsOf)) C mv_X12_bits ms_X12_bits ml_X12_326 (c_X12_bits X.2.1 E s9 u10 hu10) dX12_enough_71 (by decide) rfl (Nat.le_of_ble_eq_true rfl) [] rfl (by decide) rfl rfl rfl rfl ?_
        cases h
        exact hret _ _ _ dX12_enough_74 rfl rfl
      · refine g_iload_n (pc := 66) C dX12_enough_66 rfl 1 rfl ?_
        refine g_goto (pc := 67) (tgt := 74) C dX12_enough_67 (by decide) ?_
        cases h
        exact hret _ _ _ dX12_enough_74 rfl rfl
  · refine g_iconst (pc := 9) (v := -1) C dX12_enough_9 (by decide) ?_
    cases h
    exact hret _ _ _ dX12_enough_10 rfl rfl
abbrev W_X12_feelsDoor (E : GE) (O_t : Nat) (a_t : Nat → Nat) (t_toldDoors : Int32) (t_barredDoors : Int32) (t_taped : Int32) (t_place0 : Int32) (t_length0 : Int32) (t_fault : Int32) (t_number0 : Int32) (t_open : Int32) (t_codeMany : Int32) (t_waiting : Int32) (t_saidMany : Int32) (t_clauses : Int32) (t_newMany : Int32) (t_rounds : Int32) (t_pinFrom : Int32) (t_pinTimes : Int32) (t_lines : Int32) (t_wasTold : Int32) (t_wasBarred : Int32) (t_goesNow : Int32) (t_jamsNow : Int32) (t_queued : Int32) (t_isKept : Int32) (t_now : (Nat → Int32)) (t_prongsOf : (Nat → Int32)) (t_oneOf : (Nat → Int32)) (t_otherOf : (Nat → Int32)) (t_wardsOf : (Nat → Int32)) (t_facts : (Nat → Int32)) : va_W := [(O_t, ob_X12 a_t t_toldDoors t_barredDoors t_taped t_place0 t_length0 t_fault t_number0 t_open t_codeMany t_waiting t_saidMany t_clauses t_newMany t_rounds t_pinFrom t_pinTimes t_lines t_wasTold t_wasBarred t_goesNow t_jamsNow t_queued t_isKept), (a_t 0, .inl (E.2.1, 166, .inl t_now)), (a_t 3, .inl (E.2.1, 6, .inl t_prongsOf)), (a_t 4, .inl (E.2.1, 24, .inl t_oneOf)), (a_t 5, .inl (E.2.1, 24, .inl t_otherOf)), (a_t 6, .inl (E.2.1, 24, .inl t_wardsOf)), (a_t 36, .inl (E.2.1, 10, .inl t_facts))]
def f_X12_feelsDoor (t_now : (Nat → Int32)) (t_prongsOf : (Nat → Int32)) (t_oneOf : (Nat → Int32)) (t_otherOf : (Nat → Int32)) (t_wardsOf : (Nat → Int32)) (t_facts : (Nat → Int32)) (x1 : Int32) (x2 : Int32) : Option ((Nat → Int32)) := (f_X12_feels t_now t_facts x1).bind fun u1 => wr u1 10 (2 : Int32) x2 fun g2 => rd t_now 166 ((34 : Int32) + x1) fun v3 => (f_X12_behind t_oneOf t_otherOf x2 v3).bind fun u4 => wr g2 10 (3 : Int32) u4 fun g5 => rd t_now 166 ((0 : Int32) + x2) fun v6 => wr g5 10 (4 : Int32) v6 fun g7 => (f_X12_kindFor t_now t_prongsOf t_wardsOf x1 x2).bind fun u8 => wr g7 10 (5 : Int32) u8 fun g9 => rd g9 10 (5 : Int32) fun v10 => rd t_now 166 (((104 : Int32) + ((6 : Int32) * x1)) + v10) fun v11 => wr g9 10 (6 : Int32) v11 fun g12 => rd g12 10 (3 : Int32) fun v13 => (f_X12_womenIn t_now v13).bind fun u14 => (f_X12_bits u14).bind fun u15 => wr g12 10 (8 : Int32) u15 fun g16 => some g16
theorem dX12_feelsDoor_0 : decode cX12_feelsDoor 0 = .ok (.aload_n 0, 1) := by decide +kernel
theorem dX12_feelsDoor_1 : decode cX12_feelsDoor 1 = .ok (.iload_n 1, 1) := by decide +kernel
theorem dX12_feelsDoor_2 : decode cX12_feelsDoor 2 = .ok (.invokevirtual 314, 3) := by decide +kernel
theorem dX12_feelsDoor_5 : decode cX12_feelsDoor 5 = .ok (.aload_n 0, 1) := by decide +kernel
theorem dX12_feelsDoor_6 : decode cX12_feelsDoor 6 = .ok (.getfield 83, 3) := by decide +kernel
theorem dX12_feelsDoor_9 : decode cX12_feelsDoor 9 = .ok (.iconst 2, 1) := by decide +kernel
theorem dX12_feelsDoor_10 : decode cX12_feelsDoor 10 = .ok (.iload_n 2, 1) := by decide +kernel
theorem dX12_feelsDoor_11 : decode cX12_feelsDoor 11 = .ok (.iastore, 1) := by decide +kernel
theorem dX12_feelsDoor_12 : decode cX12_feelsDoor 12 = .ok (.aload_n 0, 1) := by decide +kernel
theorem dX12_feelsDoor_13 : decode cX12_feelsDoor 13 = .ok (.getfield 83, 3) := by decide +kernel
theorem dX12_feelsDoor_16 : decode cX12_feelsDoor 16 = .ok (.iconst 3, 1) := by decide +kernel
theorem dX12_feelsDoor_17 : decode cX12_feelsDoor 17 = .ok (.aload_n 0, 1) := by decide +kernel
theorem dX12_feelsDoor_18 : decode cX12_feelsDoor 18 = .ok (.iload_n 2, 1) := by decide +kernel
theorem dX12_feelsDoor_19 : decode cX12_feelsDoor 19 = .ok (.aload_n 0, 1) := by decide +kernel
theorem dX12_feelsDoor_20 : decode cX12_feelsDoor 20 = .ok (.getfield 7, 3) := by decide +kernel
theorem dX12_feelsDoor_23 : decode cX12_feelsDoor 23 = .ok (.bipush 34, 2) := by decide +kernel
theorem dX12_feelsDoor_25 : decode cX12_feelsDoor 25 = .ok (.iload_n 1, 1) := by decide +kernel
theorem dX12_feelsDoor_26 : decode cX12_feelsDoor 26 = .ok (.iadd, 1) := by decide +kernel
theorem dX12_feelsDoor_27 : decode cX12_feelsDoor 27 = .ok (.iaload, 1) := by decide +kernel
theorem dX12_feelsDoor_28 : decode cX12_feelsDoor 28 = .ok (.invokevirtual 317, 3) := by decide +kernel
theorem dX12_feelsDoor_31 : decode cX12_feelsDoor 31 = .ok (.iastore, 1) := by decide +kernel
theorem dX12_feelsDoor_32 : decode cX12_feelsDoor 32 = .ok (.aload_n 0, 1) := by decide +kernel
theorem dX12_feelsDoor_33 : decode cX12_feelsDoor 33 = .ok (.getfield 83, 3) := by decide +kernel
theorem dX12_feelsDoor_36 : decode cX12_feelsDoor 36 = .ok (.iconst 4, 1) := by decide +kernel
theorem dX12_feelsDoor_37 : decode cX12_feelsDoor 37 = .ok (.aload_n 0, 1) := by decide +kernel
theorem dX12_feelsDoor_38 : decode cX12_feelsDoor 38 = .ok (.getfield 7, 3) := by decide +kernel
theorem dX12_feelsDoor_41 : decode cX12_feelsDoor 41 = .ok (.iconst 0, 1) := by decide +kernel
theorem dX12_feelsDoor_42 : decode cX12_feelsDoor 42 = .ok (.iload_n 2, 1) := by decide +kernel
theorem dX12_feelsDoor_43 : decode cX12_feelsDoor 43 = .ok (.iadd, 1) := by decide +kernel
theorem dX12_feelsDoor_44 : decode cX12_feelsDoor 44 = .ok (.iaload, 1) := by decide +kernel
theorem dX12_feelsDoor_45 : decode cX12_feelsDoor 45 = .ok (.iastore, 1) := by decide +kernel
theorem dX12_feelsDoor_46 : decode cX12_feelsDoor 46 = .ok (.aload_n 0, 1) := by decide +kernel
theorem dX12_feelsDoor_47 : decode cX12_feelsDoor 47 = .ok (.getfield 83, 3) := by decide +kernel
theorem dX12_feelsDoor_50 : decode cX12_feelsDoor 50 = .ok (.iconst 5, 1) := by decide +kernel
theorem dX12_feelsDoor_51 : decode cX12_feelsDoor 51 = .ok (.aload_n 0, 1) := by decide +kernel
theorem dX12_feelsDoor_52 : decode cX12_feelsDoor 52 = .ok (.iload_n 1, 1) := by decide +kernel
theorem dX12_feelsDoor_53 : decode cX12_feelsDoor 53 = .ok (.iload_n 2, 1) := by decide +kernel
theorem dX12_feelsDoor_54 : decode cX12_feelsDoor 54 = .ok (.invokevirtual 320, 3) := by decide +kernel
theorem dX12_feelsDoor_57 : decode cX12_feelsDoor 57 = .ok (.iastore, 1) := by decide +kernel
theorem dX12_feelsDoor_58 : decode cX12_feelsDoor 58 = .ok (.aload_n 0, 1) := by decide +kernel
theorem dX12_feelsDoor_59 : decode cX12_feelsDoor 59 = .ok (.getfield 83, 3) := by decide +kernel
theorem dX12_feelsDoor_62 : decode cX12_feelsDoor 62 = .ok (.bipush 6, 2) := by decide +kernel
theorem dX12_feelsDoor_64 : decode cX12_feelsDoor 64 = .ok (.aload_n 0, 1) := by decide +kernel
theorem dX12_feelsDoor_65 : decode cX12_feelsDoor 65 = .ok (.getfield 7, 3) := by decide +kernel
theorem dX12_feelsDoor_68 : decode cX12_feelsDoor 68 = .ok (.bipush 104, 2) := by decide +kernel
theorem dX12_feelsDoor_70 : decode cX12_feelsDoor 70 = .ok (.bipush 6, 2) := by decide +kernel
theorem dX12_feelsDoor_72 : decode cX12_feelsDoor 72 = .ok (.iload_n 1, 1) := by decide +kernel
theorem dX12_feelsDoor_73 : decode cX12_feelsDoor 73 = .ok (.imul, 1) := by decide +kernel
theorem dX12_feelsDoor_74 : decode cX12_feelsDoor 74 = .ok (.iadd, 1) := by decide +kernel
theorem dX12_feelsDoor_75 : decode cX12_feelsDoor 75 = .ok (.aload_n 0, 1) := by decide +kernel
theorem dX12_feelsDoor_76 : decode cX12_feelsDoor 76 = .ok (.getfield 83, 3) := by decide +kernel
theorem dX12_feelsDoor_79 : decode cX12_feelsDoor 79 = .ok (.iconst 5, 1) := by decide +kernel
theorem dX12_feelsDoor_80 : decode cX12_feelsDoor 80 = .ok (.iaload, 1) := by decide +kernel
theorem dX12_feelsDoor_81 : decode cX12_feelsDoor 81 = .ok (.iadd, 1) := by decide +kernel
theorem dX12_feelsDoor_82 : decode cX12_feelsDoor 82 = .ok (.iaload, 1) := by decide +kernel
theorem dX12_feelsDoor_83 : decode cX12_feelsDoor 83 = .ok (.iastore, 1) := by decide +kernel
theorem dX12_feelsDoor_84 : decode cX12_feelsDoor 84 = .ok (.aload_n 0, 1) := by decide +kernel
theorem dX12_feelsDoor_85 : decode cX12_feelsDoor 85 = .ok (.getfield 83, 3) := by decide +kernel
theorem dX12_feelsDoor_88 : decode cX12_feelsDoor 88 = .ok (.bipush 8, 2) := by decide +kernel
theorem dX12_feelsDoor_90 : decode cX12_feelsDoor 90 = .ok (.aload_n 0, 1) := by decide +kernel
theorem dX12_feelsDoor_91 : decode cX12_feelsDoor 91 = .ok (.aload_n 0, 1) := by decide +kernel
theorem dX12_feelsDoor_92 : decode cX12_feelsDoor 92 = .ok (.getfield 83, 3) := by decide +kernel
theorem dX12_feelsDoor_95 : decode cX12_feelsDoor 95 = .ok (.iconst 3, 1) := by decide +kernel
theorem dX12_feelsDoor_96 : decode cX12_feelsDoor 96 = .ok (.iaload, 1) := by decide +kernel
theorem dX12_feelsDoor_97 : decode cX12_feelsDoor 97 = .ok (.invokevirtual 323, 3) := by decide +kernel
theorem dX12_feelsDoor_100 : decode cX12_feelsDoor 100 = .ok (.invokestatic 326, 3) := by decide +kernel
theorem dX12_feelsDoor_103 : decode cX12_feelsDoor 103 = .ok (.iastore, 1) := by decide +kernel
theorem dX12_feelsDoor_104 : decode cX12_feelsDoor 104 = .ok (.return_, 1) := by decide +kernel
set_option maxHeartbeats 4000000 in
set_option maxRecDepth 100000 in
theorem c_X12_feelsDoor (l : Launch) (E : GE) (o_t : Nat) (a_t : Nat → Nat) (t_toldDoors : Int32) (t_barredDoors : Int32) (t_taped : Int32) (t_place0 : Int32) (t_length0 : Int32) (t_fault : Int32) (t_number0 : Int32) (t_open : Int32) (t_codeMany : Int32) (t_waiting : Int32) (t_saidMany : Int32) (t_clauses : Int32) (t_newMany : Int32) (t_rounds : Int32) (t_pinFrom : Int32) (t_pinTimes : Int32) (t_lines : Int32) (t_wasTold : Int32) (t_wasBarred : Int32) (t_goesNow : Int32) (t_jamsNow : Int32) (t_queued : Int32) (t_isKept : Int32) (t_now : (Nat → Int32)) (t_prongsOf : (Nat → Int32)) (t_oneOf : (Nat → Int32)) (t_otherOf : (Nat → Int32)) (t_wardsOf : (Nat → Int32)) (t_facts : (Nat → Int32)) (x1 : Int32) (x2 : Int32) (r : (Nat → Int32)) (h : f_X12_feelsDoor t_now t_prongsOf t_oneOf t_otherOf t_wardsOf t_facts x1 x2 = some r) : Cn l E yX12_feelsDoor cX12_feelsDoor 3 none 4 0 0 [.ref o_t, .int x1, .int x2] (W_X12_feelsDoor E o_t a_t t_toldDoors t_barredDoors t_taped t_place0 t_length0 t_fault t_number0 t_open t_codeMany t_waiting t_saidMany t_clauses t_newMany t_rounds t_pinFrom t_pinTimes t_lines t_wasTold t_wasBarred t_goesNow t_jamsNow t_queued t_isKept t_now t_prongsOf t_oneOf t_otherOf t_wardsOf t_facts) (fun w => w = (W_X12_feelsDoor E o_t a_t t_toldDoors t_barredDoors t_taped t_place0 t_length0 t_fault t_number0 t_open t_codeMany t_waiting t_saidMany t_clauses t_newMany t_rounds t_pinFrom t_pinTimes t_lines t_wasTold t_wasBarred t_goesNow t_jamsNow t_queued t_isKept t_now t_prongsOf t_oneOf t_otherOf t_wardsOf r)) none := by
  refine Cn.ofV (by decide +kernel) (Nat.le_of_ble_eq_true rfl) (fun X hX hR C hret => ?_)
  subst hX
  show Gx X E 0 0 (W_X12_feelsDoor E o_t a_t t_toldDoors t_barredDoors t_taped t_place0 t_length0 t_fault t_number0 t_open t_codeMany t_waiting t_saidMany t_clauses t_newMany t_rounds t_pinFrom t_pinTimes t_lines t_wasTold t_wasBarred t_goesNow t_jamsNow t_queued t_isKept t_now t_prongsOf t_oneOf t_otherOf t_wardsOf t_facts) 0 [(0, .ref o_t), (1, .int x1), (2, .int x2)] []
  unfold f_X12_feelsDoor at h
  refine g_aload_n (pc := 0) C dX12_feelsDoor_0 rfl 0 rfl ?_
  refine g_iload_n (pc := 1) C dX12_feelsDoor_1 rfl 1 rfl ?_
  obtain ⟨u1, hu1, h⟩ := bs h
  refine g_callV (pc := 2) (st := []) (st1 := []) (ws' := (W_X12_feelsDoor E o_t a_t t_toldDoors t_barredDoors t_taped t_place0 t_length0 t_fault t_number0 t_open t_codeMany t_waiting t_saidMany t_clauses t_newMany t_rounds t_pinFrom t_pinTimes t_lines t_wasTold t_wasBarred t_goesNow t_jamsNow t_queued t_isKept t_now t_prongsOf t_oneOf t_otherOf t_wardsOf u1)) C mv_X12_feels mi_X12_feels ml_X12_314 (c_X12_feels X.2.1 E o_t a_t t_toldDoors t_barredDoors t_taped t_place0 t_length0 t_fault t_number0 t_open t_codeMany t_waiting t_saidMany t_clauses t_newMany t_rounds t_pinFrom t_pinTimes t_lines t_wasTold t_wasBarred t_goesNow t_jamsNow t_queued t_isKept t_now t_facts x1 u1 hu1) dX12_feelsDoor_2 (by decide) rfl (Nat.le_of_ble_eq_true rfl) 0 11 rfl rfl [0, 1, 6] rfl (by decide) rfl rfl rfl rfl ?_
  refine g_aload_n (pc := 5) C dX12_feelsDoor_5 rfl 0 rfl ?_
  refine g_get (pc := 6) C fl_X12_83 dX12_feelsDoor_6 0 rfl rfl ?_
  refine g_iconst (pc := 9) (v := 2) C dX12_feelsDoor_9 (by decide) ?_
  refine g_iload_n (pc := 10) C dX12_feelsDoor_10 rfl 2 rfl ?_
  refine g_iast (pc := 11) C dX12_feelsDoor_11 6 rfl h (fun g2 h => ?_)
  refine g_ws (ws' := (W_X12_feelsDoor E o_t a_t t_toldDoors t_barredDoors t_taped t_place0 t_length0 t_fault t_number0 t_open t_codeMany t_waiting t_saidMany t_clauses t_newMany t_rounds t_pinFrom t_pinTimes t_lines t_wasTold t_wasBarred t_goesNow t_jamsNow t_queued t_isKept t_now t_prongsOf t_oneOf t_otherOf t_wardsOf g2)) rfl ?_
  refine g_aload_n (pc := 12) C dX12_feelsDoor_12 rfl 0 rfl ?_
  refine g_get (pc := 13) C fl_X12_83 dX12_feelsDoor_13 0 rfl rfl ?_
  refine g_iconst (pc := 16) (v := 3) C dX12_feelsDoor_16 (by decide) ?_
  refine g_aload_n (pc := 17) C dX12_feelsDoor_17 rfl 0 rfl ?_
  refine g_iload_n (pc := 18) C dX12_feelsDoor_18 rfl 2 rfl ?_
  refine g_aload_n (pc := 19) C dX12_feelsDoor_19 rfl 0 rfl ?_
  refine g_get (pc := 20) C fl_X12_7 dX12_feelsDoor_20 0 rfl rfl ?_
  refine g_bipush (pc := 23) (v := 34) C dX12_feelsDoor_23 (by decide) ?_
  refine g_iload_n (pc := 25) C dX12_feelsDoor_25 rfl 1 rfl ?_
  refine g_iadd (pc := 26) C dX12_feelsDoor_26 ?_
  refine g_iald (pc := 27) C dX12_feelsDoor_27 1 rfl h (fun v3 h => ?_)
  obtain ⟨u4, hu4, h⟩ := bs h
  refine g_callV (pc := 28) (st := [.int (3 : Int32), .ref (a_t 36)]) (st1 := [.int u4, .int (3 : Int32), .ref (a_t 36)]) (ws' := (W_X12_feelsDoor E o_t a_t t_toldDoors t_barredDoors t_taped t_place0 t_length0 t_fault t_number0 t_open t_codeMany t_waiting t_saidMany t_clauses t_newMany t_rounds t_pinFrom t_pinTimes t_lines t_wasTold t_wasBarred t_goesNow t_jamsNow t_queued t_isKept t_now t_prongsOf t_oneOf t_otherOf t_wardsOf g2)) C mv_X12_behind mi_X12_behind ml_X12_317 (c_X12_behind X.2.1 E o_t a_t t_toldDoors t_barredDoors t_taped t_place0 t_length0 t_fault t_number0 t_open t_codeMany t_waiting t_saidMany t_clauses t_newMany t_rounds t_pinFrom t_pinTimes t_lines t_wasTold t_wasBarred t_goesNow t_jamsNow t_queued t_isKept t_oneOf t_otherOf x2 v3 u4 hu4) dX12_feelsDoor_28 (by decide) rfl (Nat.le_of_ble_eq_true rfl) 0 11 rfl rfl [0, 3, 4] rfl (by decide) rfl rfl rfl rfl ?_
  refine g_iast (pc := 31) C dX12_feelsDoor_31 6 rfl h (fun g5 h => ?_)
  refine g_ws (ws' := (W_X12_feelsDoor E o_t a_t t_toldDoors t_barredDoors t_taped t_place0 t_length0 t_fault t_number0 t_open t_codeMany t_waiting t_saidMany t_clauses t_newMany t_rounds t_pinFrom t_pinTimes t_lines t_wasTold t_wasBarred t_goesNow t_jamsNow t_queued t_isKept t_now t_prongsOf t_oneOf t_otherOf t_wardsOf g5)) rfl ?_
  refine g_aload_n (pc := 32) C dX12_feelsDoor_32 rfl 0 rfl ?_
  refine g_get (pc := 33) C fl_X12_83 dX12_feelsDoor_33 0 rfl rfl ?_
  refine g_iconst (pc := 36) (v := 4) C dX12_feelsDoor_36 (by decide) ?_
  refine g_aload_n (pc := 37) C dX12_feelsDoor_37 rfl 0 rfl ?_
  refine g_get (pc := 38) C fl_X12_7 dX12_feelsDoor_38 0 rfl rfl ?_
  refine g_iconst (pc := 41) (v := 0) C dX12_feelsDoor_41 (by decide) ?_
  refine g_iload_n (pc := 42) C dX12_feelsDoor_42 rfl 2 rfl ?_
  refine g_iadd (pc := 43) C dX12_feelsDoor_43 ?_
  refine g_iald (pc := 44) C dX12_feelsDoor_44 1 rfl h (fun v6 h => ?_)
  refine g_iast (pc := 45) C dX12_feelsDoor_45 6 rfl h (fun g7 h => ?_)
  refine g_ws (ws' := (W_X12_feelsDoor E o_t a_t t_toldDoors t_barredDoors t_taped t_place0 t_length0 t_fault t_number0 t_open t_codeMany t_waiting t_saidMany t_clauses t_newMany t_rounds t_pinFrom t_pinTimes t_lines t_wasTold t_wasBarred t_goesNow t_jamsNow t_queued t_isKept t_now t_prongsOf t_oneOf t_otherOf t_wardsOf g7)) rfl ?_
  refine g_aload_n (pc := 46) C dX12_feelsDoor_46 rfl 0 rfl ?_
  refine g_get (pc := 47) C fl_X12_83 dX12_feelsDoor_47 0 rfl rfl ?_
  refine g_iconst (pc := 50) (v := 5) C dX12_feelsDoor_50 (by decide) ?_
  refine g_aload_n (pc := 51) C dX12_feelsDoor_51 rfl 0 rfl ?_
  refine g_iload_n (pc := 52) C dX12_feelsDoor_52 rfl 1 rfl ?_
  refine g_iload_n (pc := 53) C dX12_feelsDoor_53 rfl 2 rfl ?_
  obtain ⟨u8, hu8, h⟩ := bs h
  refine g_callV (pc := 54) (st := [.int (5 : Int32), .ref (a_t 36)]) (st1 := [.int u8, .int (5 : Int32), .ref (a_t 36)]) (ws' := (W_X12_feelsDoor E o_t a_t t_toldDoors t_barredDoors t_taped t_place0 t_length0 t_fault t_number0 t_open t_codeMany t_waiting t_saidMany t_clauses t_newMany t_rounds t_pinFrom t_pinTimes t_lines t_wasTold t_wasBarred t_goesNow t_jamsNow t_queued t_isKept t_now t_prongsOf t_oneOf t_otherOf t_wardsOf g7)) C mv_X12_kindFor mi_X12_kindFor ml_X12_320 (c_X12_kindFor X.2.1 E o_t a_t t_toldDoors t_barredDoors t_taped t_place0 t_length0 t_fault t_number0 t_open t_codeMany t_waiting t_saidMany t_clauses t_newMany t_rounds t_pinFrom t_pinTimes t_lines t_wasTold t_wasBarred t_goesNow t_jamsNow t_queued t_isKept t_now t_prongsOf t_wardsOf x1 x2 u8 hu8) dX12_feelsDoor_54 (by decide) rfl (Nat.le_of_ble_eq_true rfl) 0 11 rfl rfl [0, 1, 2, 5] rfl (by decide) rfl rfl rfl rfl ?_
  refine g_iast (pc := 57) C dX12_feelsDoor_57 6 rfl h (fun g9 h => ?_)
  refine g_ws (ws' := (W_X12_feelsDoor E o_t a_t t_toldDoors t_barredDoors t_taped t_place0 t_length0 t_fault t_number0 t_open t_codeMany t_waiting t_saidMany t_clauses t_newMany t_rounds t_pinFrom t_pinTimes t_lines t_wasTold t_wasBarred t_goesNow t_jamsNow t_queued t_isKept t_now t_prongsOf t_oneOf t_otherOf t_wardsOf g9)) rfl ?_
  refine g_aload_n (pc := 58) C dX12_feelsDoor_58 rfl 0 rfl ?_
  refine g_get (pc := 59) C fl_X12_83 dX12_feelsDoor_59 0 rfl rfl ?_
  refine g_bipush (pc := 62) (v := 6) C dX12_feelsDoor_62 (by decide) ?_
  refine g_aload_n (pc := 64) C dX12_feelsDoor_64 rfl 0 rfl ?_
  refine g_get (pc := 65) C fl_X12_7 dX12_feelsDoor_65 0 rfl rfl ?_
  refine g_bipush (pc := 68) (v := 104) C dX12_feelsDoor_68 (by decide) ?_
  refine g_bipush (pc := 70) (v := 6) C dX12_feelsDoor_70 (by decide) ?_
  refine g_iload_n (pc := 72) C dX12_feelsDoor_72 rfl 1 rfl ?_
  refine g_imul (pc := 73) C dX12_feelsDoor_73 ?_
  refine g_iadd (pc := 74) C dX12_feelsDoor_74 ?_
  refine g_aload_n (pc := 75) C dX12_feelsDoor_75 rfl 0 rfl ?_
  refine g_get (pc := 76) C fl_X12_83 dX12_feelsDoor_76 0 rfl rfl ?_
  refine g_iconst (pc := 79) (v := 5) C dX12_feelsDoor_79 (by decide) ?_
  refine g_iald (pc := 80) C dX12_feelsDoor_80 6 rfl h (fun v10 h => ?_)
  refine g_iadd (pc := 81) C dX12_feelsDoor_81 ?_
  refine g_iald (pc := 82) C dX12_feelsDoor_82 1 rfl h (fun v11 h => ?_)
  refine g_iast (pc := 83) C dX12_feelsDoor_83 6 rfl h (fun g12 h => ?_)
  refine g_ws (ws' := (W_X12_feelsDoor E o_t a_t t_toldDoors t_barredDoors t_taped t_place0 t_length0 t_fault t_number0 t_open t_codeMany t_waiting t_saidMany t_clauses t_newMany t_rounds t_pinFrom t_pinTimes t_lines t_wasTold t_wasBarred t_goesNow t_jamsNow t_queued t_isKept t_now t_prongsOf t_oneOf t_otherOf t_wardsOf g12)) rfl ?_
  refine g_aload_n (pc := 84) C dX12_feelsDoor_84 rfl 0 rfl ?_
  refine g_get (pc := 85) C fl_X12_83 dX12_feelsDoor_85 0 rfl rfl ?_
  refine g_bipush (pc := 88) (v := 8) C dX12_feelsDoor_88 (by decide) ?_
  refine g_aload_n (pc := 90) C dX12_feelsDoor_90 rfl 0 rfl ?_
  refine g_aload_n (pc := 91) C dX12_feelsDoor_91 rfl 0 rfl ?_
  refine g_get (pc := 92) C fl_X12_83 dX12_feelsDoor_92 0 rfl rfl ?_
  refine g_iconst (pc := 95) (v := 3) C dX12_feelsDoor_95 (by decide) ?_
  refine g_iald (pc := 96) C dX12_feelsDoor_96 6 rfl h (fun v13 h => ?_)
  obtain ⟨u14, hu14, h⟩ := bs h
  refine g_callV (pc := 97) (st := [.int (8 : Int32), .ref (a_t 36)]) (st1 := [.int u14, .int (8 : Int32), .ref (a_t 36)]) (ws' := (W_X12_feelsDoor E o_t a_t t_toldDoors t_barredDoors t_taped t_place0 t_length0 t_fault t_number0 t_open t_codeMany t_waiting t_saidMany t_clauses t_newMany t_rounds t_pinFrom t_pinTimes t_lines t_wasTold t_wasBarred t_goesNow t_jamsNow t_queued t_isKept t_now t_prongsOf t_oneOf t_otherOf t_wardsOf g12)) C mv_X12_womenIn mi_X12_womenIn ml_X12_323 (c_X12_womenIn X.2.1 E o_t a_t t_toldDoors t_barredDoors t_taped t_place0 t_length0 t_fault t_number0 t_open t_codeMany t_waiting t_saidMany t_clauses t_newMany t_rounds t_pinFrom t_pinTimes t_lines t_wasTold t_wasBarred t_goesNow t_jamsNow t_queued t_isKept t_now v13 u14 hu14) dX12_feelsDoor_97 (by decide) rfl (Nat.le_of_ble_eq_true rfl) 0 11 rfl rfl [0, 1] rfl (by decide) rfl rfl rfl rfl ?_
  obtain ⟨u15, hu15, h⟩ := bs h
  refine g_callS (pc := 100) (st := [.int (8 : Int32), .ref (a_t 36)]) (st1 := [.int u15, .int (8 : Int32), .ref (a_t 36)]) (ws' := (W_X12_feelsDoor E o_t a_t t_toldDoors t_barredDoors t_taped t_place0 t_length0 t_fault t_number0 t_open t_codeMany t_waiting t_saidMany t_clauses t_newMany t_rounds t_pinFrom t_pinTimes t_lines t_wasTold t_wasBarred t_goesNow t_jamsNow t_queued t_isKept t_now t_prongsOf t_oneOf t_otherOf t_wardsOf g12)) C mv_X12_bits ms_X12_bits ml_X12_326 (c_X12_bits X.2.1 E u14 u15 hu15) dX12_feelsDoor_100 (by decide) rfl (Nat.le_of_ble_eq_true rfl) [] rfl (by decide) rfl rfl rfl rfl ?_
  refine g_iast (pc := 103) C dX12_feelsDoor_103 6 rfl h (fun g16 h => ?_)
  refine g_ws (ws' := (W_X12_feelsDoor E o_t a_t t_toldDoors t_barredDoors t_taped t_place0 t_length0 t_fault t_number0 t_open t_codeMany t_waiting t_saidMany t_clauses t_newMany t_rounds t_pinFrom t_pinTimes t_lines t_wasTold t_wasBarred t_goesNow t_jamsNow t_queued t_isKept t_now t_prongsOf t_oneOf t_otherOf t_wardsOf g16)) rfl ?_
  cases h
  exact hret _ _ _ dX12_feelsDoor_104 rfl
abbrev W_X12_groupOf (E : GE) (O_t : Nat) (a_t : Nat → Nat) (t_toldDoors : Int32) (t_barredDoors : Int32) (t_taped : Int32) (t_place0 : Int32) (t_length0 : Int32) (t_fault : Int32) (t_number0 : Int32) (t_open : Int32) (t_codeMany : Int32) (t_waiting : Int32) (t_saidMany : Int32) (t_clauses : Int32) (t_newMany : Int32) (t_rounds : Int32) (t_pinFrom : Int32) (t_pinTimes : Int32) (t_lines : Int32) (t_wasTold : Int32) (t_wasBarred : Int32) (t_goesNow : Int32) (t_jamsNow : Int32) (t_queued : Int32) (t_isKept : Int32) (t_oneOf : (Nat → Int32)) (t_otherOf : (Nat → Int32)) : va_W := [(O_t, ob_X12 a_t t_toldDoors t_barredDoors t_taped t_place0 t_length0 t_fault t_number0 t_open t_codeMany t_waiting t_saidMany t_clauses t_newMany t_rounds t_pinFrom t_pinTimes t_lines t_wasTold t_wasBarred t_goesNow t_jamsNow t_queued t_isKept), (a_t 4, .inl (E.2.1, 24, .inl t_oneOf)), (a_t 5, .inl (E.2.1, 24, .inl t_otherOf))]
def L_X12_groupOf_19 (t_toldDoors : Int32) (t_barredDoors : Int32) (t_oneOf : (Nat → Int32)) (t_otherOf : (Nat → Int32)) (x2 : Int32) (x4 : Int32) (k0 : Int32 → Option (Int32)) : Nat → Int32 × Int32 → Option (Int32) := lp fun go s => if (24 : Int32) ≤ s.2 then (k0 s.1) else if s.2 = x2 then (nm (s.2 + (1 : Int32)) fun v2 => go (s.1, v2)) else (f_X12_canOpen t_toldDoors t_barredDoors s.2).bind fun u3 => if u3 = 0 then (nm (s.2 + (1 : Int32)) fun v10 => go (s.1, v10)) else rd t_oneOf 24 s.2 fun v4 => rd t_otherOf 24 s.2 fun v5 => nm (((1 : Int32) <<< (v4 &&& 31)) ||| ((1 : Int32) <<< (v5 &&& 31))) fun v6 => if (s.1 &&& v6) = 0 then (nm (s.2 + (1 : Int32)) fun v7 => go (s.1, v7)) else nm (s.1 ||| v6) fun v8 => nm (s.2 + (1 : Int32)) fun v9 => go (v8, v9)
def L_X12_groupOf_7 (t_toldDoors : Int32) (t_barredDoors : Int32) (t_oneOf : (Nat → Int32)) (t_otherOf : (Nat → Int32)) (x2 : Int32) : Nat → Int32 × Int32 → Option (Int32) := lp fun go s => if s.1 = s.2 then (some s.1) else L_X12_groupOf_19 t_toldDoors t_barredDoors t_oneOf t_otherOf x2 s.1 (fun s11 => go (s11, s.1)) fu (s.1, (0 : Int32))
def f_X12_groupOf (t_toldDoors : Int32) (t_barredDoors : Int32) (t_oneOf : (Nat → Int32)) (t_otherOf : (Nat → Int32)) (x1 : Int32) (x2 : Int32) : Option (Int32) := nm ((1 : Int32) <<< (x1 &&& 31)) fun v1 => L_X12_groupOf_7 t_toldDoors t_barredDoors t_oneOf t_otherOf x2 fu (v1, (0 : Int32))
theorem dX12_groupOf_0 : decode cX12_groupOf 0 = .ok (.iconst 1, 1) := by decide +kernel
theorem dX12_groupOf_1 : decode cX12_groupOf 1 = .ok (.iload_n 1, 1) := by decide +kernel
theorem dX12_groupOf_2 : decode cX12_groupOf 2 = .ok (.ishl, 1) := by decide +kernel
theorem dX12_groupOf_3 : decode cX12_groupOf 3 = .ok (.istore_n 3, 1) := by decide +kernel
theorem dX12_groupOf_4 : decode cX12_groupOf 4 = .ok (.iconst 0, 1) := by decide +kernel
theorem dX12_groupOf_5 : decode cX12_groupOf 5 = .ok (.istore 4, 2) := by decide +kernel
theorem dX12_groupOf_7 : decode cX12_groupOf 7 = .ok (.iload_n 3, 1) := by decide +kernel
theorem dX12_groupOf_8 : decode cX12_groupOf 8 = .ok (.iload 4, 2) := by decide +kernel
theorem dX12_groupOf_10 : decode cX12_groupOf 10 = .ok (.if_icmp .eq 76, 3) := by decide +kernel
theorem dX12_groupOf_13 : decode cX12_groupOf 13 = .ok (.iload_n 3, 1) := by decide +kernel
theorem dX12_groupOf_14 : decode cX12_groupOf 14 = .ok (.istore 4, 2) := by decide +kernel
theorem dX12_groupOf_16 : decode cX12_groupOf 16 = .ok (.iconst 0, 1) := by decide +kernel
theorem dX12_groupOf_17 : decode cX12_groupOf 17 = .ok (.istore 5, 2) := by decide +kernel
theorem dX12_groupOf_19 : decode cX12_groupOf 19 = .ok (.iload 5, 2) := by decide +kernel
theorem dX12_groupOf_21 : decode cX12_groupOf 21 = .ok (.bipush 24, 2) := by decide +kernel
theorem dX12_groupOf_23 : decode cX12_groupOf 23 = .ok (.if_icmp .ge 60, 3) := by decide +kernel
theorem dX12_groupOf_26 : decode cX12_groupOf 26 = .ok (.iload 5, 2) := by decide +kernel
theorem dX12_groupOf_28 : decode cX12_groupOf 28 = .ok (.iload_n 2, 1) := by decide +kernel
theorem dX12_groupOf_29 : decode cX12_groupOf 29 = .ok (.if_icmp .eq 48, 3) := by decide +kernel
theorem dX12_groupOf_32 : decode cX12_groupOf 32 = .ok (.aload_n 0, 1) := by decide +kernel
theorem dX12_groupOf_33 : decode cX12_groupOf 33 = .ok (.iload 5, 2) := by decide +kernel
theorem dX12_groupOf_35 : decode cX12_groupOf 35 = .ok (.invokevirtual 329, 3) := by decide +kernel
theorem dX12_groupOf_38 : decode cX12_groupOf 38 = .ok (.ifCond .ne 6, 3) := by decide +kernel
theorem dX12_groupOf_41 : decode cX12_groupOf 41 = .ok (.goto 36, 3) := by decide +kernel
theorem dX12_groupOf_44 : decode cX12_groupOf 44 = .ok (.iconst 1, 1) := by decide +kernel
theorem dX12_groupOf_45 : decode cX12_groupOf 45 = .ok (.aload_n 0, 1) := by decide +kernel
theorem dX12_groupOf_46 : decode cX12_groupOf 46 = .ok (.getfield 22, 3) := by decide +kernel
theorem dX12_groupOf_49 : decode cX12_groupOf 49 = .ok (.iload 5, 2) := by decide +kernel
theorem dX12_groupOf_51 : decode cX12_groupOf 51 = .ok (.iaload, 1) := by decide +kernel
theorem dX12_groupOf_52 : decode cX12_groupOf 52 = .ok (.ishl, 1) := by decide +kernel
theorem dX12_groupOf_53 : decode cX12_groupOf 53 = .ok (.iconst 1, 1) := by decide +kernel
theorem dX12_groupOf_54 : decode cX12_groupOf 54 = .ok (.aload_n 0, 1) := by decide +kernel
theorem dX12_groupOf_55 : decode cX12_groupOf 55 = .ok (.getfield 25, 3) := by decide +kernel
theorem dX12_groupOf_58 : decode cX12_groupOf 58 = .ok (.iload 5, 2) := by decide +kernel
theorem dX12_groupOf_60 : decode cX12_groupOf 60 = .ok (.iaload, 1) := by decide +kernel
theorem dX12_groupOf_61 : decode cX12_groupOf 61 = .ok (.ishl, 1) := by decide +kernel
theorem dX12_groupOf_62 : decode cX12_groupOf 62 = .ok (.ior, 1) := by decide +kernel
theorem dX12_groupOf_63 : decode cX12_groupOf 63 = .ok (.istore 6, 2) := by decide +kernel
theorem dX12_groupOf_65 : decode cX12_groupOf 65 = .ok (.iload_n 3, 1) := by decide +kernel
theorem dX12_groupOf_66 : decode cX12_groupOf 66 = .ok (.iload 6, 2) := by decide +kernel
theorem dX12_groupOf_68 : decode cX12_groupOf 68 = .ok (.iand, 1) := by decide +kernel
theorem dX12_groupOf_69 : decode cX12_groupOf 69 = .ok (.ifCond .eq 8, 3) := by decide +kernel
theorem dX12_groupOf_72 : decode cX12_groupOf 72 = .ok (.iload_n 3, 1) := by decide +kernel
theorem dX12_groupOf_73 : decode cX12_groupOf 73 = .ok (.iload 6, 2) := by decide +kernel
theorem dX12_groupOf_75 : decode cX12_groupOf 75 = .ok (.ior, 1) := by decide +kernel
theorem dX12_groupOf_76 : decode cX12_groupOf 76 = .ok (.istore_n 3, 1) := by decide +kernel
theorem dX12_groupOf_77 : decode cX12_groupOf 77 = .ok (.iinc 5 1, 3) := by decide +kernel
theorem dX12_groupOf_80 : decode cX12_groupOf 80 = .ok (.goto (-61), 3) := by decide +kernel
theorem dX12_groupOf_83 : decode cX12_groupOf 83 = .ok (.goto (-76), 3) := by decide +kernel
theorem dX12_groupOf_86 : decode cX12_groupOf 86 = .ok (.iload_n 3, 1) := by decide +kernel
theorem dX12_groupOf_87 : decode cX12_groupOf 87 = .ok (.ireturn, 1) := by decide +kernel
set_option maxHeartbeats 4000000 in
set_option maxRecDepth 100000 in
theorem kL_X12_groupOf_19 {X : GC} {E : GE} (C : Cx X E cX12_groupOf RX12 4 7) (o_t : Nat) (a_t : Nat → Nat) (t_taped : Int32) (t_place0 : Int32) (t_length0 : Int32) (t_fault : Int32) (t_number0 : Int32) (t_open : Int32) (t_codeMany : Int32) (t_waiting : Int32) (t_saidMany : Int32) (t_clauses : Int32) (t_newMany : Int32) (t_rounds : Int32) (t_pinFrom : Int32) (t_pinTimes : Int32) (t_lines : Int32) (t_wasTold : Int32) (t_wasBarred : Int32) (t_goesNow : Int32) (t_jamsNow : Int32) (t_queued : Int32) (t_isKept : Int32) (t_toldDoors : Int32) (t_barredDoors : Int32) (t_oneOf : (Nat → Int32)) (t_otherOf : (Nat → Int32)) (x2 : Int32) (x4 : Int32) (k0 : Int32 → Option (Int32)) {r : Int32} (hret : RtI X E cX12_groupOf .int 0 0 (fun w => w = (W_X12_groupOf E o_t a_t t_toldDoors t_barredDoors t_taped t_place0 t_length0 t_fault t_number0 t_open t_codeMany t_waiting t_saidMany t_clauses t_newMany t_rounds t_pinFrom t_pinTimes t_lines t_wasTold t_wasBarred t_goesNow t_jamsNow t_queued t_isKept t_oneOf t_otherOf)) r) (hk0 : ∀ u, k0 u = some r → Gx X E 0 0 (W_X12_groupOf E o_t a_t t_toldDoors t_barredDoors t_taped t_place0 t_length0 t_fault t_number0 t_open t_codeMany t_waiting t_saidMany t_clauses t_newMany t_rounds t_pinFrom t_pinTimes t_lines t_wasTold t_wasBarred t_goesNow t_jamsNow t_queued t_isKept t_oneOf t_otherOf) 83 [(0, .ref o_t), (2, .int x2), (3, .int u), (4, .int x4)] []) : ∀ (n : Nat) (s : Int32 × Int32), L_X12_groupOf_19 t_toldDoors t_barredDoors t_oneOf t_otherOf x2 x4 k0 n s = some r → Gx X E 0 0 (W_X12_groupOf E o_t a_t t_toldDoors t_barredDoors t_taped t_place0 t_length0 t_fault t_number0 t_open t_codeMany t_waiting t_saidMany t_clauses t_newMany t_rounds t_pinFrom t_pinTimes t_lines t_wasTold t_wasBarred t_goesNow t_jamsNow t_queued t_isKept t_oneOf t_otherOf) 19 [(0, .ref o_t), (2, .int x2), (3, .int s.1), (4, .int x4), (5, .int s.2)] [] := by
  unfold L_X12_groupOf_19
  refine lp_ind _ (fun go ih s h => ?_)
  refine g_iload (pc := 19) C dX12_groupOf_19 4 rfl ?_
  refine g_bipush (pc := 21) (v := 24) C dX12_groupOf_21 (by decide) ?_
  refine g_icmp_ge (pc := 23) (tgt := 83) C dX12_groupOf_23 (by decide) h (fun h => ?_) (fun h => ?_)
  · refine g_sub [0, 1, 2, 3] rfl ?_
    exact hk0 _ h
  · refine g_iload (pc := 26) C dX12_groupOf_26 4 rfl ?_
    refine g_iload_n (pc := 28) C dX12_groupOf_28 rfl 1 rfl ?_
    refine g_icmp_eq (pc := 29) (tgt := 77) C dX12_groupOf_29 (by decide) h (fun h => ?_) (fun h => ?_)
    · refine g_iincn (pc := 77) (j := 4) (d := 1) (lv' := fun v2 => [(5, .int v2), (0, .ref o_t), (2, .int x2), (3, .int s.1), (4, .int x4)]) C dX12_groupOf_77 rfl (by decide) (by decide) (fun _ => rfl) h (fun v2 h => ?_)
      refine g_goto (pc := 80) (tgt := 19) C dX12_groupOf_80 (by decide) ?_
      refine g_sub [1, 2, 3, 4, 0] rfl ?_
      exact ih _ h
    · refine g_aload_n (pc := 32) C dX12_groupOf_32 rfl 0 rfl ?_
      refine g_iload (pc := 33) C dX12_groupOf_33 4 rfl ?_
      obtain ⟨u3, hu3, h⟩ := bs h
      refine g_callV (pc := 35) (st := []) (st1 := [.int u3]) (ws' := (W_X12_groupOf E o_t a_t t_toldDoors t_barredDoors t_taped t_place0 t_length0 t_fault t_number0 t_open t_codeMany t_waiting t_saidMany t_clauses t_newMany t_rounds t_pinFrom t_pinTimes t_lines t_wasTold t_wasBarred t_goesNow t_jamsNow t_queued t_isKept t_oneOf t_otherOf)) C mv_X12_canOpen mi_X12_canOpen ml_X12_329 (c_X12_canOpen X.2.1 E o_t a_t t_toldDoors t_barredDoors t_taped t_place0 t_length0 t_fault t_number0 t_open t_codeMany t_waiting t_saidMany t_clauses t_newMany t_rounds t_pinFrom t_pinTimes t_lines t_wasTold t_wasBarred t_goesNow t_jamsNow t_queued t_isKept s.2 u3 hu3) dX12_groupOf_35 (by decide) rfl (Nat.le_of_ble_eq_true rfl) 0 11 rfl rfl [0] rfl (by decide) rfl rfl rfl rfl ?_
      refine g_if_ne (pc := 38) (tgt := 44) C dX12_groupOf_38 (by decide) h (fun h => ?_) (fun h => ?_)
      · refine g_iconst (pc := 44) (v := 1) C dX12_groupOf_44 (by decide) ?_
        refine g_aload_n (pc := 45) C dX12_groupOf_45 rfl 0 rfl ?_
        refine g_get (pc := 46) C fl_X12_22 dX12_groupOf_46 0 rfl rfl ?_
        refine g_iload (pc := 49) C dX12_groupOf_49 4 rfl ?_
        refine g_iald (pc := 51) C dX12_groupOf_51 1 rfl h (fun v4 h => ?_)
        refine g_ishl (pc := 52) C dX12_groupOf_52 ?_
        refine g_iconst (pc := 53) (v := 1) C dX12_groupOf_53 (by decide) ?_
        refine g_aload_n (pc := 54) C dX12_groupOf_54 rfl 0 rfl ?_
        refine g_get (pc := 55) C fl_X12_25 dX12_groupOf_55 0 rfl rfl ?_
        refine g_iload (pc := 58) C dX12_groupOf_58 4 rfl ?_
        refine g_iald (pc := 60) C dX12_groupOf_60 2 rfl h (fun v5 h => ?_)
        refine g_ishl (pc := 61) C dX12_groupOf_61 ?_
        refine g_ior (pc := 62) C dX12_groupOf_62 ?_
        refine g_nm h (fun v6 h => ?_)
        refine g_istore (pc := 63) (lv' := [(6, .int v6), (0, .ref o_t), (2, .int x2), (3, .int s.1), (4, .int x4), (5, .int s.2)]) C dX12_groupOf_63 (by decide) rfl ?_
        refine g_iload_n (pc := 65) C dX12_groupOf_65 rfl 3 rfl ?_
        refine g_iload (pc := 66) C dX12_groupOf_66 0 rfl ?_
        refine g_iand (pc := 68) C dX12_groupOf_68 ?_
        refine g_if_eq (pc := 69) (tgt := 77) C dX12_groupOf_69 (by decide) h (fun h => ?_) (fun h => ?_)
        · refine g_iincn (pc := 77) (j := 5) (d := 1) (lv' := fun v7 => [(5, .int v7), (6, .int v6), (0, .ref o_t), (2, .int x2), (3, .int s.1), (4, .int x4)]) C dX12_groupOf_77 rfl (by decide) (by decide) (fun _ => rfl) h (fun v7 h => ?_)
          refine g_goto (pc := 80) (tgt := 19) C dX12_groupOf_80 (by decide) ?_
          refine g_sub [2, 3, 4, 5, 0] rfl ?_
          exact ih _ h
        · refine g_iload_n (pc := 72) C dX12_groupOf_72 rfl 3 rfl ?_
          refine g_iload (pc := 73) C dX12_groupOf_73 0 rfl ?_
          refine g_ior (pc := 75) C dX12_groupOf_75 ?_
          refine g_nm h (fun v8 h => ?_)
          refine g_istore_n (pc := 76) (lv' := [(3, .int v8), (6, .int v6), (0, .ref o_t), (2, .int x2), (4, .int x4), (5, .int s.2)]) C dX12_groupOf_76 rfl (by decide) rfl ?_
          refine g_iincn (pc := 77) (j := 5) (d := 1) (lv' := fun v9 => [(5, .int v9), (3, .int v8), (6, .int v6), (0, .ref o_t), (2, .int x2), (4, .int x4)]) C dX12_groupOf_77 rfl (by decide) (by decide) (fun _ => rfl) h (fun v9 h => ?_)
          refine g_goto (pc := 80) (tgt := 19) C dX12_groupOf_80 (by decide) ?_
          refine g_sub [3, 4, 1, 5, 0] rfl ?_
          exact ih _ h
      · refine g_goto (pc := 41) (tgt := 77) C dX12_groupOf_41 (by decide) ?_
        refine g_iincn (pc := 77) (j := 4) (d := 1) (lv' := fun v10 => [(5, .int v10), (0, .ref o_t), (2, .int x2), (3, .int s.1), (4, .int x4)]) C dX12_groupOf_77 rfl (by decide) (by decide) (fun _ => rfl) h (fun v10 h => ?_)
        refine g_goto (pc := 80) (tgt := 19) C dX12_groupOf_80 (by decide) ?_
        refine g_sub [1, 2, 3, 4, 0] rfl ?_
        exact ih _ h
set_option maxHeartbeats 4000000 in
set_option maxRecDepth 100000 in
theorem kL_X12_groupOf_7 {X : GC} {E : GE} (C : Cx X E cX12_groupOf RX12 4 7) (o_t : Nat) (a_t : Nat → Nat) (t_taped : Int32) (t_place0 : Int32) (t_length0 : Int32) (t_fault : Int32) (t_number0 : Int32) (t_open : Int32) (t_codeMany : Int32) (t_waiting : Int32) (t_saidMany : Int32) (t_clauses : Int32) (t_newMany : Int32) (t_rounds : Int32) (t_pinFrom : Int32) (t_pinTimes : Int32) (t_lines : Int32) (t_wasTold : Int32) (t_wasBarred : Int32) (t_goesNow : Int32) (t_jamsNow : Int32) (t_queued : Int32) (t_isKept : Int32) (t_toldDoors : Int32) (t_barredDoors : Int32) (t_oneOf : (Nat → Int32)) (t_otherOf : (Nat → Int32)) (x2 : Int32) {r : Int32} (hret : RtI X E cX12_groupOf .int 0 0 (fun w => w = (W_X12_groupOf E o_t a_t t_toldDoors t_barredDoors t_taped t_place0 t_length0 t_fault t_number0 t_open t_codeMany t_waiting t_saidMany t_clauses t_newMany t_rounds t_pinFrom t_pinTimes t_lines t_wasTold t_wasBarred t_goesNow t_jamsNow t_queued t_isKept t_oneOf t_otherOf)) r) : ∀ (n : Nat) (s : Int32 × Int32), L_X12_groupOf_7 t_toldDoors t_barredDoors t_oneOf t_otherOf x2 n s = some r → Gx X E 0 0 (W_X12_groupOf E o_t a_t t_toldDoors t_barredDoors t_taped t_place0 t_length0 t_fault t_number0 t_open t_codeMany t_waiting t_saidMany t_clauses t_newMany t_rounds t_pinFrom t_pinTimes t_lines t_wasTold t_wasBarred t_goesNow t_jamsNow t_queued t_isKept t_oneOf t_otherOf) 7 [(0, .ref o_t), (2, .int x2), (3, .int s.1), (4, .int s.2)] [] := by
  unfold L_X12_groupOf_7
  refine lp_ind _ (fun go ih s h => ?_)
  refine g_iload_n (pc := 7) C dX12_groupOf_7 rfl 2 rfl ?_
  refine g_iload (pc := 8) C dX12_groupOf_8 3 rfl ?_
  refine g_icmp_eq (pc := 10) (tgt := 86) C dX12_groupOf_10 (by decide) h (fun h => ?_) (fun h => ?_)
  · refine g_iload_n (pc := 86) C dX12_groupOf_86 rfl 2 rfl ?_
    cases h
    exact hret _ _ _ dX12_groupOf_87 rfl rfl
  · refine g_iload_n (pc := 13) C dX12_groupOf_13 rfl 2 rfl ?_
    refine g_istore (pc := 14) (lv' := [(4, .int s.1), (0, .ref o_t), (2, .int x2), (3, .int s.1)]) C dX12_groupOf_14 (by decide) rfl ?_
    refine g_iconst (pc := 16) (v := 0) C dX12_groupOf_16 (by decide) ?_
    refine g_istore (pc := 17) (lv' := [(5, .int (0 : Int32)), (4, .int s.1), (0, .ref o_t), (2, .int x2), (3, .int s.1)]) C dX12_groupOf_17 (by decide) rfl ?_
    refine g_sub [2, 3, 4, 1, 0] rfl ?_
    refine kL_X12_groupOf_19 C o_t a_t t_taped t_place0 t_length0 t_fault t_number0 t_open t_codeMany t_waiting t_saidMany t_clauses t_newMany t_rounds t_pinFrom t_pinTimes t_lines t_wasTold t_wasBarred t_goesNow t_jamsNow t_queued t_isKept t_toldDoors t_barredDoors t_oneOf t_otherOf x2 s.1 _ hret (fun s11 h => ?_) _ _ h
    refine g_goto (pc := 83) (tgt := 7) C dX12_groupOf_83 (by decide) ?_
    exact ih _ h
set_option maxHeartbeats 4000000 in
set_option maxRecDepth 100000 in
theorem c_X12_groupOf (l : Launch) (E : GE) (o_t : Nat) (a_t : Nat → Nat) (t_toldDoors : Int32) (t_barredDoors : Int32) (t_taped : Int32) (t_place0 : Int32) (t_length0 : Int32) (t_fault : Int32) (t_number0 : Int32) (t_open : Int32) (t_codeMany : Int32) (t_waiting : Int32) (t_saidMany : Int32) (t_clauses : Int32) (t_newMany : Int32) (t_rounds : Int32) (t_pinFrom : Int32) (t_pinTimes : Int32) (t_lines : Int32) (t_wasTold : Int32) (t_wasBarred : Int32) (t_goesNow : Int32) (t_jamsNow : Int32) (t_queued : Int32) (t_isKept : Int32) (t_oneOf : (Nat → Int32)) (t_otherOf : (Nat → Int32)) (x1 : Int32) (x2 : Int32) (r : Int32) (h : f_X12_groupOf t_toldDoors t_barredDoors t_oneOf t_otherOf x1 x2 = some r) : Cn l E yX12_groupOf cX12_groupOf 7 (some .int) 4 0 0 [.ref o_t, .int x1, .int x2] (W_X12_groupOf E o_t a_t t_toldDoors t_barredDoors t_taped t_place0 t_length0 t_fault t_number0 t_open t_codeMany t_waiting t_saidMany t_clauses t_newMany t_rounds t_pinFrom t_pinTimes t_lines t_wasTold t_wasBarred t_goesNow t_jamsNow t_queued t_isKept t_oneOf t_otherOf) (fun w => w = (W_X12_groupOf E o_t a_t t_toldDoors t_barredDoors t_taped t_place0 t_length0 t_fault t_number0 t_open t_codeMany t_waiting t_saidMany t_clauses t_newMany t_rounds t_pinFrom t_pinTimes t_lines t_wasTold t_wasBarred t_goesNow t_jamsNow t_queued t_isKept t_oneOf t_otherOf)) (some (.int r)) := by
  refine Cn.ofI (by decide +kernel) (Nat.le_of_ble_eq_true rfl) (fun X hX hR C hret => ?_)
  subst hX
  show Gx X E 0 0 (W_X12_groupOf E o_t a_t t_toldDoors t_barredDoors t_taped t_place0 t_length0 t_fault t_number0 t_open t_codeMany t_waiting t_saidMany t_clauses t_newMany t_rounds t_pinFrom t_pinTimes t_lines t_wasTold t_wasBarred t_goesNow t_jamsNow t_queued t_isKept t_oneOf t_otherOf) 0 [(0, .ref o_t), (1, .int x1), (2, .int x2)] []
  unfold f_X12_groupOf at h
  refine g_iconst (pc := 0) (v := 1) C dX12_groupOf_0 (by decide) ?_
  refine g_iload_n (pc := 1) C dX12_groupOf_1 rfl 1 rfl ?_
  refine g_ishl (pc := 2) C dX12_groupOf_2 ?_
  refine g_nm h (fun v1 h => ?_)
  refine g_istore_n (pc := 3) (lv' := [(3, .int v1), (0, .ref o_t), (1, .int x1), (2, .int x2)]) C dX12_groupOf_3 rfl (by decide) rfl ?_
  refine g_iconst (pc := 4) (v := 0) C dX12_groupOf_4 (by decide) ?_
  refine g_istore (pc := 5) (lv' := [(4, .int (0 : Int32)), (3, .int v1), (0, .ref o_t), (1, .int x1), (2, .int x2)]) C dX12_groupOf_5 (by decide) rfl ?_
  refine g_sub [2, 4, 1, 0] rfl ?_
  refine kL_X12_groupOf_7 C o_t a_t t_taped t_place0 t_length0 t_fault t_number0 t_open t_codeMany t_waiting t_saidMany t_clauses t_newMany t_rounds t_pinFrom t_pinTimes t_lines t_wasTold t_wasBarred t_goesNow t_jamsNow t_queued t_isKept t_toldDoors t_barredDoors t_oneOf t_otherOf x2 hret  _ _ h
