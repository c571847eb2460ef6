abbrev W_X12_endsPiece (E : GE) (O_t : Nat) (a_t : Nat → Nat) (t_toldDoors : Int32) (t_barredDoors : Int32) (t_taped : Int32) (t_place0 : Int32) (t_length0 : Int32) (t_fault : Int32) (t_number0 : Int32) (t_open : Int32) (t_codeMany : Int32) (t_waiting : Int32) (t_saidMany : Int32) (t_clauses : Int32) (t_newMany : Int32) (t_rounds : Int32) (t_pinFrom : Int32) (t_pinTimes : Int32) (t_lines : Int32) (t_wasTold : Int32) (t_wasBarred : Int32) (t_goesNow : Int32) (t_jamsNow : Int32) (t_queued : Int32) (t_isKept : Int32) (t_said : (Nat → Int32)) (t_waitsAt : (Nat → Int32)) : va_W := [(O_t, ob_X12 a_t t_toldDoors t_barredDoors t_taped t_place0 t_length0 t_fault t_number0 t_open t_codeMany t_waiting t_saidMany t_clauses t_newMany t_rounds t_pinFrom t_pinTimes t_lines t_wasTold t_wasBarred t_goesNow t_jamsNow t_queued t_isKept), (a_t 24, .inl (E.2.1, 260, .inl t_said)), (a_t 25, .inl (E.2.1, 260, .inl t_waitsAt))]
def L_X12_endsPiece_0 (t_waitsAt : (Nat → Int32)) : Nat → Int32 × Int32 × Int32 × (Nat → Int32) → Option (Int32 × Int32 × Int32 × (Nat → Int32)) := lp fun go s => (f_X12_waitTop s.2.2.1 t_waitsAt).bind fun u1 => if u1 = (10 : Int32) then ((f_X12_notes s.2.1 s.2.2.2 (10 : Int32) (0 : Int32)).bind fun u2 => nm (s.2.2.1 - (1 : Int32)) fun v3 => nm (s.1 - (1 : Int32)) fun v4 => go (v4, u2.1, v3, u2.2)) else some (s.1, s.2.1, s.2.2.1, s.2.2.2)
def f_X12_endsPiece (t_open : Int32) (t_codeMany : Int32) (t_waiting : Int32) (t_said : (Nat → Int32)) (t_waitsAt : (Nat → Int32)) : Option (Int32 × Int32 × Int32 × (Nat → Int32)) := L_X12_endsPiece_0 t_waitsAt fu (t_open, t_codeMany, t_waiting, t_said)
theorem dX12_endsPiece_0 : decode cX12_endsPiece 0 = .ok (.aload_n 0, 1) := by decide +kernel
theorem dX12_endsPiece_1 : decode cX12_endsPiece 1 = .ok (.invokevirtual 179, 3) := by decide +kernel
theorem dX12_endsPiece_4 : decode cX12_endsPiece 4 = .ok (.bipush 10, 2) := by decide +kernel
theorem dX12_endsPiece_6 : decode cX12_endsPiece 6 = .ok (.if_icmp .ne 33, 3) := by decide +kernel
theorem dX12_endsPiece_9 : decode cX12_endsPiece 9 = .ok (.aload_n 0, 1) := by decide +kernel
theorem dX12_endsPiece_10 : decode cX12_endsPiece 10 = .ok (.bipush 10, 2) := by decide +kernel
theorem dX12_endsPiece_12 : decode cX12_endsPiece 12 = .ok (.iconst 0, 1) := by decide +kernel
theorem dX12_endsPiece_13 : decode cX12_endsPiece 13 = .ok (.invokevirtual 182, 3) := by decide +kernel
theorem dX12_endsPiece_16 : decode cX12_endsPiece 16 = .ok (.aload_n 0, 1) := by decide +kernel
theorem dX12_endsPiece_17 : decode cX12_endsPiece 17 = .ok (.aload_n 0, 1) := by decide +kernel
theorem dX12_endsPiece_18 : decode cX12_endsPiece 18 = .ok (.getfield 176, 3) := by decide +kernel
theorem dX12_endsPiece_21 : decode cX12_endsPiece 21 = .ok (.iconst 1, 1) := by decide +kernel
theorem dX12_endsPiece_22 : decode cX12_endsPiece 22 = .ok (.isub, 1) := by decide +kernel
theorem dX12_endsPiece_23 : decode cX12_endsPiece 23 = .ok (.putfield 176, 3) := by decide +kernel
theorem dX12_endsPiece_26 : decode cX12_endsPiece 26 = .ok (.aload_n 0, 1) := by decide +kernel
theorem dX12_endsPiece_27 : decode cX12_endsPiece 27 = .ok (.aload_n 0, 1) := by decide +kernel
theorem dX12_endsPiece_28 : decode cX12_endsPiece 28 = .ok (.getfield 173, 3) := by decide +kernel
theorem dX12_endsPiece_31 : decode cX12_endsPiece 31 = .ok (.iconst 1, 1) := by decide +kernel
theorem dX12_endsPiece_32 : decode cX12_endsPiece 32 = .ok (.isub, 1) := by decide +kernel
theorem dX12_endsPiece_33 : decode cX12_endsPiece 33 = .ok (.putfield 173, 3) := by decide +kernel
theorem dX12_endsPiece_36 : decode cX12_endsPiece 36 = .ok (.goto (-36), 3) := by decide +kernel
theorem dX12_endsPiece_39 : decode cX12_endsPiece 39 = .ok (.return_, 1) := by decide +kernel
set_option maxHeartbeats 4000000 in
set_option maxRecDepth 100000 in
theorem kL_X12_endsPiece_0 {X : GC} {E : GE} (C : Cx X E cX12_endsPiece RX12 2 1) (o_t : Nat) (a_t : Nat → Nat) (t_toldDoors : Int32) (t_barredDoors : Int32) (t_taped : Int32) (t_place0 : Int32) (t_length0 : Int32) (t_fault : Int32) (t_number0 : Int32) (t_saidMany : Int32) (t_clauses : Int32) (t_newMany : Int32) (t_rounds : Int32) (t_pinFrom : Int32) (t_pinTimes : Int32) (t_lines : Int32) (t_wasTold : Int32) (t_wasBarred : Int32) (t_goesNow : Int32) (t_jamsNow : Int32) (t_queued : Int32) (t_isKept : Int32) (t_waitsAt : (Nat → Int32)) {r : Int32 × Int32 × Int32 × (Nat → Int32)} (hret : RtV X E cX12_endsPiece 0 0 (fun w => w = (W_X12_endsPiece E o_t a_t t_toldDoors t_barredDoors t_taped t_place0 t_length0 t_fault t_number0 r.1 r.2.1 r.2.2.1 t_saidMany t_clauses t_newMany t_rounds t_pinFrom t_pinTimes t_lines t_wasTold t_wasBarred t_goesNow t_jamsNow t_queued t_isKept r.2.2.2 t_waitsAt))) : ∀ (n : Nat) (s : Int32 × Int32 × Int32 × (Nat → Int32)), L_X12_endsPiece_0 t_waitsAt n s = some r → Gx X E 0 0 (W_X12_endsPiece E o_t a_t t_toldDoors t_barredDoors t_taped t_place0 t_length0 t_fault t_number0 s.1 s.2.1 s.2.2.1 t_saidMany t_clauses t_newMany t_rounds t_pinFrom t_pinTimes t_lines t_wasTold t_wasBarred t_goesNow t_jamsNow t_queued t_isKept s.2.2.2 t_waitsAt) 0 [(0, .ref o_t)] [] := by
  unfold L_X12_endsPiece_0
  refine lp_ind _ (fun go ih s h => ?_)
  refine g_aload_n (pc := 0) C dX12_endsPiece_0 rfl 0 rfl ?_
  obtain ⟨u1, hu1, h⟩ := bs h
  refine g_callV (pc := 1) (st := []) (st1 := [.int u1]) (ws' := (W_X12_endsPiece E o_t a_t t_toldDoors t_barredDoors t_taped t_place0 t_length0 t_fault t_number0 s.1 s.2.1 s.2.2.1 t_saidMany t_clauses t_newMany t_rounds t_pinFrom t_pinTimes t_lines t_wasTold t_wasBarred t_goesNow t_jamsNow t_queued t_isKept s.2.2.2 t_waitsAt)) C mv_X12_waitTop mi_X12_waitTop ml_X12_179 (c_X12_waitTop X.2.1 E o_t a_t t_toldDoors t_barredDoors t_taped t_place0 t_length0 t_fault t_number0 s.1 s.2.1 s.2.2.1 t_saidMany t_clauses t_newMany t_rounds t_pinFrom t_pinTimes t_lines t_wasTold t_wasBarred t_goesNow t_jamsNow t_queued t_isKept t_waitsAt u1 hu1) dX12_endsPiece_1 (by decide) rfl (Nat.le_of_ble_eq_true rfl) 0 11 rfl rfl [0, 2] rfl (by decide) rfl rfl rfl rfl ?_
  refine g_bipush (pc := 4) (v := 10) C dX12_endsPiece_4 (by decide) ?_
  refine g_icmp_ne (pc := 6) (tgt := 39) C dX12_endsPiece_6 (by decide) h (fun h => ?_) (fun h => ?_)
  · cases h
    exact hret _ _ _ dX12_endsPiece_39 rfl
  · refine g_aload_n (pc := 9) C dX12_endsPiece_9 rfl 0 rfl ?_
    refine g_bipush (pc := 10) (v := 10) C dX12_endsPiece_10 (by decide) ?_
    refine g_iconst (pc := 12) (v := 0) C dX12_endsPiece_12 (by decide) ?_
    obtain ⟨u2, hu2, h⟩ := bs h
    refine g_callV (pc := 13) (st := []) (st1 := []) (ws' := (W_X12_endsPiece E o_t a_t t_toldDoors t_barredDoors t_taped t_place0 t_length0 t_fault t_number0 s.1 u2.1 s.2.2.1 t_saidMany t_clauses t_newMany t_rounds t_pinFrom t_pinTimes t_lines t_wasTold t_wasBarred t_goesNow t_jamsNow t_queued t_isKept u2.2 t_waitsAt)) C mv_X12_notes mi_X12_notes ml_X12_182 (c_X12_notes X.2.1 E o_t a_t t_toldDoors t_barredDoors t_taped t_place0 t_length0 t_fault t_number0 s.1 s.2.1 s.2.2.1 t_saidMany t_clauses t_newMany t_rounds t_pinFrom t_pinTimes t_lines t_wasTold t_wasBarred t_goesNow t_jamsNow t_queued t_isKept s.2.2.2 (10 : Int32) (0 : Int32) u2 hu2) dX12_endsPiece_13 (by decide) rfl (Nat.le_of_ble_eq_true rfl) 0 11 rfl rfl [0, 1] rfl (by decide) rfl rfl rfl rfl ?_
    refine g_aload_n (pc := 16) C dX12_endsPiece_16 rfl 0 rfl ?_
    refine g_aload_n (pc := 17) C dX12_endsPiece_17 rfl 0 rfl ?_
    refine g_get (pc := 18) C fl_X12_176 dX12_endsPiece_18 0 rfl rfl ?_
    refine g_iconst (pc := 21) (v := 1) C dX12_endsPiece_21 (by decide) ?_
    refine g_isub (pc := 22) C dX12_endsPiece_22 ?_
    refine g_nm h (fun v3 h => ?_)
    refine g_put (pc := 23) (ws' := (W_X12_endsPiece E o_t a_t t_toldDoors t_barredDoors t_taped t_place0 t_length0 t_fault t_number0 s.1 u2.1 v3 t_saidMany t_clauses t_newMany t_rounds t_pinFrom t_pinTimes t_lines t_wasTold t_wasBarred t_goesNow t_jamsNow t_queued t_isKept u2.2 t_waitsAt)) C .int fl_X12_176 dX12_endsPiece_23 0 rfl (by decide +kernel) rfl rfl (Nat.le_of_ble_eq_true rfl) rfl ?_
    refine g_aload_n (pc := 26) C dX12_endsPiece_26 rfl 0 rfl ?_
    refine g_aload_n (pc := 27) C dX12_endsPiece_27 rfl 0 rfl ?_
    refine g_get (pc := 28) C fl_X12_173 dX12_endsPiece_28 0 rfl rfl ?_
    refine g_iconst (pc := 31) (v := 1) C dX12_endsPiece_31 (by decide) ?_
    refine g_isub (pc := 32) C dX12_endsPiece_32 ?_
    refine g_nm h (fun v4 h => ?_)
    refine g_put (pc := 33) (ws' := (W_X12_endsPiece E o_t a_t t_toldDoors t_barredDoors t_taped t_place0 t_length0 t_fault t_number0 v4 u2.1 v3 t_saidMany t_clauses t_newMany t_rounds t_pinFrom t_pinTimes t_lines t_wasTold t_wasBarred t_goesNow t_jamsNow t_queued t_isKept u2.2 t_waitsAt)) C .int fl_X12_173 dX12_endsPiece_33 0 rfl (by decide +kernel) rfl rfl (Nat.le_of_ble_eq_true rfl) rfl ?_
    refine g_goto (pc := 36) (tgt := 0) C dX12_endsPiece_36 (by decide) ?_
    exact ih _ h
set_option maxHeartbeats 4000000 in
set_option maxRecDepth 100000 in
theorem c_X12_endsPiece (l : Launch) (E : GE) (o_t : Nat) (a_t : Nat → Nat) (t_toldDoors : Int32) (t_barredDoors : Int32) (t_taped : Int32) (t_place0 : Int32) (t_length0 : Int32) (t_fault : Int32) (t_number0 : Int32) (t_open : Int32) (t_codeMany : Int32) (t_waiting : Int32) (t_saidMany : Int32) (t_clauses : Int32) (t_newMany : Int32) (t_rounds : Int32) (t_pinFrom : Int32) (t_pinTimes : Int32) (t_lines : Int32) (t_wasTold : Int32) (t_wasBarred : Int32) (t_goesNow : Int32) (t_jamsNow : Int32) (t_queued : Int32) (t_isKept : Int32) (t_said : (Nat → Int32)) (t_waitsAt : (Nat → Int32)) (r : Int32 × Int32 × Int32 × (Nat → Int32)) (h : f_X12_endsPiece t_open t_codeMany t_waiting t_said t_waitsAt = some r) : Cn l E yX12_endsPiece cX12_endsPiece 1 none 2 0 0 [.ref o_t] (W_X12_endsPiece E o_t a_t t_toldDoors t_barredDoors t_taped t_place0 t_length0 t_fault t_number0 t_open t_codeMany t_waiting t_saidMany t_clauses t_newMany t_rounds t_pinFrom t_pinTimes t_lines t_wasTold t_wasBarred t_goesNow t_jamsNow t_queued t_isKept t_said t_waitsAt) (fun w => w = (W_X12_endsPiece E o_t a_t t_toldDoors t_barredDoors t_taped t_place0 t_length0 t_fault t_number0 r.1 r.2.1 r.2.2.1 t_saidMany t_clauses t_newMany t_rounds t_pinFrom t_pinTimes t_lines t_wasTold t_wasBarred t_goesNow t_jamsNow t_queued t_isKept r.2.2.2 t_waitsAt)) none := by
  refine Cn.ofV (by decide +kernel) (Nat.le_of_ble_eq_true rfl) (fun X hX hR C hret => ?_)
  subst hX
  show Gx X E 0 0 (W_X12_endsPiece E o_t a_t t_toldDoors t_barredDoors t_taped t_place0 t_length0 t_fault t_number0 t_open t_codeMany t_waiting t_saidMany t_clauses t_newMany t_rounds t_pinFrom t_pinTimes t_lines t_wasTold t_wasBarred t_goesNow t_jamsNow t_queued t_isKept t_said t_waitsAt) 0 [(0, .ref o_t)] []
  unfold f_X12_endsPiece at h
  refine kL_X12_endsPiece_0 C o_t a_t t_toldDoors t_barredDoors t_taped t_place0 t_length0 t_fault t_number0 t_saidMany t_clauses t_newMany t_rounds t_pinFrom t_pinTimes t_lines t_wasTold t_wasBarred t_goesNow t_jamsNow t_queued t_isKept t_waitsAt hret  _ _ h
abbrev W_X12_feed (E : GE) (O_t : Nat) (a_t : Nat → Nat) (t_toldDoors : Int32) (t_barredDoors : Int32) (t_taped : Int32) (t_place0 : Int32) (t_length0 : Int32) (t_fault : Int32) (t_number0 : Int32) (t_open : Int32) (t_codeMany : Int32) (t_waiting : Int32) (t_saidMany : Int32) (t_clauses : Int32) (t_newMany : Int32) (t_rounds : Int32) (t_pinFrom : Int32) (t_pinTimes : Int32) (t_lines : Int32) (t_wasTold : Int32) (t_wasBarred : Int32) (t_goesNow : Int32) (t_jamsNow : Int32) (t_queued : Int32) (t_isKept : Int32) (t_tape : (Nat → Int32)) : va_W := [(O_t, ob_X12 a_t t_toldDoors t_barredDoors t_taped t_place0 t_length0 t_fault t_number0 t_open t_codeMany t_waiting t_saidMany t_clauses t_newMany t_rounds t_pinFrom t_pinTimes t_lines t_wasTold t_wasBarred t_goesNow t_jamsNow t_queued t_isKept), (a_t 13, .inl (E.2.2.1, 260, .inl t_tape))]
def f_X12_feed (t_taped : Int32) (t_tape : (Nat → Int32)) (x1 : Int32) (x2 : Int32) (x3 : Int32) (x4 : Int32) (x5 : Int32) : Option (Int32 × Int32 × (Nat → Int32)) := if (t_taped + (20 : Int32)) ≤ (260 : Int32) then ((f_X12_types t_taped t_tape x1).bind fun u1 => (f_X12_types u1.1 u1.2 x2).bind fun u2 => (f_X12_types u2.1 u2.2 x3).bind fun u3 => (f_X12_types u3.1 u3.2 x4).bind fun u4 => (f_X12_types u4.1 u4.2 x5).bind fun u5 => some (u5.1, u5.1, u5.2)) else some ((-1 : Int32), t_taped, t_tape)
theorem dX12_feed_0 : decode cX12_feed 0 = .ok (.aload_n 0, 1) := by decide +kernel
theorem dX12_feed_1 : decode cX12_feed 1 = .ok (.getfield 139, 3) := by decide +kernel
theorem dX12_feed_4 : decode cX12_feed 4 = .ok (.bipush 20, 2) := by decide +kernel
theorem dX12_feed_6 : decode cX12_feed 6 = .ok (.iadd, 1) := by decide +kernel
theorem dX12_feed_7 : decode cX12_feed 7 = .ok (.sipush 260, 3) := by decide +kernel
theorem dX12_feed_10 : decode cX12_feed 10 = .ok (.if_icmp .le 5, 3) := by decide +kernel
theorem dX12_feed_13 : decode cX12_feed 13 = .ok (.iconst (-1), 1) := by decide +kernel
theorem dX12_feed_14 : decode cX12_feed 14 = .ok (.ireturn, 1) := by decide +kernel
theorem dX12_feed_15 : decode cX12_feed 15 = .ok (.aload_n 0, 1) := by decide +kernel
theorem dX12_feed_16 : decode cX12_feed 16 = .ok (.iload_n 1, 1) := by decide +kernel
theorem dX12_feed_17 : decode cX12_feed 17 = .ok (.invokevirtual 142, 3) := by decide +kernel
theorem dX12_feed_20 : decode cX12_feed 20 = .ok (.aload_n 0, 1) := by decide +kernel
theorem dX12_feed_21 : decode cX12_feed 21 = .ok (.iload_n 2, 1) := by decide +kernel
theorem dX12_feed_22 : decode cX12_feed 22 = .ok (.invokevirtual 142, 3) := by decide +kernel
theorem dX12_feed_25 : decode cX12_feed 25 = .ok (.aload_n 0, 1) := by decide +kernel
theorem dX12_feed_26 : decode cX12_feed 26 = .ok (.iload_n 3, 1) := by decide +kernel
theorem dX12_feed_27 : decode cX12_feed 27 = .ok (.invokevirtual 142, 3) := by decide +kernel
theorem dX12_feed_30 : decode cX12_feed 30 = .ok (.aload_n 0, 1) := by decide +kernel
theorem dX12_feed_31 : decode cX12_feed 31 = .ok (.iload 4, 2) := by decide +kernel
theorem dX12_feed_33 : decode cX12_feed 33 = .ok (.invokevirtual 142, 3) := by decide +kernel
theorem dX12_feed_36 : decode cX12_feed 36 = .ok (.aload_n 0, 1) := by decide +kernel
theorem dX12_feed_37 : decode cX12_feed 37 = .ok (.iload 5, 2) := by decide +kernel
theorem dX12_feed_39 : decode cX12_feed 39 = .ok (.invokevirtual 142, 3) := by decide +kernel
theorem dX12_feed_42 : decode cX12_feed 42 = .ok (.aload_n 0, 1) := by decide +kernel
theorem dX12_feed_43 : decode cX12_feed 43 = .ok (.getfield 139, 3) := by decide +kernel
theorem dX12_feed_46 : decode cX12_feed 46 = .ok (.ireturn, 1) := by decide +kernel
set_option maxHeartbeats 4000000 in
set_option maxRecDepth 100000 in
theorem c_X12_feed (l : Launch) (E : GE) (o_t : Nat) (a_t : Nat → Nat) (t_toldDoors : Int32) (t_barredDoors : Int32) (t_taped : Int32) (t_place0 : Int32) (t_length0 : Int32) (t_fault : Int32) (t_number0 : Int32) (t_open : Int32) (t_codeMany : Int32) (t_waiting : Int32) (t_saidMany : Int32) (t_clauses : Int32) (t_newMany : Int32) (t_rounds : Int32) (t_pinFrom : Int32) (t_pinTimes : Int32) (t_lines : Int32) (t_wasTold : Int32) (t_wasBarred : Int32) (t_goesNow : Int32) (t_jamsNow : Int32) (t_queued : Int32) (t_isKept : Int32) (t_tape : (Nat → Int32)) (x1 : Int32) (x2 : Int32) (x3 : Int32) (x4 : Int32) (x5 : Int32) (r : Int32 × Int32 × (Nat → Int32)) (h : f_X12_feed t_taped t_tape x1 x2 x3 x4 x5 = some r) : Cn l E yX12_feed cX12_feed 6 (some .int) 2 0 0 [.ref o_t, .int x1, .int x2, .int x3, .int x4, .int x5] (W_X12_feed E o_t a_t t_toldDoors t_barredDoors t_taped t_place0 t_length0 t_fault t_number0 t_open t_codeMany t_waiting t_saidMany t_clauses t_newMany t_rounds t_pinFrom t_pinTimes t_lines t_wasTold t_wasBarred t_goesNow t_jamsNow t_queued t_isKept t_tape) (fun w => w = (W_X12_feed E o_t a_t t_toldDoors t_barredDoors r.2.1 t_place0 t_length0 t_fault t_number0 t_open t_codeMany t_waiting t_saidMany t_clauses t_newMany t_rounds t_pinFrom t_pinTimes t_lines t_wasTold t_wasBarred t_goesNow t_jamsNow t_queued t_isKept r.2.2)) (some (.int r.1)) := by
  refine Cn.ofI (by decide +kernel) (Nat.le_of_ble_eq_true rfl) (fun X hX hR C hret => ?_)
  subst hX
  show Gx X E 0 0 (W_X12_feed E o_t a_t t_toldDoors t_barredDoors t_taped t_place0 t_length0 t_fault t_number0 t_open t_codeMany t_waiting t_saidMany t_clauses t_newMany t_rounds t_pinFrom t_pinTimes t_lines t_wasTold t_wasBarred t_goesNow t_jamsNow t_queued t_isKept t_tape) 0 [(0, .ref o_t), (1, .int x1), (2, .int x2), (3, .int x3), (4, .int x4), (5, .int x5)] []
  unfold f_X12_feed at h
  refine g_aload_n (pc := 0) C dX12_feed_0 rfl 0 rfl ?_
  refine g_get (pc := 1) C fl_X12_139 dX12_feed_1 0 rfl rfl ?_
  refine g_bipush (pc := 4) (v := 20) C dX12_feed_4 (by decide) ?_
  refine g_iadd (pc := 6) C dX12_feed_6 ?_
  refine g_sipush (pc := 7) (v := 260) C dX12_feed_7 (by decide) ?_
  refine g_icmp_le (pc := 10) (tgt := 15) C dX12_feed_10 (by decide) h (fun h => ?_) (fun h => ?_)
  · refine g_aload_n (pc := 15) C dX12_feed_15 rfl 0 rfl ?_
    refine g_iload_n (pc := 16) C dX12_feed_16 rfl 1 rfl ?_
    obtain ⟨u1, hu1, h⟩ := bs h
    refine g_callV (pc := 17) (st := []) (st1 := []) (ws' := (W_X12_feed E o_t a_t t_toldDoors t_barredDoors u1.1 t_place0 t_length0 t_fault t_number0 t_open t_codeMany t_waiting t_saidMany t_clauses t_newMany t_rounds t_pinFrom t_pinTimes t_lines t_wasTold t_wasBarred t_goesNow t_jamsNow t_queued t_isKept u1.2)) C mv_X12_types mi_X12_types ml_X12_142 (c_X12_types X.2.1 E o_t a_t t_toldDoors t_barredDoors t_taped t_place0 t_length0 t_fault t_number0 t_open t_codeMany t_waiting t_saidMany t_clauses t_newMany t_rounds t_pinFrom t_pinTimes t_lines t_wasTold t_wasBarred t_goesNow t_jamsNow t_queued t_isKept t_tape x1 u1 hu1) dX12_feed_17 (by decide) rfl (Nat.le_of_ble_eq_true rfl) 0 11 rfl rfl [0, 1] rfl (by decide) rfl rfl rfl rfl ?_
    refine g_aload_n (pc := 20) C dX12_feed_20 rfl 0 rfl ?_
    refine g_iload_n (pc := 21) C dX12_feed_21 rfl 2 rfl ?_
    obtain ⟨u2, hu2, h⟩ := bs h
    refine g_callV (pc := 22) (st := []) (st1 := []) (ws' := (W_X12_feed E o_t a_t t_toldDoors t_barredDoors u2.1 t_place0 t_length0 t_fault t_number0 t_open t_codeMany t_waiting t_saidMany t_clauses t_newMany t_rounds t_pinFrom t_pinTimes t_lines t_wasTold t_wasBarred t_goesNow t_jamsNow t_queued t_isKept u2.2)) C mv_X12_types mi_X12_types ml_X12_142 (c_X12_types X.2.1 E o_t a_t t_toldDoors t_barredDoors u1.1 t_place0 t_length0 t_fault t_number0 t_open t_codeMany t_waiting t_saidMany t_clauses t_newMany t_rounds t_pinFrom t_pinTimes t_lines t_wasTold t_wasBarred t_goesNow t_jamsNow t_queued t_isKept u1.2 x2 u2 hu2) dX12_feed_22 (by decide) rfl (Nat.le_of_ble_eq_true rfl) 0 11 rfl rfl [0, 1] rfl (by decide) rfl rfl rfl rfl ?_
    refine g_aload_n (pc := 25) C dX12_feed_25 rfl 0 rfl ?_
    refine g_iload_n (pc := 26) C dX12_feed_26 rfl 3 rfl ?_
    obtain ⟨u3, hu3, h⟩ := bs h
    refine g_callV (pc := 27) (st := []) (st1 := []) (ws' := (W_X12_feed E o_t a_t t_toldDoors t_barredDoors u3.1 t_place0 t_length0 t_fault t_number0 t_open t_codeMany t_waiting t_saidMany t_clauses t_newMany t_rounds t_pinFrom t_pinTimes t_lines t_wasTold t_wasBarred t_goesNow t_jamsNow t_queued t_isKept u3.2)) C mv_X12_types mi_X12_types ml_X12_142 (c_X12_types X.2.1 E o_t a_t t_toldDoors t_barredDoors u2.1 t_place0 t_length0 t_fault t_number0 t_open t_codeMany t_waiting t_saidMany t_clauses t_newMany t_rounds t_pinFrom t_pinTimes t_lines t_wasTold t_wasBarred t_goesNow t_jamsNow t_queued t_isKept u2.2 x3 u3 hu3) dX12_feed_27 (by decide) rfl (Nat.le_of_ble_eq_true rfl) 0 11 rfl rfl [0, 1] rfl (by decide) rfl rfl rfl rfl ?_
    refine g_aload_n (pc := 30) C dX12_feed_30 rfl 0 rfl ?_
    refine g_iload (pc := 31) C dX12_feed_31 4 rfl ?_
    obtain ⟨u4, hu4, h⟩ := bs h
    refine g_callV (pc := 33) (st := []) (st1 := []) (ws' := (W_X12_feed E o_t a_t t_toldDoors t_barredDoors u4.1 t_place0 t_length0 t_fault t_number0 t_open t_codeMany t_waiting t_saidMany t_clauses t_newMany t_rounds t_pinFrom t_pinTimes t_lines t_wasTold t_wasBarred t_goesNow t_jamsNow t_queued t_isKept u4.2)) C mv_X12_types mi_X12_types ml_X12_142 (c_X12_types X.2.1 E o_t a_t t_toldDoors t_barredDoors u3.1 t_place0 t_length0 t_fault t_number0 t_open t_codeMany t_waiting t_saidMany t_clauses t_newMany t_rounds t_pinFrom t_pinTimes t_lines t_wasTold t_wasBarred t_goesNow t_jamsNow t_queued t_isKept u3.2 x4 u4 hu4) dX12_feed_33 (by decide) rfl (Nat.le_of_ble_eq_true rfl) 0 11 rfl rfl [0, 1] rfl (by decide) rfl rfl rfl rfl ?_
    refine g_aload_n (pc := 36) C dX12_feed_36 rfl 0 rfl ?_
    refine g_iload (pc := 37) C dX12_feed_37 5 rfl ?_
    obtain ⟨u5, hu5, h⟩ := bs h
    refine g_callV (pc := 39) (st := []) (st1 := []) (ws' := (W_X12_feed E o_t a_t t_toldDoors t_barredDoors u5.1 t_place0 t_length0 t_fault t_number0 t_open t_codeMany t_waiting t_saidMany t_clauses t_newMany t_rounds t_pinFrom t_pinTimes t_lines t_wasTold t_wasBarred t_goesNow t_jamsNow t_queued t_isKept u5.2)) C mv_X12_types mi_X12_types ml_X12_142 (c_X12_types X.2.1 E o_t a_t t_toldDoors t_barredDoors u4.1 t_place0 t_length0 t_fault t_number0 t_open t_codeMany t_waiting t_saidMany t_clauses t_newMany t_rounds t_pinFrom t_pinTimes t_lines t_wasTold t_wasBarred t_goesNow t_jamsNow t_queued t_isKept u4.2 x5 u5 hu5) dX12_feed_39 (by decide) rfl (Nat.le_of_ble_eq_true rfl) 0 11 rfl rfl [0, 1] rfl (by decide) rfl rfl rfl rfl ?_
    refine g_aload_n (pc := 42) C dX12_feed_42 rfl 0 rfl ?_
    refine g_get (pc := 43) C fl_X12_139 dX12_feed_43 0 rfl rfl ?_
    cases h
    exact hret _ _ _ dX12_feed_46 rfl rfl
  · refine g_iconst (pc := 13) (v := -1) C dX12_feed_13 (by decide) ?_
    cases h
    exact hret _ _ _ dX12_feed_14 rfl rfl
abbrev W_X12_feels (E : GE) (O_t : Nat) (a_t : Nat → Nat) (t_toldDoors : Int32) (t_barredDoors : Int32) (t_taped : Int32) (t_place0 : Int32) (t_length0 : Int32) (t_fault : Int32) (t_number0 : Int32) (t_open : Int32) (t_codeMany : Int32) (t_waiting : Int32) (t_saidMany : Int32) (t_clauses : Int32) (t_newMany : Int32) (t_rounds : Int32) (t_pinFrom : Int32) (t_pinTimes : Int32) (t_lines : Int32) (t_wasTold : Int32) (t_wasBarred : Int32) (t_goesNow : Int32) (t_jamsNow : Int32) (t_queued : Int32) (t_isKept : Int32) (t_now : (Nat → Int32)) (t_facts : (Nat → Int32)) : va_W := [(O_t, ob_X12 a_t t_toldDoors t_barredDoors t_taped t_place0 t_length0 t_fault t_number0 t_open t_codeMany t_waiting t_saidMany t_clauses t_newMany t_rounds t_pinFrom t_pinTimes t_lines t_wasTold t_wasBarred t_goesNow t_jamsNow t_queued t_isKept), (a_t 0, .inl (E.2.1, 166, .inl t_now)), (a_t 36, .inl (E.2.1, 10, .inl t_facts))]
def L_X12_feels_2 (t_now : (Nat → Int32)) (x1 : Int32) (k0 : (Nat → Int32) → Option ((Nat → Int32))) : Nat → Int32 × (Nat → Int32) → Option ((Nat → Int32)) := lp fun go s => if (10 : Int32) ≤ s.1 then (k0 s.2) else wr s.2 10 s.1 (0 : Int32) fun g1 => nm (s.1 + (1 : Int32)) fun v2 => go (v2, g1)
def f_X12_feels (t_now : (Nat → Int32)) (t_facts : (Nat → Int32)) (x1 : Int32) : Option ((Nat → Int32)) := L_X12_feels_2 t_now x1 (fun s3 => wr s3 10 (0 : Int32) x1 fun g4 => rd t_now 166 ((34 : Int32) + x1) fun v5 => wr g4 10 (1 : Int32) v5 fun g6 => (f_X12_pinsOf t_now x1).bind fun u7 => wr g6 10 (7 : Int32) u7 fun g8 => rd t_now 166 (164 : Int32) fun v9 => rm v9 (100 : Int32) fun v10 => wr g8 10 (9 : Int32) v10 fun g11 => some g11) fu ((0 : Int32), t_facts)
theorem dX12_feels_0 : decode cX12_feels 0 = .ok (.iconst 0, 1) := by decide +kernel
theorem dX12_feels_1 : decode cX12_feels 1 = .ok (.istore_n 2, 1) := by decide +kernel
theorem dX12_feels_2 : decode cX12_feels 2 = .ok (.iload_n 2, 1) := by decide +kernel
theorem dX12_feels_3 : decode cX12_feels 3 = .ok (.bipush 10, 2) := by decide +kernel
theorem dX12_feels_5 : decode cX12_feels 5 = .ok (.if_icmp .ge 16, 3) := by decide +kernel
theorem dX12_feels_8 : decode cX12_feels 8 = .ok (.aload_n 0, 1) := by decide +kernel
theorem dX12_feels_9 : decode cX12_feels 9 = .ok (.getfield 83, 3) := by decide +kernel
theorem dX12_feels_12 : decode cX12_feels 12 = .ok (.iload_n 2, 1) := by decide +kernel
theorem dX12_feels_13 : decode cX12_feels 13 = .ok (.iconst 0, 1) := by decide +kernel
theorem dX12_feels_14 : decode cX12_feels 14 = .ok (.iastore, 1) := by decide +kernel
theorem dX12_feels_15 : decode cX12_feels 15 = .ok (.iinc 2 1, 3) := by decide +kernel
theorem dX12_feels_18 : decode cX12_feels 18 = .ok (.goto (-16), 3) := by decide +kernel
theorem dX12_feels_21 : decode cX12_feels 21 = .ok (.aload_n 0, 1) := by decide +kernel
theorem dX12_feels_22 : decode cX12_feels 22 = .ok (.getfield 83, 3) := by decide +kernel
theorem dX12_feels_25 : decode cX12_feels 25 = .ok (.iconst 0, 1) := by decide +kernel
theorem dX12_feels_26 : decode cX12_feels 26 = .ok (.iload_n 1, 1) := by decide +kernel
theorem dX12_feels_27 : decode cX12_feels 27 = .ok (.iastore, 1) := by decide +kernel
theorem dX12_feels_28 : decode cX12_feels 28 = .ok (.aload_n 0, 1) := by decide +kernel
theorem dX12_feels_29 : decode cX12_feels 29 = .ok (.getfield 83, 3) := by decide +kernel
theorem dX12_feels_32 : decode cX12_feels 32 = .ok (.iconst 1, 1) := by decide +kernel
theorem dX12_feels_33 : decode cX12_feels 33 = .ok (.aload_n 0, 1) := by decide +kernel
theorem dX12_feels_34 : decode cX12_feels 34 = .ok (.getfield 7, 3) := by decide +kernel
theorem dX12_feels_37 : decode cX12_feels 37 = .ok (.bipush 34, 2) := by decide +kernel
theorem dX12_feels_39 : decode cX12_feels 39 = .ok (.iload_n 1, 1) := by decide +kernel
theorem dX12_feels_40 : decode cX12_feels 40 = .ok (.iadd, 1) := by decide +kernel
theorem dX12_feels_41 : decode cX12_feels 41 = .ok (.iaload, 1) := by decide +kernel
theorem dX12_feels_42 : decode cX12_feels 42 = .ok (.iastore, 1) := by decide +kernel
theorem dX12_feels_43 : decode cX12_feels 43 = .ok (.aload_n 0, 1) := by decide +kernel
theorem dX12_feels_44 : decode cX12_feels 44 = .ok (.getfield 83, 3) := by decide +kernel
theorem dX12_feels_47 : decode cX12_feels 47 = .ok (.bipush 7, 2) := by decide +kernel
theorem dX12_feels_49 : decode cX12_feels 49 = .ok (.aload_n 0, 1) := by decide +kernel
theorem dX12_feels_50 : decode cX12_feels 50 = .ok (.iload_n 1, 1) := by decide +kernel
theorem dX12_feels_51 : decode cX12_feels 51 = .ok (.invokevirtual 311, 3) := by decide +kernel
theorem dX12_feels_54 : decode cX12_feels 54 = .ok (.iastore, 1) := by decide +kernel
theorem dX12_feels_55 : decode cX12_feels 55 = .ok (.aload_n 0, 1) := by decide +kernel
theorem dX12_feels_56 : decode cX12_feels 56 = .ok (.getfield 83, 3) := by decide +kernel
theorem dX12_feels_59 : decode cX12_feels 59 = .ok (.bipush 9, 2) := by decide +kernel
theorem dX12_feels_61 : decode cX12_feels 61 = .ok (.aload_n 0, 1) := by decide +kernel
theorem dX12_feels_62 : decode cX12_feels 62 = .ok (.getfield 7, 3) := by decide +kernel
theorem dX12_feels_65 : decode cX12_feels 65 = .ok (.sipush 164, 3) := by decide +kernel
theorem dX12_feels_68 : decode cX12_feels 68 = .ok (.iaload, 1) := by decide +kernel
theorem dX12_feels_69 : decode cX12_feels 69 = .ok (.bipush 100, 2) := by decide +kernel
theorem dX12_feels_71 : decode cX12_feels 71 = .ok (.irem, 1) := by decide +kernel
theorem dX12_feels_72 : decode cX12_feels 72 = .ok (.iastore, 1) := by decide +kernel
theorem dX12_feels_73 : decode cX12_feels 73 = .ok (.return_, 1) := by decide +kernel
set_option maxHeartbeats 4000000 in
set_option maxRecDepth 100000 in
theorem kL_X12_feels_2 {X : GC} {E : GE} (C : Cx X E cX12_feels RX12 2 3) (o_t : Nat) (a_t : Nat → Nat) (t_toldDoors : Int32) (t_barredDoors : Int32) (t_taped : Int32) (t_place0 : Int32) (t_length0 : Int32) (t_fault : Int32) (t_number0 : Int32) (t_open : Int32) (t_codeMany : Int32) (t_waiting : Int32) (t_saidMany : Int32) (t_clauses : Int32) (t_newMany : Int32) (t_rounds : Int32) (t_pinFrom : Int32) (t_pinTimes : Int32) (t_lines : Int32) (t_wasTold : Int32) (t_wasBarred : Int32) (t_goesNow : Int32) (t_jamsNow : Int32) (t_queued : Int32) (t_isKept : Int32) (t_now : (Nat → Int32)) (x1 : Int32) (k0 : (Nat → Int32) → Option ((Nat → Int32))) {r : (Nat → Int32)} (hret : RtV X E cX12_feels 0 0 (fun w => w = (W_X12_feels E o_t a_t t_toldDoors t_barredDoors t_taped t_place0 t_length0 t_fault t_number0 t_open t_codeMany t_waiting t_saidMany t_clauses t_newMany t_rounds t_pinFrom t_pinTimes t_lines t_wasTold t_wasBarred t_goesNow t_jamsNow t_queued t_isKept t_now r))) (hk0 : ∀ u, k0 u = some r → Gx X E 0 0 (W_X12_feels E o_t a_t t_toldDoors t_barredDoors t_taped t_place0 t_length0 t_fault t_number0 t_open t_codeMany t_waiting t_saidMany t_clauses t_newMany t_rounds t_pinFrom t_pinTimes t_lines t_wasTold t_wasBarred t_goesNow t_jamsNow t_queued t_isKept t_now u) 21 [(0, .ref o_t), (1, .int x1)] []) : ∀ (n : Nat) (s : Int32 × (Nat → Int32)), L_X12_feels_2 t_now x1 k0 n s = some r → Gx X E 0 0 (W_X12_feels E o_t a_t t_toldDoors t_barredDoors t_taped t_place0 t_length0 t_fault t_number0 t_open t_codeMany t_waiting t_saidMany t_clauses t_newMany t_rounds t_pinFrom t_pinTimes t_lines t_wasTold t_wasBarred t_goesNow t_jamsNow t_queued t_isKept t_now s.2) 2 [(0, .ref o_t), (1, .int x1), (2, .int s.1)] [] := by
  unfold L_X12_feels_2
  refine lp_ind _ (fun go ih s h => ?_)
  refine g_iload_n (pc := 2) C dX12_feels_2 rfl 2 rfl ?_
  refine g_bipush (pc := 3) (v := 10) C dX12_feels_3 (by decide) ?_
  refine g_icmp_ge (pc := 5) (tgt := 21) C dX12_feels_5 (by decide) h (fun h => ?_) (fun h => ?_)
  · refine g_sub [0, 1] rfl ?_
    exact hk0 _ h
  · refine g_aload_n (pc := 8) C dX12_feels_8 rfl 0 rfl ?_
    refine g_get (pc := 9) C fl_X12_83 dX12_feels_9 0 rfl rfl ?_
    refine g_iload_n (pc := 12) C dX12_feels_12 rfl 2 rfl ?_
    refine g_iconst (pc := 13) (v := 0) C dX12_feels_13 (by decide) ?_
    refine g_iast (pc := 14) C dX12_feels_14 2 rfl h (fun g1 h => ?_)
    refine g_ws (ws' := (W_X12_feels E o_t a_t t_toldDoors t_barredDoors t_taped t_place0 t_length0 t_fault t_number0 t_open t_codeMany t_waiting t_saidMany t_clauses t_newMany t_rounds t_pinFrom t_pinTimes t_lines t_wasTold t_wasBarred t_goesNow t_jamsNow t_queued t_isKept t_now g1)) rfl ?_
    refine g_iincn (pc := 15) (j := 2) (d := 1) (lv' := fun v2 => [(2, .int v2), (0, .ref o_t), (1, .int x1)]) C dX12_feels_15 rfl (by decide) (by decide) (fun _ => rfl) h (fun v2 h => ?_)
    refine g_goto (pc := 18) (tgt := 2) C dX12_feels_18 (by decide) ?_
    refine g_sub [1, 2, 0] rfl ?_
    exact ih _ h
set_option maxHeartbeats 4000000 in
set_option maxRecDepth 100000 in
theorem c_X12_feels (l : Launch) (E : GE) (o_t : Nat) (a_t : Nat → Nat) (t_toldDoors : Int32) (t_barredDoors : Int32) (t_taped : Int32) (t_place0 : Int32) (t_length0 : Int32) (t_fault : Int32) (t_number0 : Int32) (t_open : Int32) (t_codeMany : Int32) (t_waiting : Int32) (t_saidMany : Int32) (t_clauses : Int32) (t_newMany : Int32) (t_rounds : Int32) (t_pinFrom : Int32) (t_pinTimes : Int32) (t_lines : Int32) (t_wasTold : Int32) (t_wasBarred : Int32) (t_goesNow : Int32) (t_jamsNow : Int32) (t_queued : Int32) (t_isKept : Int32) (t_now : (Nat → Int32)) (t_facts : (Nat → Int32)) (x1 : Int32) (r : (Nat → Int32)) (h : f_X12_feels t_now t_facts x1 = some r) : Cn l E yX12_feels cX12_feels 3 none 2 0 0 [.ref o_t, .int x1] (W_X12_feels E o_t a_t t_toldDoors t_barredDoors t_taped t_place0 t_length0 t_fault t_number0 t_open t_codeMany t_waiting t_saidMany t_clauses t_newMany t_rounds t_pinFrom t_pinTimes t_lines t_wasTold t_wasBarred t_goesNow t_jamsNow t_queued t_isKept t_now t_facts) (fun w => w = (W_X12_feels E o_t a_t t_toldDoors t_barredDoors t_taped t_place0 t_length0 t_fault t_number0 t_open t_codeMany t_waiting t_saidMany t_clauses t_newMany t_rounds t_pinFrom t_pinTimes t_lines t_wasTold t_wasBarred t_goesNow t_jamsNow t_queued t_isKept t_now r)) none := by
  refine Cn.ofV (by decide +kernel) (Nat.le_of_ble_eq_true rfl) (fun X hX hR C hret => ?_)
  subst hX
  show Gx X E 0 0 (W_X12_feels E o_t a_t t_toldDoors t_barredDoors t_taped t_place0 t_length0 t_fault t_number0 t_open t_codeMany t_waiting t_saidMany t_clauses t_newMany t_rounds t_pinFrom t_pinTimes t_lines t_wasTold t_wasBarred t_goesNow t_jamsNow t_queued t_isKept t_now t_facts) 0 [(0, .ref o_t), (1, .int x1)] []
  unfold f_X12_feels at h
  refine g_iconst (pc := 0) (v := 0) C dX12_feels_0 (by decide) ?_
  refine g_istore_n (pc := 1) (lv' := [(2, .int (0 : Int32)), (0, .ref o_t), (1, .int x1)]) C dX12_feels_1 rfl (by decide) rfl ?_
  refine g_sub [1, 2, 0] rfl ?_
  refine kL_X12_feels_2 C o_t a_t t_toldDoors t_barredDoors t_taped t_place0 t_length0 t_fault t_number0 t_open t_codeMany t_waiting t_saidMany t_clauses t_newMany t_rounds t_pinFrom t_pinTimes t_lines t_wasTold t_wasBarred t_goesNow t_jamsNow t_queued t_isKept t_now x1 _ hret (fun s3 h => ?_) _ _ h
  refine g_aload_n (pc := 21) C dX12_feels_21 rfl 0 rfl ?_
  refine g_get (pc := 22) C fl_X12_83 dX12_feels_22 0 rfl rfl ?_
  refine g_iconst (pc := 25) (v := 0) C dX12_feels_25 (by decide) ?_
  refine g_iload_n (pc := 26) C dX12_feels_26 rfl 1 rfl ?_
  refine g_iast (pc := 27) C dX12_feels_27 2 rfl h (fun g4 h => ?_)
  refine g_ws (ws' := (W_X12_feels E o_t a_t t_toldDoors t_barredDoors t_taped t_place0 t_length0 t_fault t_number0 t_open t_codeMany t_waiting t_saidMany t_clauses t_newMany t_rounds t_pinFrom t_pinTimes t_lines t_wasTold t_wasBarred t_goesNow t_jamsNow t_queued t_isKept t_now g4)) rfl ?_
  refine g_aload_n (pc := 28) C dX12_feels_28 rfl 0 rfl ?_
  refine g_get (pc := 29) C fl_X12_83 dX12_feels_29 0 rfl rfl ?_
  refine g_iconst (pc := 32) (v := 1) C dX12_feels_32 (by decide) ?_
  refine g_aload_n (pc := 33) C dX12_feels_33 rfl 0 rfl ?_
  refine g_get (pc := 34) C fl_X12_7 dX12_feels_34 0 rfl rfl ?_
  refine g_bipush (pc := 37) (v := 34) C dX12_feels_37 (by decide) ?_
  refine g_iload_n (pc := 39) C dX12_feels_39 rfl 1 rfl ?_
  refine g_iadd (pc := 40) C dX12_feels_40 ?_
  refine g_iald (pc := 41) C dX12_feels_41 1 rfl h (fun v5 h => ?_)
  refine g_iast (pc := 42) C dX12_feels_42 2 rfl h (fun g6 h => ?_)
  refine g_ws (ws' := (W_X12_feels E o_t a_t t_toldDoors t_barredDoors t_taped t_place0 t_length0 t_fault t_number0 t_open t_codeMany t_waiting t_saidMany t_clauses t_newMany t_rounds t_pinFrom t_pinTimes t_lines t_wasTold t_wasBarred t_goesNow t_jamsNow t_queued t_isKept t_now g6)) rfl ?_
  refine g_aload_n (pc := 43) C dX12_feels_43 rfl 0 rfl ?_
  refine g_get (pc := 44) C fl_X12_83 dX12_feels_44 0 rfl rfl ?_
  refine g_bipush (pc := 47) (v := 7) C dX12_feels_47 (by decide) ?_
  refine g_aload_n (pc := 49) C dX12_feels_49 rfl 0 rfl ?_
  refine g_iload_n (pc := 50) C dX12_feels_50 rfl 1 rfl ?_
  obtain ⟨u7, hu7, h⟩ := bs h
  refine g_callV (pc := 51) (st := [.int (7 : Int32), .ref (a_t 36)]) (st1 := [.int u7, .int (7 : Int32), .ref (a_t 36)]) (ws' := (W_X12_feels E o_t a_t t_toldDoors t_barredDoors t_taped t_place0 t_length0 t_fault t_number0 t_open t_codeMany t_waiting t_saidMany t_clauses t_newMany t_rounds t_pinFrom t_pinTimes t_lines t_wasTold t_wasBarred t_goesNow t_jamsNow t_queued t_isKept t_now g6)) C mv_X12_pinsOf mi_X12_pinsOf ml_X12_311 (c_X12_pinsOf X.2.1 E o_t a_t t_toldDoors t_barredDoors t_taped t_place0 t_length0 t_fault t_number0 t_open t_codeMany t_waiting t_saidMany t_clauses t_newMany t_rounds t_pinFrom t_pinTimes t_lines t_wasTold t_wasBarred t_goesNow t_jamsNow t_queued t_isKept t_now x1 u7 hu7) dX12_feels_51 (by decide) rfl (Nat.le_of_ble_eq_true rfl) 0 11 rfl rfl [0, 1] rfl (by decide) rfl rfl rfl rfl ?_
  refine g_iast (pc := 54) C dX12_feels_54 2 rfl h (fun g8 h => ?_)
  refine g_ws (ws' := (W_X12_feels E o_t a_t t_toldDoors t_barredDoors t_taped t_place0 t_length0 t_fault t_number0 t_open t_codeMany t_waiting t_saidMany t_clauses t_newMany t_rounds t_pinFrom t_pinTimes t_lines t_wasTold t_wasBarred t_goesNow t_jamsNow t_queued t_isKept t_now g8)) rfl ?_
  refine g_aload_n (pc := 55) C dX12_feels_55 rfl 0 rfl ?_
  refine g_get (pc := 56) C fl_X12_83 dX12_feels_56 0 rfl rfl ?_
  refine g_bipush (pc := 59) (v := 9) C dX12_feels_59 (by decide) ?_
  refine g_aload_n (pc := 61) C dX12_feels_61 rfl 0 rfl ?_
  refine g_get (pc := 62) C fl_X12_7 dX12_feels_62 0 rfl rfl ?_
  refine g_sipush (pc := 65) (v := 164) C dX12_feels_65 (by decide) ?_
  refine g_iald (pc := 68) C dX12_feels_68 1 rfl h (fun v9 h => ?_)
  refine g_bipush (pc := 69) (v := 100) C dX12_feels_69 (by decide) ?_
  refine g_irem (pc := 71) C dX12_feels_71 h (fun v10 h => ?_)
  refine g_iast (pc := 72) C dX12_feels_72 2 rfl h (fun g11 h => ?_)
  refine g_ws (ws' := (W_X12_feels E o_t a_t t_toldDoors t_barredDoors t_taped t_place0 t_length0 t_fault t_number0 t_open t_codeMany t_waiting t_saidMany t_clauses t_newMany t_rounds t_pinFrom t_pinTimes t_lines t_wasTold t_wasBarred t_goesNow t_jamsNow t_queued t_isKept t_now g11)) rfl ?_
  cases h
  exact hret _ _ _ dX12_feels_73 rfl
abbrev W_X12_fitsGuess (E : GE) (O_t : Nat) (a_t : Nat → Nat) (t_toldDoors : Int32) (t_barredDoors : Int32) (t_taped : Int32) (t_place0 : Int32) (t_length0 : Int32) (t_fault : Int32) (t_number0 : Int32) (t_open : Int32) (t_codeMany : Int32) (t_waiting : Int32) (t_saidMany : Int32) (t_clauses : Int32) (t_newMany : Int32) (t_rounds : Int32) (t_pinFrom : Int32) (t_pinTimes : Int32) (t_lines : Int32) (t_wasTold : Int32) (t_wasBarred : Int32) (t_goesNow : Int32) (t_jamsNow : Int32) (t_queued : Int32) (t_isKept : Int32) (t_tape : (Nat → Int32)) : va_W := [(O_t, ob_X12 a_t t_toldDoors t_barredDoors t_taped t_place0 t_length0 t_fault t_number0 t_open t_codeMany t_waiting t_saidMany t_clauses t_newMany t_rounds t_pinFrom t_pinTimes t_lines t_wasTold t_wasBarred t_goesNow t_jamsNow t_queued t_isKept), (a_t 13, .inl (E.2.2.1, 260, .inl t_tape))]
def L_X12_fitsGuess_8 (t_tape : (Nat → Int32)) (x1 : Int32) (x2 : Int32) (x4 : Int32) (k0 : Int32 → Option (Int32)) : Nat → Int32 × Int32 → Option (Int32) := lp fun go s => if (4 : Int32) ≤ s.2 then (k0 s.1) else (f_X12_curlOf x1 s.2).bind fun u1 => (f_X12_octet t_tape (((6 : Int32) * x2) + s.2)).bind fun u2 => if u1 = u2 then (nm (s.1 + (1 : Int32)) fun v4 => nm (s.2 + (1 : Int32)) fun v5 => go (v4, v5)) else nm (s.2 + (1 : Int32)) fun v3 => go (s.1, v3)
def L_X12_fitsGuess_63 (t_tape : (Nat → Int32)) (x1 : Int32) (x2 : Int32) (x3 : Int32) (x4 : Int32) (x5 : Int32) (k0 : Int32 × Int32 → Option (Int32)) : Nat → Int32 × Int32 × Int32 → Option (Int32) := lp fun go s => if (4 : Int32) ≤ s.2.2 then (k0 (s.1, s.2.1)) else (f_X12_curlOf x1 s.2.2).bind fun u7 => jn (fun s8 : Int32 => (f_X12_octet t_tape (((6 : Int32) * x2) + s.2.2)).bind fun u9 => if u9 = x5 then (nm (s.2.1 + (1 : Int32)) fun v11 => nm (s.2.2 + (1 : Int32)) fun v12 => go (s8, v11, v12)) else nm (s.2.2 + (1 : Int32)) fun v10 => go (s8, s.2.1, v10)) fun j86 => if u7 = x5 then (nm (s.1 + (1 : Int32)) fun v13 => j86 v13) else j86 s.1
def L_X12_fitsGuess_47 (t_tape : (Nat → Int32)) (x1 : Int32) (x2 : Int32) (x3 : Int32) (k0 : Int32 → Option (Int32)) : Nat → Int32 × Int32 → Option (Int32) := lp fun go s => if (6 : Int32) ≤ s.2 then (k0 s.1) else L_X12_fitsGuess_63 t_tape x1 x2 x3 s.1 s.2 (fun s14 => (f_X12_min s14.1 s14.2).bind fun u15 => nm (s.1 + u15) fun v16 => nm (s.2 + (1 : Int32)) fun v17 => go (v16, v17)) fu ((0 : Int32), (0 : Int32), (0 : Int32))
def f_X12_fitsGuess (t_tape : (Nat → Int32)) (x1 : Int32) (x2 : Int32) : Option (Int32) := L_X12_fitsGuess_8 t_tape x1 x2 (0 : Int32) (fun s6 => L_X12_fitsGuess_47 t_tape x1 x2 s6 (fun s18 => (f_X12_octet t_tape (((6 : Int32) * x2) + (4 : Int32))).bind fun u19 => if s6 = u19 then ((f_X12_octet t_tape (((6 : Int32) * x2) + (5 : Int32))).bind fun u20 => if (s18 - s6) = u20 then (some (1 : Int32)) else some (0 : Int32)) else some (0 : Int32)) fu ((0 : Int32), (0 : Int32))) fu ((0 : Int32), (0 : Int32))
theorem dX12_fitsGuess_0 : decode cX12_fitsGuess 0 = .ok (.iconst 0, 1) := by decide +kernel
theorem dX12_fitsGuess_1 : decode cX12_fitsGuess 1 = .ok (.istore_n 3, 1) := by decide +kernel
theorem dX12_fitsGuess_2 : decode cX12_fitsGuess 2 = .ok (.iconst 0, 1) := by decide +kernel
theorem dX12_fitsGuess_3 : decode cX12_fitsGuess 3 = .ok (.istore 4, 2) := by decide +kernel
theorem dX12_fitsGuess_5 : decode cX12_fitsGuess 5 = .ok (.iconst 0, 1) := by decide +kernel
theorem dX12_fitsGuess_6 : decode cX12_fitsGuess 6 = .ok (.istore 5, 2) := by decide +kernel
theorem dX12_fitsGuess_8 : decode cX12_fitsGuess 8 = .ok (.iload 5, 2) := by decide +kernel
theorem dX12_fitsGuess_10 : decode cX12_fitsGuess 10 = .ok (.iconst 4, 1) := by decide +kernel
theorem dX12_fitsGuess_11 : decode cX12_fitsGuess 11 = .ok (.if_icmp .ge 33, 3) := by decide +kernel
theorem dX12_fitsGuess_14 : decode cX12_fitsGuess 14 = .ok (.iload_n 1, 1) := by decide +kernel
theorem dX12_fitsGuess_15 : decode cX12_fitsGuess 15 = .ok (.iload 5, 2) := by decide +kernel
theorem dX12_fitsGuess_17 : decode cX12_fitsGuess 17 = .ok (.invokestatic 396, 3) := by decide +kernel
theorem dX12_fitsGuess_20 : decode cX12_fitsGuess 20 = .ok (.aload_n 0, 1) := by decide +kernel
theorem dX12_fitsGuess_21 : decode cX12_fitsGuess 21 = .ok (.bipush 6, 2) := by decide +kernel
theorem dX12_fitsGuess_23 : decode cX12_fitsGuess 23 = .ok (.iload_n 2, 1) := by decide +kernel
theorem dX12_fitsGuess_24 : decode cX12_fitsGuess 24 = .ok (.imul, 1) := by decide +kernel
theorem dX12_fitsGuess_25 : decode cX12_fitsGuess 25 = .ok (.iload 5, 2) := by decide +kernel
theorem dX12_fitsGuess_27 : decode cX12_fitsGuess 27 = .ok (.iadd, 1) := by decide +kernel
theorem dX12_fitsGuess_28 : decode cX12_fitsGuess 28 = .ok (.invokevirtual 387, 3) := by decide +kernel
theorem dX12_fitsGuess_31 : decode cX12_fitsGuess 31 = .ok (.if_icmp .ne 7, 3) := by decide +kernel
theorem dX12_fitsGuess_34 : decode cX12_fitsGuess 34 = .ok (.iload_n 3, 1) := by decide +kernel
theorem dX12_fitsGuess_35 : decode cX12_fitsGuess 35 = .ok (.iconst 1, 1) := by decide +kernel
theorem dX12_fitsGuess_36 : decode cX12_fitsGuess 36 = .ok (.iadd, 1) := by decide +kernel
theorem dX12_fitsGuess_37 : decode cX12_fitsGuess 37 = .ok (.istore_n 3, 1) := by decide +kernel
theorem dX12_fitsGuess_38 : decode cX12_fitsGuess 38 = .ok (.iinc 5 1, 3) := by decide +kernel
theorem dX12_fitsGuess_41 : decode cX12_fitsGuess 41 = .ok (.goto (-33), 3) := by decide +kernel
theorem dX12_fitsGuess_44 : decode cX12_fitsGuess 44 = .ok (.iconst 0, 1) := by decide +kernel
theorem dX12_fitsGuess_45 : decode cX12_fitsGuess 45 = .ok (.istore 5, 2) := by decide +kernel
theorem dX12_fitsGuess_47 : decode cX12_fitsGuess 47 = .ok (.iload 5, 2) := by decide +kernel
theorem dX12_fitsGuess_49 : decode cX12_fitsGuess 49 = .ok (.bipush 6, 2) := by decide +kernel
theorem dX12_fitsGuess_51 : decode cX12_fitsGuess 51 = .ok (.if_icmp .ge 81, 3) := by decide +kernel
theorem dX12_fitsGuess_54 : decode cX12_fitsGuess 54 = .ok (.iconst 0, 1) := by decide +kernel
theorem dX12_fitsGuess_55 : decode cX12_fitsGuess 55 = .ok (.istore 6, 2) := by decide +kernel
theorem dX12_fitsGuess_57 : decode cX12_fitsGuess 57 = .ok (.iconst 0, 1) := by decide +kernel
theorem dX12_fitsGuess_58 : decode cX12_fitsGuess 58 = .ok (.istore 7, 2) := by decide +kernel
theorem dX12_fitsGuess_60 : decode cX12_fitsGuess 60 = .ok (.iconst 0, 1) := by decide +kernel
theorem dX12_fitsGuess_61 : decode cX12_fitsGuess 61 = .ok (.istore 8, 2) := by decide +kernel
theorem dX12_fitsGuess_63 : decode cX12_fitsGuess 63 = .ok (.iload 8, 2) := by decide +kernel
theorem dX12_fitsGuess_65 : decode cX12_fitsGuess 65 = .ok (.iconst 4, 1) := by decide +kernel
theorem dX12_fitsGuess_66 : decode cX12_fitsGuess 66 = .ok (.if_icmp .ge 48, 3) := by decide +kernel
theorem dX12_fitsGuess_69 : decode cX12_fitsGuess 69 = .ok (.iload_n 1, 1) := by decide +kernel
theorem dX12_fitsGuess_70 : decode cX12_fitsGuess 70 = .ok (.iload 8, 2) := by decide +kernel
theorem dX12_fitsGuess_72 : decode cX12_fitsGuess 72 = .ok (.invokestatic 396, 3) := by decide +kernel
theorem dX12_fitsGuess_75 : decode cX12_fitsGuess 75 = .ok (.iload 5, 2) := by decide +kernel
theorem dX12_fitsGuess_77 : decode cX12_fitsGuess 77 = .ok (.if_icmp .ne 9, 3) := by decide +kernel
theorem dX12_fitsGuess_80 : decode cX12_fitsGuess 80 = .ok (.iload 6, 2) := by decide +kernel
theorem dX12_fitsGuess_82 : decode cX12_fitsGuess 82 = .ok (.iconst 1, 1) := by decide +kernel
theorem dX12_fitsGuess_83 : decode cX12_fitsGuess 83 = .ok (.iadd, 1) := by decide +kernel
theorem dX12_fitsGuess_84 : decode cX12_fitsGuess 84 = .ok (.istore 6, 2) := by decide +kernel
theorem dX12_fitsGuess_86 : decode cX12_fitsGuess 86 = .ok (.aload_n 0, 1) := by decide +kernel
theorem dX12_fitsGuess_87 : decode cX12_fitsGuess 87 = .ok (.bipush 6, 2) := by decide +kernel
theorem dX12_fitsGuess_89 : decode cX12_fitsGuess 89 = .ok (.iload_n 2, 1) := by decide +kernel
theorem dX12_fitsGuess_90 : decode cX12_fitsGuess 90 = .ok (.imul, 1) := by decide +kernel
theorem dX12_fitsGuess_91 : decode cX12_fitsGuess 91 = .ok (.iload 8, 2) := by decide +kernel
theorem dX12_fitsGuess_93 : decode cX12_fitsGuess 93 = .ok (.iadd, 1) := by decide +kernel
theorem dX12_fitsGuess_94 : decode cX12_fitsGuess 94 = .ok (.invokevirtual 387, 3) := by decide +kernel
theorem dX12_fitsGuess_97 : decode cX12_fitsGuess 97 = .ok (.iload 5, 2) := by decide +kernel
theorem dX12_fitsGuess_99 : decode cX12_fitsGuess 99 = .ok (.if_icmp .ne 9, 3) := by decide +kernel
theorem dX12_fitsGuess_102 : decode cX12_fitsGuess 102 = .ok (.iload 7, 2) := by decide +kernel
theorem dX12_fitsGuess_104 : decode cX12_fitsGuess 104 = .ok (.iconst 1, 1) := by decide +kernel
theorem dX12_fitsGuess_105 : decode cX12_fitsGuess 105 = .ok (.iadd, 1) := by decide +kernel
theorem dX12_fitsGuess_106 : decode cX12_fitsGuess 106 = .ok (.istore 7, 2) := by decide +kernel
theorem dX12_fitsGuess_108 : decode cX12_fitsGuess 108 = .ok (.iinc 8 1, 3) := by decide +kernel
theorem dX12_fitsGuess_111 : decode cX12_fitsGuess 111 = .ok (.goto (-48), 3) := by decide +kernel
theorem dX12_fitsGuess_114 : decode cX12_fitsGuess 114 = .ok (.iload 4, 2) := by decide +kernel
theorem dX12_fitsGuess_116 : decode cX12_fitsGuess 116 = .ok (.iload 6, 2) := by decide +kernel
theorem dX12_fitsGuess_118 : decode cX12_fitsGuess 118 = .ok (.iload 7, 2) := by decide +kernel
theorem dX12_fitsGuess_120 : decode cX12_fitsGuess 120 = .ok (.invokestatic 345, 3) := by decide +kernel
theorem dX12_fitsGuess_123 : decode cX12_fitsGuess 123 = .ok (.iadd, 1) := by decide +kernel
theorem dX12_fitsGuess_124 : decode cX12_fitsGuess 124 = .ok (.istore 4, 2) := by decide +kernel
theorem dX12_fitsGuess_126 : decode cX12_fitsGuess 126 = .ok (.iinc 5 1, 3) := by decide +kernel
theorem dX12_fitsGuess_129 : decode cX12_fitsGuess 129 = .ok (.goto (-82), 3) := by decide +kernel
theorem dX12_fitsGuess_132 : decode cX12_fitsGuess 132 = .ok (.iload_n 3, 1) := by decide +kernel
theorem dX12_fitsGuess_133 : decode cX12_fitsGuess 133 = .ok (.aload_n 0, 1) := by decide +kernel
theorem dX12_fitsGuess_134 : decode cX12_fitsGuess 134 = .ok (.bipush 6, 2) := by decide +kernel
theorem dX12_fitsGuess_136 : decode cX12_fitsGuess 136 = .ok (.iload_n 2, 1) := by decide +kernel
theorem dX12_fitsGuess_137 : decode cX12_fitsGuess 137 = .ok (.imul, 1) := by decide +kernel
theorem dX12_fitsGuess_138 : decode cX12_fitsGuess 138 = .ok (.iconst 4, 1) := by decide +kernel
theorem dX12_fitsGuess_139 : decode cX12_fitsGuess 139 = .ok (.iadd, 1) := by decide +kernel
theorem dX12_fitsGuess_140 : decode cX12_fitsGuess 140 = .ok (.invokevirtual 387, 3) := by decide +kernel
theorem dX12_fitsGuess_143 : decode cX12_fitsGuess 143 = .ok (.if_icmp .ne 24, 3) := by decide +kernel
theorem dX12_fitsGuess_146 : decode cX12_fitsGuess 146 = .ok (.iload 4, 2) := by decide +kernel
theorem dX12_fitsGuess_148 : decode cX12_fitsGuess 148 = .ok (.iload_n 3, 1) := by decide +kernel
theorem dX12_fitsGuess_149 : decode cX12_fitsGuess 149 = .ok (.isub, 1) := by decide +kernel
theorem dX12_fitsGuess_150 : decode cX12_fitsGuess 150 = .ok (.aload_n 0, 1) := by decide +kernel
theorem dX12_fitsGuess_151 : decode cX12_fitsGuess 151 = .ok (.bipush 6, 2) := by decide +kernel
theorem dX12_fitsGuess_153 : decode cX12_fitsGuess 153 = .ok (.iload_n 2, 1) := by decide +kernel
theorem dX12_fitsGuess_154 : decode cX12_fitsGuess 154 = .ok (.imul, 1) := by decide +kernel
theorem dX12_fitsGuess_155 : decode cX12_fitsGuess 155 = .ok (.iconst 5, 1) := by decide +kernel
theorem dX12_fitsGuess_156 : decode cX12_fitsGuess 156 = .ok (.iadd, 1) := by decide +kernel
theorem dX12_fitsGuess_157 : decode cX12_fitsGuess 157 = .ok (.invokevirtual 387, 3) := by decide +kernel
theorem dX12_fitsGuess_160 : decode cX12_fitsGuess 160 = .ok (.if_icmp .ne 7, 3) := by decide +kernel
theorem dX12_fitsGuess_163 : decode cX12_fitsGuess 163 = .ok (.iconst 1, 1) := by decide +kernel
theorem dX12_fitsGuess_164 : decode cX12_fitsGuess 164 = .ok (.goto 4, 3) := by decide +kernel
theorem dX12_fitsGuess_167 : decode cX12_fitsGuess 167 = .ok (.iconst 0, 1) := by decide +kernel
theorem dX12_fitsGuess_168 : decode cX12_fitsGuess 168 = .ok (.ireturn, 1) := by decide +kernel
set_option maxHeartbeats 4000000 in
set_option maxRecDepth 100000 in
theorem kL_X12_fitsGuess_8 {X : GC} {E : GE} (C : Cx X E cX12_fitsGuess RX12 2 9) (o_t : Nat) (a_t : Nat → Nat) (t_toldDoors : Int32) (t_barredDoors : Int32) (t_taped : Int32) (t_place0 : Int32) (t_length0 : Int32) (t_fault : Int32) (t_number0 : Int32) (t_open : Int32) (t_codeMany : Int32) (t_waiting : Int32) (t_saidMany : Int32) (t_clauses : Int32) (t_newMany : Int32) (t_rounds : Int32) (t_pinFrom : Int32) (t_pinTimes : Int32) (t_lines : Int32) (t_wasTold : Int32) (t_wasBarred : Int32) (t_goesNow : Int32) (t_jamsNow : Int32) (t_queued : Int32) (t_isKept : Int32) (t_tape : (Nat → Int32)) (x1 : Int32) (x2 : Int32) (x4 : Int32) (k0 : Int32 → Option (Int32)) {r : Int32} (hret : RtI X E cX12_fitsGuess .boolean 0 0 (fun w => w = (W_X12_fitsGuess E o_t a_t t_toldDoors t_barredDoors t_taped t_place0 t_length0 t_fault t_number0 t_open t_codeMany t_waiting t_saidMany t_clauses t_newMany t_rounds t_pinFrom t_pinTimes t_lines t_wasTold t_wasBarred t_goesNow t_jamsNow t_queued t_isKept t_tape)) r) (hk0 : ∀ u, k0 u = some r → Gx X E 0 0 (W_X12_fitsGuess E o_t a_t t_toldDoors t_barredDoors t_taped t_place0 t_length0 t_fault t_number0 t_open t_codeMany t_waiting t_saidMany t_clauses t_newMany t_rounds t_pinFrom t_pinTimes t_lines t_wasTold t_wasBarred t_goesNow t_jamsNow t_queued t_isKept t_tape) 44 [(0, .ref o_t), (1, .int x1), (2, .int x2), (3, .int u), (4, .int x4)] []) : ∀ (n : Nat) (s : Int32 × Int32), L_X12_fitsGuess_8 t_tape x1 x2 x4 k0 n s = some r → Gx X E 0 0 (W_X12_fitsGuess E o_t a_t t_toldDoors t_barredDoors t_taped t_place0 t_length0 t_fault t_number0 t_open t_codeMany t_waiting t_saidMany t_clauses t_newMany t_rounds t_pinFrom t_pinTimes t_lines t_wasTold t_wasBarred t_goesNow t_jamsNow t_queued t_isKept t_tape) 8 [(0, .ref o_t), (1, .int x1), (2, .int x2), (3, .int s.1), (4, .int x4), (5, .int s.2)] [] := by
  unfold L_X12_fitsGuess_8
  refine lp_ind _ (fun go ih s h => ?_)
  refine g_iload (pc := 8) C dX12_fitsGuess_8 5 rfl ?_
  refine g_iconst (pc := 10) (v := 4) C dX12_fitsGuess_10 (by decide) ?_
  refine g_icmp_ge (pc := 11) (tgt := 44) C dX12_fitsGuess_11 (by decide) h (fun h => ?_) (fun h => ?_)
  · refine g_sub [0, 1, 2, 3, 4] rfl ?_
    exact hk0 _ h
  · refine g_iload_n (pc := 14) C dX12_fitsGuess_14 rfl 1 rfl ?_
    refine g_iload (pc := 15) C dX12_fitsGuess_15 5 rfl ?_
    obtain ⟨u1, hu1, h⟩ := bs h
    refine g_callS (pc := 17) (st := []) (st1 := [.int u1]) (ws' := (W_X12_fitsGuess E o_t a_t t_toldDoors t_barredDoors t_taped t_place0 t_length0 t_fault t_number0 t_open t_codeMany t_waiting t_saidMany t_clauses t_newMany t_rounds t_pinFrom t_pinTimes t_lines t_wasTold t_wasBarred t_goesNow t_jamsNow t_queued t_isKept t_tape)) C mv_X12_curlOf ms_X12_curlOf ml_X12_396 (c_X12_curlOf X.2.1 E x1 s.2 u1 hu1) dX12_fitsGuess_17 (by decide) rfl (Nat.le_of_ble_eq_true rfl) [] rfl (by decide) rfl rfl rfl rfl ?_
    refine g_aload_n (pc := 20) C dX12_fitsGuess_20 rfl 0 rfl ?_
    refine g_bipush (pc := 21) (v := 6) C dX12_fitsGuess_21 (by decide) ?_
    refine g_iload_n (pc := 23) C dX12_fitsGuess_23 rfl 2 rfl ?_
    refine g_imul (pc := 24) C dX12_fitsGuess_24 ?_
    refine g_iload (pc := 25) C dX12_fitsGuess_25 5 rfl ?_
    refine g_iadd (pc := 27) C dX12_fitsGuess_27 ?_
    obtain ⟨u2, hu2, h⟩ := bs h
    refine g_callV (pc := 28) (st := [.int u1]) (st1 := [.int u2, .int u1]) (ws' := (W_X12_fitsGuess E o_t a_t t_toldDoors t_barredDoors t_taped t_place0 t_length0 t_fault t_number0 t_open t_codeMany t_waiting t_saidMany t_clauses t_newMany t_rounds t_pinFrom t_pinTimes t_lines t_wasTold t_wasBarred t_goesNow t_jamsNow t_queued t_isKept t_tape)) C mv_X12_octet mi_X12_octet ml_X12_387 (c_X12_octet X.2.1 E o_t a_t t_toldDoors t_barredDoors t_taped t_place0 t_length0 t_fault t_number0 t_open t_codeMany t_waiting t_saidMany t_clauses t_newMany t_rounds t_pinFrom t_pinTimes t_lines t_wasTold t_wasBarred t_goesNow t_jamsNow t_queued t_isKept t_tape (((6 : Int32) * x2) + s.2) u2 hu2) dX12_fitsGuess_28 (by decide) rfl (Nat.le_of_ble_eq_true rfl) 0 11 rfl rfl [0, 1] rfl (by decide) rfl rfl rfl rfl ?_
    refine g_icmp_ne (pc := 31) (tgt := 38) C dX12_fitsGuess_31 (by decide) h (fun h => ?_) (fun h => ?_)
    · refine g_iincn (pc := 38) (j := 5) (d := 1) (lv' := fun v3 => [(5, .int v3), (0, .ref o_t), (1, .int x1), (2, .int x2), (3, .int s.1), (4, .int x4)]) C dX12_fitsGuess_38 rfl (by decide) (by decide) (fun _ => rfl) h (fun v3 h => ?_)
      refine g_goto (pc := 41) (tgt := 8) C dX12_fitsGuess_41 (by decide) ?_
      refine g_sub [1, 2, 3, 4, 5, 0] rfl ?_
      exact ih _ h
    · refine g_iload_n (pc := 34) C dX12_fitsGuess_34 rfl 3 rfl ?_
      refine g_iconst (pc := 35) (v := 1) C dX12_fitsGuess_35 (by decide) ?_
      refine g_iadd (pc := 36) C dX12_fitsGuess_36 ?_
      refine g_nm h (fun v4 h => ?_)
      refine g_istore_n (pc := 37) (lv' := [(3, .int v4), (0, .ref o_t), (1, .int x1), (2, .int x2), (4, .int x4), (5, .int s.2)]) C dX12_fitsGuess_37 rfl (by decide) rfl ?_
      refine g_iincn (pc := 38) (j := 5) (d := 1) (lv' := fun v5 => [(5, .int v5), (3, .int v4), (0, .ref o_t), (1, .int x1), (2, .int x2), (4, .int x4)]) C dX12_fitsGuess_38 rfl (by decide) (by decide) (fun _ => rfl) h (fun v5 h => ?_)
      refine g_goto (pc := 41) (tgt := 8) C dX12_fitsGuess_41 (by decide) ?_
      refine g_sub [2, 3, 4, 1, 5, 0] rfl ?_
      exact ih _ h
set_option maxHeartbeats 4000000 in
set_option maxRecDepth 100000 in
theorem kL_X12_fitsGuess_63 {X : GC} {E : GE} (C : Cx X E cX12_fitsGuess RX12 2 9) (o_t : Nat) (a_t : Nat → Nat) (t_toldDoors : Int32) (t_barredDoors : Int32) (t_taped : Int32) (t_place0 : Int32) (t_length0 : Int32) (t_fault : Int32) (t_number0 : Int32) (t_open : Int32) (t_codeMany : Int32) (t_waiting : Int32) (t_saidMany : Int32) (t_clauses : Int32) (t_newMany : Int32) (t_rounds : Int32) (t_pinFrom : Int32) (t_pinTimes : Int32) (t_lines : Int32) (t_wasTold : Int32) (t_wasBarred : Int32) (t_goesNow : Int32) (t_jamsNow : Int32) (t_queued : Int32) (t_isKept : Int32) (t_tape : (Nat → Int32)) (x1 : Int32) (x2 : Int32) (x3 : Int32) (x4 : Int32) (x5 : Int32) (k0 : Int32 × Int32 → Option (Int32)) {r : Int32} (hret : RtI X E cX12_fitsGuess .boolean 0 0 (fun w => w = (W_X12_fitsGuess E o_t a_t t_toldDoors t_barredDoors t_taped t_place0 t_length0 t_fault t_number0 t_open t_codeMany t_waiting t_saidMany t_clauses t_newMany t_rounds t_pinFrom t_pinTimes t_lines t_wasTold t_wasBarred t_goesNow t_jamsNow t_queued t_isKept t_tape)) r) (hk0 : ∀ u, k0 u = some r → Gx X E 0 0 (W_X12_fitsGuess E o_t a_t t_toldDoors t_barredDoors t_taped t_place0 t_length0 t_fault t_number0 t_open t_codeMany t_waiting t_saidMany t_clauses t_newMany t_rounds t_pinFrom t_pinTimes t_lines t_wasTold t_wasBarred t_goesNow t_jamsNow t_queued t_isKept t_tape) 114 [(0, .ref o_t), (1, .int x1), (2, .int x2), (3, .int x3), (4, .int x4), (5, .int x5), (6, .int u.1), (7, .int u.2)] []) : ∀ (n : Nat) (s : Int32 × Int32 × Int32), L_X12_fitsGuess_63 t_tape x1 x2 x3 x4 x5 k0 n s = some r → Gx X E 0 0 (W_X12_fitsGuess E o_t a_t t_toldDoors t_barredDoors t_taped t_place0 t_length0 t_fault t_number0 t_open t_codeMany t_waiting t_saidMany t_clauses t_newMany t_rounds t_pinFrom t_pinTimes t_lines t_wasTold t_wasBarred t_goesNow t_jamsNow t_queued t_isKept t_tape) 63 [(0, .ref o_t), (1, .int x1), (2, .int x2), (3, .int x3), (4, .int x4), (5, .int x5), (6, .int s.1), (7, .int s.2.1), (8, .int s.2.2)] [] := by
  unfold L_X12_fitsGuess_63
  refine lp_ind _ (fun go ih s h => ?_)
  refine g_iload (pc := 63) C dX12_fitsGuess_63 8 rfl ?_
  refine g_iconst (pc := 65) (v := 4) C dX12_fitsGuess_65 (by decide) ?_
  refine g_icmp_ge (pc := 66) (tgt := 114) C dX12_fitsGuess_66 (by decide) h (fun h => ?_) (fun h => ?_)
  · refine g_sub [0, 1, 2, 3, 4, 5, 6, 7] rfl ?_
    exact hk0 _ h
  · refine g_iload_n (pc := 69) C dX12_fitsGuess_69 rfl 1 rfl ?_
    refine g_iload (pc := 70) C dX12_fitsGuess_70 8 rfl ?_
    obtain ⟨u7, hu7, h⟩ := bs h
    refine g_callS (pc := 72) (st := []) (st1 := [.int u7]) (ws' := (W_X12_fitsGuess E o_t a_t t_toldDoors t_barredDoors t_taped t_place0 t_length0 t_fault t_number0 t_open t_codeMany t_waiting t_saidMany t_clauses t_newMany t_rounds t_pinFrom t_pinTimes t_lines t_wasTold t_wasBarred t_goesNow t_jamsNow t_queued t_isKept t_tape)) C mv_X12_curlOf ms_X12_curlOf ml_X12_396 (c_X12_curlOf X.2.1 E x1 s.2.2 u7 hu7) dX12_fitsGuess_72 (by decide) rfl (Nat.le_of_ble_eq_true rfl) [] rfl (by decide) rfl rfl rfl rfl ?_
    refine g_iload (pc := 75) C dX12_fitsGuess_75 5 rfl ?_
    refine g_jn (fun s8 : Int32 => Gx X E 0 0 (W_X12_fitsGuess E o_t a_t t_toldDoors t_barredDoors t_taped t_place0 t_length0 t_fault t_number0 t_open t_codeMany t_waiting t_saidMany t_clauses t_newMany t_rounds t_pinFrom t_pinTimes t_lines t_wasTold t_wasBarred t_goesNow t_jamsNow t_queued t_isKept t_tape) 86 [(0, .ref o_t), (1, .int x1), (2, .int x2), (3, .int x3), (4, .int x4), (5, .int x5), (6, .int s8), (7, .int s.2.1), (8, .int s.2.2)] []) h (fun s8 h => ?_) (fun j86 hj86 h => ?_)
    · refine g_aload_n (pc := 86) C dX12_fitsGuess_86 rfl 0 rfl ?_
      refine g_bipush (pc := 87) (v := 6) C dX12_fitsGuess_87 (by decide) ?_
      refine g_iload_n (pc := 89) C dX12_fitsGuess_89 rfl 2 rfl ?_
      refine g_imul (pc := 90) C dX12_fitsGuess_90 ?_
      refine g_iload (pc := 91) C dX12_fitsGuess_91 8 rfl ?_
      refine g_iadd (pc := 93) C dX12_fitsGuess_93 ?_
      obtain ⟨u9, hu9, h⟩ := bs h
      refine g_callV (pc := 94) (st := []) (st1 := [.int u9]) (ws' := (W_X12_fitsGuess E o_t a_t t_toldDoors t_barredDoors t_taped t_place0 t_length0 t_fault t_number0 t_open t_codeMany t_waiting t_saidMany t_clauses t_newMany t_rounds t_pinFrom t_pinTimes t_lines t_wasTold t_wasBarred t_goesNow t_jamsNow t_queued t_isKept t_tape)) C mv_X12_octet mi_X12_octet ml_X12_387 (c_X12_octet X.2.1 E o_t a_t t_toldDoors t_barredDoors t_taped t_place0 t_length0 t_fault t_number0 t_open t_codeMany t_waiting t_saidMany t_clauses t_newMany t_rounds t_pinFrom t_pinTimes t_lines t_wasTold t_wasBarred t_goesNow t_jamsNow t_queued t_isKept t_tape (((6 : Int32) * x2) + s.2.2) u9 hu9) dX12_fitsGuess_94 (by decide) rfl (Nat.le_of_ble_eq_true rfl) 0 11 rfl rfl [0, 1] rfl (by decide) rfl rfl rfl rfl ?_
      refine g_iload (pc := 97) C dX12_fitsGuess_97 5 rfl ?_
      refine g_icmp_ne (pc := 99) (tgt := 108) C dX12_fitsGuess_99 (by decide) h (fun h => ?_) (fun h => ?_)
      · refine g_iincn (pc := 108) (j := 8) (d := 1) (lv' := fun v10 => [(8, .int v10), (0, .ref o_t), (1, .int x1), (2, .int x2), (3, .int x3), (4, .int x4), (5, .int x5), (6, .int s8), (7, .int s.2.1)]) C dX12_fitsGuess_108 rfl (by decide) (by decide) (fun _ => rfl) h (fun v10 h => ?_)
        refine g_goto (pc := 111) (tgt := 63) C dX12_fitsGuess_111 (by decide) ?_
        refine g_sub [1, 2, 3, 4, 5, 6, 7, 8, 0] rfl ?_
        exact ih _ h
      · refine g_iload (pc := 102) C dX12_fitsGuess_102 7 rfl ?_
        refine g_iconst (pc := 104) (v := 1) C dX12_fitsGuess_104 (by decide) ?_
        refine g_iadd (pc := 105) C dX12_fitsGuess_105 ?_
        refine g_nm h (fun v11 h => ?_)
        refine g_istore (pc := 106) (lv' := [(7, .int v11), (0, .ref o_t), (1, .int x1), (2, .int x2), (3, .int x3), (4, .int x4), (5, .int x5), (6, .int s8), (8, .int s.2.2)]) C dX12_fitsGuess_106 (by decide) rfl ?_
        refine g_iincn (pc := 108) (j := 8) (d := 1) (lv' := fun v12 => [(8, .int v12), (7, .int v11), (0, .ref o_t), (1, .int x1), (2, .int x2), (3, .int x3), (4, .int x4), (5, .int x5), (6, .int s8)]) C dX12_fitsGuess_108 rfl (by decide) (by decide) (fun _ => rfl) h (fun v12 h => ?_)
        refine g_goto (pc := 111) (tgt := 63) C dX12_fitsGuess_111 (by decide) ?_
        refine g_sub [2, 3, 4, 5, 6, 7, 8, 1, 0] rfl ?_
        exact ih _ h
    refine g_icmp_ne (pc := 77) (tgt := 86) C dX12_fitsGuess_77 (by decide) h (fun h => ?_) (fun h => ?_)
    · exact hj86 _ h
    · refine g_iload (pc := 80) C dX12_fitsGuess_80 6 rfl ?_
      refine g_iconst (pc := 82) (v := 1) C dX12_fitsGuess_82 (by decide) ?_
      refine g_iadd (pc := 83) C dX12_fitsGuess_83 ?_
      refine g_nm h (fun v13 h => ?_)
      refine g_istore (pc := 84) (lv' := [(6, .int v13), (0, .ref o_t), (1, .int x1), (2, .int x2), (3, .int x3), (4, .int x4), (5, .int x5), (7, .int s.2.1), (8, .int s.2.2)]) C dX12_fitsGuess_84 (by decide) rfl ?_
      refine g_sub [1, 2, 3, 4, 5, 6, 0, 7, 8] rfl ?_
      exact hj86 _ h
set_option maxHeartbeats 4000000 in
set_option maxRecDepth 100000 in
theorem kL_X12_fitsGuess_47 {X : GC} {E : GE} (C : Cx X E cX12_fitsGuess RX12 2 9) (o_t : Nat) (a_t : Nat → Nat) (t_toldDoors : Int32) (t_barredDoors : Int32) (t_taped : Int32) (t_place0 : Int32) (t_length0 : Int32) (t_fault : Int32) (t_number0 : Int32) (t_open : Int32) (t_codeMany : Int32) (t_waiting : Int32) (t_saidMany : Int32) (t_clauses : Int32) (t_newMany : Int32) (t_rounds : Int32) (t_pinFrom : Int32) (t_pinTimes : Int32) (t_lines : Int32) (t_wasTold : Int32) (t_wasBarred : Int32) (t_goesNow : Int32) (t_jamsNow : Int32) (t_queued : Int32) (t_isKept : Int32) (t_tape : (Nat → Int32)) (x1 : Int32) (x2 : Int32) (x3 : Int32) (k0 : Int32 → Option (Int32)) {r : Int32} (hret : RtI X E cX12_fitsGuess .boolean 0 0 (fun w => w = (W_X12_fitsGuess E o_t a_t t_toldDoors t_barredDoors t_taped t_place0 t_length0 t_fault t_number0 t_open t_codeMany t_waiting t_saidMany t_clauses t_newMany t_rounds t_pinFrom t_pinTimes t_lines t_wasTold t_wasBarred t_goesNow t_jamsNow t_queued t_isKept t_tape)) r) (hk0 : ∀ u, k0 u = some r → Gx X E 0 0 (W_X12_fitsGuess E o_t a_t t_toldDoors t_barredDoors t_taped t_place0 t_length0 t_fault t_number0 t_open t_codeMany t_waiting t_saidMany t_clauses t_newMany t_rounds t_pinFrom t_pinTimes t_lines t_wasTold t_wasBarred t_goesNow t_jamsNow t_queued t_isKept t_tape) 132 [(0, .ref o_t), (2, .int x2), (3, .int x3), (4, .int u)] []) : ∀ (n : Nat) (s : Int32 × Int32), L_X12_fitsGuess_47 t_tape x1 x2 x3 k0 n s = some r → Gx X E 0 0 (W_X12_fitsGuess E o_t a_t t_toldDoors t_barredDoors t_taped t_place0 t_length0 t_fault t_number0 t_open t_codeMany t_waiting t_saidMany t_clauses t_newMany t_rounds t_pinFrom t_pinTimes t_lines t_wasTold t_wasBarred t_goesNow t_jamsNow t_queued t_isKept t_tape) 47 [(0, .ref o_t), (1, .int x1), (2, .int x2), (3, .int x3), (4, .int s.1), (5, .int s.2)] [] := by
  unfold L_X12_fitsGuess_47
  refine lp_ind _ (fun go ih s h => ?_)
  refine g_iload (pc := 47) C dX12_fitsGuess_47 5 rfl ?_
  refine g_bipush (pc := 49) (v := 6) C dX12_fitsGuess_49 (by decide) ?_
  refine g_icmp_ge (pc := 51) (tgt := 132) C dX12_fitsGuess_51 (by decide) h (fun h => ?_) (fun h => ?_)
  · refine g_sub [0, 2, 3, 4] rfl ?_
    exact hk0 _ h
  · refine g_iconst (pc := 54) (v := 0) C dX12_fitsGuess_54 (by decide) ?_
    refine g_istore (pc := 55) (lv' := [(6, .int (0 : Int32)), (0, .ref o_t), (1, .int x1), (2, .int x2), (3, .int x3), (4, .int s.1), (5, .int s.2)]) C dX12_fitsGuess_55 (by decide) rfl ?_
    refine g_iconst (pc := 57) (v := 0) C dX12_fitsGuess_57 (by decide) ?_
    refine g_istore (pc := 58) (lv' := [(7, .int (0 : Int32)), (6, .int (0 : Int32)), (0, .ref o_t), (1, .int x1), (2, .int x2), (3, .int x3), (4, .int s.1), (5, .int s.2)]) C dX12_fitsGuess_58 (by decide) rfl ?_
    refine g_iconst (pc := 60) (v := 0) C dX12_fitsGuess_60 (by decide) ?_
    refine g_istore (pc := 61) (lv' := [(8, .int (0 : Int32)), (7, .int (0 : Int32)), (6, .int (0 : Int32)), (0, .ref o_t), (1, .int x1), (2, .int x2), (3, .int x3), (4, .int s.1), (5, .int s.2)]) C dX12_fitsGuess_61 (by decide) rfl ?_
    refine g_sub [3, 4, 5, 6, 7, 8, 2, 1, 0] rfl ?_
    refine kL_X12_fitsGuess_63 C o_t a_t t_toldDoors t_barredDoors t_taped t_place0 t_length0 t_fault t_number0 t_open t_codeMany t_waiting t_saidMany t_clauses t_newMany t_rounds t_pinFrom t_pinTimes t_lines t_wasTold t_wasBarred t_goesNow t_jamsNow t_queued t_isKept t_tape x1 x2 x3 s.1 s.2 _ hret (fun s14 h => ?_) _ _ h
    refine g_iload (pc := 114) C dX12_fitsGuess_114 4 rfl ?_
    refine g_iload (pc := 116) C dX12_fitsGuess_116 6 rfl ?_
    refine g_iload (pc := 118) C dX12_fitsGuess_118 7 rfl ?_
    obtain ⟨u15, hu15, h⟩ := bs h
    refine g_callS (pc := 120) (st := [.int s.1]) (st1 := [.int u15, .int s.1]) (ws' := (W_X12_fitsGuess E o_t a_t t_toldDoors t_barredDoors t_taped t_place0 t_length0 t_fault t_number0 t_open t_codeMany t_waiting t_saidMany t_clauses t_newMany t_rounds t_pinFrom t_pinTimes t_lines t_wasTold t_wasBarred t_goesNow t_jamsNow t_queued t_isKept t_tape)) C mv_X12_min ms_X12_min ml_X12_345 (c_X12_min X.2.1 E s14.1 s14.2 u15 hu15) dX12_fitsGuess_120 (by decide) rfl (Nat.le_of_ble_eq_true rfl) [] rfl (by decide) rfl rfl rfl rfl ?_
    refine g_iadd (pc := 123) C dX12_fitsGuess_123 ?_
    refine g_nm h (fun v16 h => ?_)
    refine g_istore (pc := 124) (lv' := [(4, .int v16), (0, .ref o_t), (1, .int x1), (2, .int x2), (3, .int x3), (5, .int s.2), (6, .int s14.1), (7, .int s14.2)]) C dX12_fitsGuess_124 (by decide) rfl ?_
    refine g_iincn (pc := 126) (j := 5) (d := 1) (lv' := fun v17 => [(5, .int v17), (4, .int v16), (0, .ref o_t), (1, .int x1), (2, .int x2), (3, .int x3), (6, .int s14.1), (7, .int s14.2)]) C dX12_fitsGuess_126 rfl (by decide) (by decide) (fun _ => rfl) h (fun v17 h => ?_)
    refine g_goto (pc := 129) (tgt := 47) C dX12_fitsGuess_129 (by decide) ?_
    refine g_sub [2, 3, 4, 5, 1, 0] rfl ?_
    exact ih _ h
set_option maxHeartbeats 4000000 in
set_option maxRecDepth 100000 in
theorem c_X12_fitsGuess (l : Launch) (E : GE) (o_t : Nat) (a_t : Nat → Nat) (t_toldDoors : Int32) (t_barredDoors : Int32) (t_taped : Int32) (t_place0 : Int32) (t_length0 : Int32) (t_fault : Int32) (t_number0 : Int32) (t_open : Int32) (t_codeMany : Int32) (t_waiting : Int32) (t_saidMany : Int32) (t_clauses : Int32) (t_newMany : Int32) (t_rounds : Int32) (t_pinFrom : Int32) (t_pinTimes : Int32) (t_lines : Int32) (t_wasTold : Int32) (t_wasBarred : Int32) (t_goesNow : Int32) (t_jamsNow : Int32) (t_queued : Int32) (t_isKept : Int32) (t_tape : (Nat → Int32)) (x1 : Int32) (x2 : Int32) (r : Int32) (h : f_X12_fitsGuess t_tape x1 x2 = some r) : Cn l E yX12_fitsGuess cX12_fitsGuess 9 (some .boolean) 2 0 0 [.ref o_t, .int x1, .int x2] (W_X12_fitsGuess E o_t a_t t_toldDoors t_barredDoors t_taped t_place0 t_length0 t_fault t_number0 t_open t_codeMany t_waiting t_saidMany t_clauses t_newMany t_rounds t_pinFrom t_pinTimes t_lines t_wasTold t_wasBarred t_goesNow t_jamsNow t_queued t_isKept t_tape) (fun w => w = (W_X12_fitsGuess E o_t a_t t_toldDoors t_barredDoors t_taped t_place0 t_length0 t_fault t_number0 t_open t_codeMany t_waiting t_saidMany t_clauses t_newMany t_rounds t_pinFrom t_pinTimes t_lines t_wasTold t_wasBarred t_goesNow t_jamsNow t_queued t_isKept t_tape)) (some (.int r)) := by
  refine Cn.ofI (by decide +kernel) (Nat.le_of_ble_eq_true rfl) (fun X hX hR C hret => ?_)
  subst hX
  show Gx X E 0 0 (W_X12_fitsGuess E o_t a_t t_toldDoors t_barredDoors t_taped t_place0 t_length0 t_fault t_number0 t_open t_codeMany t_waiting t_saidMany t_clauses t_newMany t_rounds t_pinFrom t_pinTimes t_lines t_wasTold t_wasBarred t_goesNow t_jamsNow t_queued t_isKept t_tape) 0 [(0, .ref o_t), (1, .int x1), (2, .int x2)] []
  unfold f_X12_fitsGuess at h
  refine g_iconst (pc := 0) (v := 0) C dX12_fitsGuess_0 (by decide) ?_
  refine g_istore_n (pc := 1) (lv' := [(3, .int (0 : Int32)), (0, .ref o_t), (1, .int x1), (2, .int x2)]) C dX12_fitsGuess_1 rfl (by decide) rfl ?_
  refine g_iconst (pc := 2) (v := 0) C dX12_fitsGuess_2 (by decide) ?_
  refine g_istore (pc := 3) (lv' := [(4, .int (0 : Int32)), (3, .int (0 : Int32)), (0, .ref o_t), (1, .int x1), (2, .int x2)]) C dX12_fitsGuess_3 (by decide) rfl ?_
  refine g_iconst (pc := 5) (v := 0) C dX12_fitsGuess_5 (by decide) ?_
  refine g_istore (pc := 6) (lv' := [(5, .int (0 : Int32)), (4, .int (0 : Int32)), (3, .int (0 : Int32)), (0, .ref o_t), (1, .int x1), (2, .int x2)]) C dX12_fitsGuess_6 (by decide) rfl ?_
  refine g_sub [3, 4, 5, 2, 1, 0] rfl ?_
  refine kL_X12_fitsGuess_8 C o_t a_t t_toldDoors t_barredDoors t_taped t_place0 t_length0 t_fault t_number0 t_open t_codeMany t_waiting t_saidMany t_clauses t_newMany t_rounds t_pinFrom t_pinTimes t_lines t_wasTold t_wasBarred t_goesNow t_jamsNow t_queued t_isKept t_tape x1 x2 (0 : Int32) _ hret (fun s6 h => ?_) _ _ h
  refine g_iconst (pc := 44) (v := 0) C dX12_fitsGuess_44 (by decide) ?_
  refine g_istore (pc := 45) (lv' := [(5, .int (0 : Int32)), (0, .ref o_t), (1, .int x1), (2, .int x2), (3, .int s6), (4, .int (0 : Int32))]) C dX12_fitsGuess_45 (by decide) rfl ?_
  refine g_sub [1, 2, 3, 4, 5, 0] rfl ?_
  refine kL_X12_fitsGuess_47 C o_t a_t t_toldDoors t_barredDoors t_taped t_place0 t_length0 t_fault t_number0 t_open t_codeMany t_waiting t_saidMany t_clauses t_newMany t_rounds t_pinFrom t_pinTimes t_lines t_wasTold t_wasBarred t_goesNow t_jamsNow t_queued t_isKept t_tape x1 x2 s6 _ hret (fun s18 h => ?_) _ _ h
  refine g_iload_n (pc := 132) C dX12_fitsGuess_132 rfl 2 rfl ?_
  refine g_aload_n (pc := 133) C dX12_fitsGuess_133 rfl 0 rfl ?_
  refine g_bipush (pc := 134) (v := 6) C dX12_fitsGuess_134 (by decide) ?_
  refine g_iload_n (pc := 136) C dX12_fitsGuess_136 rfl 1 rfl ?_
  refine g_imul (pc := 137) C dX12_fitsGuess_137 ?_
  refine g_iconst (pc := 138) (v := 4) C dX12_fitsGuess_138 (by decide) ?_
  refine g_iadd (pc := 139) C dX12_fitsGuess_139 ?_
  obtain ⟨u19, hu19, h⟩ := bs h
  refine g_callV (pc := 140) (st := [.int s6]) (st1 := [.int u19, .int s6]) (ws' := (W_X12_fitsGuess E o_t a_t t_toldDoors t_barredDoors t_taped t_place0 t_length0 t_fault t_number0 t_open t_codeMany t_waiting t_saidMany t_clauses t_newMany t_rounds t_pinFrom t_pinTimes t_lines t_wasTold t_wasBarred t_goesNow t_jamsNow t_queued t_isKept t_tape)) C mv_X12_octet mi_X12_octet ml_X12_387 (c_X12_octet X.2.1 E o_t a_t t_toldDoors t_barredDoors t_taped t_place0 t_length0 t_fault t_number0 t_open t_codeMany t_waiting t_saidMany t_clauses t_newMany t_rounds t_pinFrom t_pinTimes t_lines t_wasTold t_wasBarred t_goesNow t_jamsNow t_queued t_isKept t_tape (((6 : Int32) * x2) + (4 : Int32)) u19 hu19) dX12_fitsGuess_140 (by decide) rfl (Nat.le_of_ble_eq_true rfl) 0 11 rfl rfl [0, 1] rfl (by decide) rfl rfl rfl rfl ?_
  refine g_icmp_ne (pc := 143) (tgt := 167) C dX12_fitsGuess_143 (by decide) h (fun h => ?_) (fun h => ?_)
  · refine g_iconst (pc := 167) (v := 0) C dX12_fitsGuess_167 (by decide) ?_
    cases h
    exact hret _ _ _ dX12_fitsGuess_168 nb0 rfl
  · refine g_iload (pc := 146) C dX12_fitsGuess_146 3 rfl ?_
    refine g_iload_n (pc := 148) C dX12_fitsGuess_148 rfl 2 rfl ?_
    refine g_isub (pc := 149) C dX12_fitsGuess_149 ?_
    refine g_aload_n (pc := 150) C dX12_fitsGuess_150 rfl 0 rfl ?_
    refine g_bipush (pc := 151) (v := 6) C dX12_fitsGuess_151 (by decide) ?_
    refine g_iload_n (pc := 153) C dX12_fitsGuess_153 rfl 1 rfl ?_
    refine g_imul (pc := 154) C dX12_fitsGuess_154 ?_
    refine g_iconst (pc := 155) (v := 5) C dX12_fitsGuess_155 (by decide) ?_
    refine g_iadd (pc := 156) C dX12_fitsGuess_156 ?_
    obtain ⟨u20, hu20, h⟩ := bs h
    refine g_callV (pc := 157) (st := [.int (s18 - s6)]) (st1 := [.int u20, .int (s18 - s6)]) (ws' := (W_X12_fitsGuess E o_t a_t t_toldDoors t_barredDoors t_taped t_place0 t_length0 t_fault t_number0 t_open t_codeMany t_waiting t_saidMany t_clauses t_newMany t_rounds t_pinFrom t_pinTimes t_lines t_wasTold t_wasBarred t_goesNow t_jamsNow t_queued t_isKept t_tape)) C mv_X12_octet mi_X12_octet ml_X12_387 (c_X12_octet X.2.1 E o_t a_t t_toldDoors t_barredDoors t_taped t_place0 t_length0 t_fault t_number0 t_open t_codeMany t_waiting t_saidMany t_clauses t_newMany t_rounds t_pinFrom t_pinTimes t_lines t_wasTold t_wasBarred t_goesNow t_jamsNow t_queued t_isKept t_tape (((6 : Int32) * x2) + (5 : Int32)) u20 hu20) dX12_fitsGuess_157 (by decide) rfl (Nat.le_of_ble_eq_true rfl) 0 11 rfl rfl [0, 1] rfl (by decide) rfl rfl rfl rfl ?_
    refine g_icmp_ne (pc := 160) (tgt := 167) C dX12_fitsGuess_160 (by decide) h (fun h => ?_) (fun h => ?_)
    · refine g_iconst (pc := 167) (v := 0) C dX12_fitsGuess_167 (by decide) ?_
      cases h
      exact hret _ _ _ dX12_fitsGuess_168 nb0 rfl
    · refine g_iconst (pc := 163) (v := 1) C dX12_fitsGuess_163 (by decide) ?_
      refine g_goto (pc := 164) (tgt := 168) C dX12_fitsGuess_164 (by decide) ?_
      cases h
      exact hret _ _ _ dX12_fitsGuess_168 nb1 rfl
abbrev W_X12_fitting (E : GE) (O_t : Nat) (a_t : Nat → Nat) (t_toldDoors : Int32) (t_barredDoors : Int32) (t_taped : Int32) (t_place0 : Int32) (t_length0 : Int32) (t_fault : Int32) (t_number0 : Int32) (t_open : Int32) (t_codeMany : Int32) (t_waiting : Int32) (t_saidMany : Int32) (t_clauses : Int32) (t_newMany : Int32) (t_rounds : Int32) (t_pinFrom : Int32) (t_pinTimes : Int32) (t_lines : Int32) (t_wasTold : Int32) (t_wasBarred : Int32) (t_goesNow : Int32) (t_jamsNow : Int32) (t_queued : Int32) (t_isKept : Int32) (t_prongsOf : (Nat → Int32)) (t_wardsOf : (Nat → Int32)) : va_W := [(O_t, ob_X12 a_t t_toldDoors t_barredDoors t_taped t_place0 t_length0 t_fault t_number0 t_open t_codeMany t_waiting t_saidMany t_clauses t_newMany t_rounds t_pinFrom t_pinTimes t_lines t_wasTold t_wasBarred t_goesNow t_jamsNow t_queued t_isKept), (a_t 3, .inl (E.2.1, 6, .inl t_prongsOf)), (a_t 6, .inl (E.2.1, 24, .inl t_wardsOf))]
def L_X12_fitting_4 (t_prongsOf : (Nat → Int32)) (t_wardsOf : (Nat → Int32)) (x1 : Int32) : Nat → Int32 × Int32 → Option (Int32) := lp fun go s => if (6 : Int32) ≤ s.2 then (some s.1) else (f_X12_fits t_prongsOf t_wardsOf s.2 x1).bind fun u1 => if u1 = 0 then (nm (s.2 + (1 : Int32)) fun v2 => go (s.1, v2)) else nm (s.1 ||| ((1 : Int32) <<< (s.2 &&& 31))) fun v3 => nm (s.2 + (1 : Int32)) fun v4 => go (v3, v4)
def f_X12_fitting (t_prongsOf : (Nat → Int32)) (t_wardsOf : (Nat → Int32)) (x1 : Int32) : Option (Int32) := L_X12_fitting_4 t_prongsOf t_wardsOf x1 fu ((0 : Int32), (0 : Int32))
theorem dX12_fitting_0 : decode cX12_fitting 0 = .ok (.iconst 0, 1) := by decide +kernel
theorem dX12_fitting_1 : decode cX12_fitting 1 = .ok (.istore_n 2, 1) := by decide +kernel
theorem dX12_fitting_2 : decode cX12_fitting 2 = .ok (.iconst 0, 1) := by decide +kernel
theorem dX12_fitting_3 : decode cX12_fitting 3 = .ok (.istore_n 3, 1) := by decide +kernel
theorem dX12_fitting_4 : decode cX12_fitting 4 = .ok (.iload_n 3, 1) := by decide +kernel
theorem dX12_fitting_5 : decode cX12_fitting 5 = .ok (.bipush 6, 2) := by decide +kernel
theorem dX12_fitting_7 : decode cX12_fitting 7 = .ok (.if_icmp .ge 24, 3) := by decide +kernel
theorem dX12_fitting_10 : decode cX12_fitting 10 = .ok (.aload_n 0, 1) := by decide +kernel
theorem dX12_fitting_11 : decode cX12_fitting 11 = .ok (.iload_n 3, 1) := by decide +kernel
theorem dX12_fitting_12 : decode cX12_fitting 12 = .ok (.iload_n 1, 1) := by decide +kernel
theorem dX12_fitting_13 : decode cX12_fitting 13 = .ok (.invokevirtual 136, 3) := by decide +kernel
theorem dX12_fitting_16 : decode cX12_fitting 16 = .ok (.ifCond .eq 9, 3) := by decide +kernel
theorem dX12_fitting_19 : decode cX12_fitting 19 = .ok (.iload_n 2, 1) := by decide +kernel
theorem dX12_fitting_20 : decode cX12_fitting 20 = .ok (.iconst 1, 1) := by decide +kernel
theorem dX12_fitting_21 : decode cX12_fitting 21 = .ok (.iload_n 3, 1) := by decide +kernel
theorem dX12_fitting_22 : decode cX12_fitting 22 = .ok (.ishl, 1) := by decide +kernel
theorem dX12_fitting_23 : decode cX12_fitting 23 = .ok (.ior, 1) := by decide +kernel
theorem dX12_fitting_24 : decode cX12_fitting 24 = .ok (.istore_n 2, 1) := by decide +kernel
theorem dX12_fitting_25 : decode cX12_fitting 25 = .ok (.iinc 3 1, 3) := by decide +kernel
theorem dX12_fitting_28 : decode cX12_fitting 28 = .ok (.goto (-24), 3) := by decide +kernel
theorem dX12_fitting_31 : decode cX12_fitting 31 = .ok (.iload_n 2, 1) := by decide +kernel
theorem dX12_fitting_32 : decode cX12_fitting 32 = .ok (.ireturn, 1) := by decide +kernel
set_option maxHeartbeats 4000000 in
set_option maxRecDepth 100000 in
theorem kL_X12_fitting_4 {X : GC} {E : GE} (C : Cx X E cX12_fitting RX12 2 4) (o_t : Nat) (a_t : Nat → Nat) (t_toldDoors : Int32) (t_barredDoors : Int32) (t_taped : Int32) (t_place0 : Int32) (t_length0 : Int32) (t_fault : Int32) (t_number0 : Int32) (t_open : Int32) (t_codeMany : Int32) (t_waiting : Int32) (t_saidMany : Int32) (t_clauses : Int32) (t_newMany : Int32) (t_rounds : Int32) (t_pinFrom : Int32) (t_pinTimes : Int32) (t_lines : Int32) (t_wasTold : Int32) (t_wasBarred : Int32) (t_goesNow : Int32) (t_jamsNow : Int32) (t_queued : Int32) (t_isKept : Int32) (t_prongsOf : (Nat → Int32)) (t_wardsOf : (Nat → Int32)) (x1 : Int32) {r : Int32} (hret : RtI X E cX12_fitting .int 0 0 (fun w => w = (W_X12_fitting E o_t a_t t_toldDoors t_barredDoors t_taped t_place0 t_length0 t_fault t_number0 t_open t_codeMany t_waiting t_saidMany t_clauses t_newMany t_rounds t_pinFrom t_pinTimes t_lines t_wasTold t_wasBarred t_goesNow t_jamsNow t_queued t_isKept t_prongsOf t_wardsOf)) r) : ∀ (n : Nat) (s : Int32 × Int32), L_X12_fitting_4 t_prongsOf t_wardsOf x1 n s = some r → Gx X E 0 0 (W_X12_fitting E o_t a_t t_toldDoors t_barredDoors t_taped t_place0 t_length0 t_fault t_number0 t_open t_codeMany t_waiting t_saidMany t_clauses t_newMany t_rounds t_pinFrom t_pinTimes t_lines t_wasTold t_wasBarred t_goesNow t_jamsNow t_queued t_isKept t_prongsOf t_wardsOf) 4 [(0, .ref o_t), (1, .int x1), (2, .int s.1), (3, .int s.2)] [] := by
  unfold L_X12_fitting_4
  refine lp_ind _ (fun go ih s h => ?_)
  refine g_iload_n (pc := 4) C dX12_fitting_4 rfl 3 rfl ?_
  refine g_bipush (pc := 5) (v := 6) C dX12_fitting_5 (by decide) ?_
  refine g_icmp_ge (pc := 7) (tgt := 31) C dX12_fitting_7 (by decide) h (fun h => ?_) (fun h => ?_)
  · refine g_iload_n (pc := 31) C dX12_fitting_31 rfl 2 rfl ?_
    cases h
    exact hret _ _ _ dX12_fitting_32 rfl rfl
  · refine g_aload_n (pc := 10) C dX12_fitting_10 rfl 0 rfl ?_
    refine g_iload_n (pc := 11) C dX12_fitting_11 rfl 3 rfl ?_
    refine g_iload_n (pc := 12) C dX12_fitting_12 rfl 1 rfl ?_
    obtain ⟨u1, hu1, h⟩ := bs h
    refine g_callV (pc := 13) (st := []) (st1 := [.int u1]) (ws' := (W_X12_fitting E o_t a_t t_toldDoors t_barredDoors t_taped t_place0 t_length0 t_fault t_number0 t_open t_codeMany t_waiting t_saidMany t_clauses t_newMany t_rounds t_pinFrom t_pinTimes t_lines t_wasTold t_wasBarred t_goesNow t_jamsNow t_queued t_isKept t_prongsOf t_wardsOf)) C mv_X12_fits mi_X12_fits ml_X12_136 (c_X12_fits X.2.1 E o_t a_t t_toldDoors t_barredDoors t_taped t_place0 t_length0 t_fault t_number0 t_open t_codeMany t_waiting t_saidMany t_clauses t_newMany t_rounds t_pinFrom t_pinTimes t_lines t_wasTold t_wasBarred t_goesNow t_jamsNow t_queued t_isKept t_prongsOf t_wardsOf s.2 x1 u1 hu1) dX12_fitting_13 (by decide) rfl (Nat.le_of_ble_eq_true rfl) 0 11 rfl rfl [0, 1, 2] rfl (by decide) rfl rfl rfl rfl ?_
    refine g_if_eq (pc := 16) (tgt := 25) C dX12_fitting_16 (by decide) h (fun h => ?_) (fun h => ?_)
    · refine g_iincn (pc := 25) (j := 3) (d := 1) (lv' := fun v2 => [(3, .int v2), (0, .ref o_t), (1, .int x1), (2, .int s.1)]) C dX12_fitting_25 rfl (by decide) (by decide) (fun _ => rfl) h (fun v2 h => ?_)
      refine g_goto (pc := 28) (tgt := 4) C dX12_fitting_28 (by decide) ?_
      refine g_sub [1, 2, 3, 0] rfl ?_
      exact ih _ h
    · refine g_iload_n (pc := 19) C dX12_fitting_19 rfl 2 rfl ?_
      refine g_iconst (pc := 20) (v := 1) C dX12_fitting_20 (by decide) ?_
      refine g_iload_n (pc := 21) C dX12_fitting_21 rfl 3 rfl ?_
      refine g_ishl (pc := 22) C dX12_fitting_22 ?_
      refine g_ior (pc := 23) C dX12_fitting_23 ?_
      refine g_nm h (fun v3 h => ?_)
      refine g_istore_n (pc := 24) (lv' := [(2, .int v3), (0, .ref o_t), (1, .int x1), (3, .int s.2)]) C dX12_fitting_24 rfl (by decide) rfl ?_
      refine g_iincn (pc := 25) (j := 3) (d := 1) (lv' := fun v4 => [(3, .int v4), (2, .int v3), (0, .ref o_t), (1, .int x1)]) C dX12_fitting_25 rfl (by decide) (by decide) (fun _ => rfl) h (fun v4 h => ?_)
      refine g_goto (pc := 28) (tgt := 4) C dX12_fitting_28 (by decide) ?_
      refine g_sub [2, 3, 1, 0] rfl ?_
      exact ih _ h
set_option maxHeartbeats 4000000 in
set_option maxRecDepth 100000 in
theorem c_X12_fitting (l : Launch) (E : GE) (o_t : Nat) (a_t : Nat → Nat) (t_toldDoors : Int32) (t_barredDoors : Int32) (t_taped : Int32) (t_place0 : Int32) (t_length0 : Int32) (t_fault : Int32) (t_number0 : Int32) (t_open : Int32) (t_codeMany : Int32) (t_waiting : Int32) (t_saidMany : Int32) (t_clauses : Int32) (t_newMany : Int32) (t_rounds : Int32) (t_pinFrom : Int32) (t_pinTimes : Int32) (t_lines : Int32) (t_wasTold : Int32) (t_wasBarred : Int32) (t_goesNow : Int32) (t_jamsNow : Int32) (t_queued : Int32) (t_isKept : Int32) (t_prongsOf : (Nat → Int32)) (t_wardsOf : (Nat → Int32)) (x1 : Int32) (r : Int32) (h : f_X12_fitting t_prongsOf t_wardsOf x1 = some r) : Cn l E yX12_fitting cX12_fitting 4 (some .int) 2 0 0 [.ref o_t, .int x1] (W_X12_fitting E o_t a_t t_toldDoors t_barredDoors t_taped t_place0 t_length0 t_fault t_number0 t_open t_codeMany t_waiting t_saidMany t_clauses t_newMany t_rounds t_pinFrom t_pinTimes t_lines t_wasTold t_wasBarred t_goesNow t_jamsNow t_queued t_isKept t_prongsOf t_wardsOf) (fun w => w = (W_X12_fitting E o_t a_t t_toldDoors t_barredDoors t_taped t_place0 t_length0 t_fault t_number0 t_open t_codeMany t_waiting t_saidMany t_clauses t_newMany t_rounds t_pinFrom t_pinTimes t_lines t_wasTold t_wasBarred t_goesNow t_jamsNow t_queued t_isKept t_prongsOf t_wardsOf)) (some (.int r)) := by
  refine Cn.ofI (by decide +kernel) (Nat.le_of_ble_eq_true rfl) (fun X hX hR C hret => ?_)
  subst hX
  show Gx X E 0 0 (W_X12_fitting E o_t a_t t_toldDoors t_barredDoors t_taped t_place0 t_length0 t_fault t_number0 t_open t_codeMany t_waiting t_saidMany t_clauses t_newMany t_rounds t_pinFrom t_pinTimes t_lines t_wasTold t_wasBarred t_goesNow t_jamsNow t_queued t_isKept t_prongsOf t_wardsOf) 0 [(0, .ref o_t), (1, .int x1)] []
  unfold f_X12_fitting at h
  refine g_iconst (pc := 0) (v := 0) C dX12_fitting_0 (by decide) ?_
  refine g_istore_n (pc := 1) (lv' := [(2, .int (0 : Int32)), (0, .ref o_t), (1, .int x1)]) C dX12_fitting_1 rfl (by decide) rfl ?_
  refine g_iconst (pc := 2) (v := 0) C dX12_fitting_2 (by decide) ?_
  refine g_istore_n (pc := 3) (lv' := [(3, .int (0 : Int32)), (2, .int (0 : Int32)), (0, .ref o_t), (1, .int x1)]) C dX12_fitting_3 rfl (by decide) rfl ?_
  refine g_sub [2, 3, 1, 0] rfl ?_
  refine kL_X12_fitting_4 C o_t a_t t_toldDoors t_barredDoors t_taped t_place0 t_length0 t_fault t_number0 t_open t_codeMany t_waiting t_saidMany t_clauses t_newMany t_rounds t_pinFrom t_pinTimes t_lines t_wasTold t_wasBarred t_goesNow t_jamsNow t_queued t_isKept t_prongsOf t_wardsOf x1 hret  _ _ h
abbrev W_X12_goesOn (E : GE) (O_t : Nat) (a_t : Nat → Nat) (t_toldDoors : Int32) (t_barredDoors : Int32) (t_taped : Int32) (t_place0 : Int32) (t_length0 : Int32) (t_fault : Int32) (t_number0 : Int32) (t_open : Int32) (t_codeMany : Int32) (t_waiting : Int32) (t_saidMany : Int32) (t_clauses : Int32) (t_newMany : Int32) (t_rounds : Int32) (t_pinFrom : Int32) (t_pinTimes : Int32) (t_lines : Int32) (t_wasTold : Int32) (t_wasBarred : Int32) (t_goesNow : Int32) (t_jamsNow : Int32) (t_queued : Int32) (t_isKept : Int32) (t_oneOf : (Nat → Int32)) (t_otherOf : (Nat → Int32)) (t_stepsTo : (Nat → Int32)) (t_firstBy : (Nat → Int32)) (t_queue : (Nat → Int32)) : va_W := [(O_t, ob_X12 a_t t_toldDoors t_barredDoors t_taped t_place0 t_length0 t_fault t_number0 t_open t_codeMany t_waiting t_saidMany t_clauses t_newMany t_rounds t_pinFrom t_pinTimes t_lines t_wasTold t_wasBarred t_goesNow t_jamsNow t_queued t_isKept), (a_t 4, .inl (E.2.1, 24, .inl t_oneOf)), (a_t 5, .inl (E.2.1, 24, .inl t_otherOf)), (a_t 50, .inl (E.2.2.1, 1882384, .inl t_stepsTo)), (a_t 51, .inl (E.2.2.1, 1882384, .inl t_firstBy)), (a_t 52, .inl (E.2.1, 15000, .inl t_queue))]
def f_X12_goesOn (t_queued : Int32) (t_oneOf : (Nat → Int32)) (t_otherOf : (Nat → Int32)) (t_stepsTo : (Nat → Int32)) (t_firstBy : (Nat → Int32)) (t_queue : (Nat → Int32)) (x1 : Int32) (x2 : Int32) (x3 : Int32) (x4 : Int32) : Option (Int32 × (Nat → Int32) × (Nat → Int32) × (Nat → Int32)) := dv x2 (117649 : Int32) fun v1 => (f_X12_behind t_oneOf t_otherOf x3 v1).bind fun u2 => rm x2 (117649 : Int32) fun v3 => (f_X12_sevenTo x4).bind fun u4 => nm ((((117649 : Int32) * u2) + v3) + u4) fun v5 => rd t_stepsTo 1882384 v5 fun v6 => if v6 = 0 then (rd t_stepsTo 1882384 x2 fun v7 => wr t_stepsTo 1882384 v5 (vp_nar .byte ((v7 + (1 : Int32))).toInt8.toInt32) fun g8 => rd g8 1882384 x2 fun v9 => jn (fun s10 : Int32 => wr t_firstBy 1882384 v5 (vp_nar .byte s10) fun g11 => wr t_queue 15000 t_queued v5 fun g12 => nm (t_queued + (1 : Int32)) fun v13 => some (v13, g8, g11, g12)) fun j86 => if v9 = (1 : Int32) then (j86 (x3).toInt8.toInt32) else rd t_firstBy 1882384 x2 fun v14 => j86 v14) else some (t_queued, t_stepsTo, t_firstBy, t_queue)
theorem dX12_goesOn_0 : decode cX12_goesOn 0 = .ok (.aload_n 0, 1) := by decide +kernel
theorem dX12_goesOn_1 : decode cX12_goesOn 1 = .ok (.iload_n 3, 1) := by decide +kernel
theorem dX12_goesOn_2 : decode cX12_goesOn 2 = .ok (.iload_n 2, 1) := by decide +kernel
theorem dX12_goesOn_3 : decode cX12_goesOn 3 = .ok (.ldc_w 363, 3) := by decide +kernel
theorem dX12_goesOn_6 : decode cX12_goesOn 6 = .ok (.idiv, 1) := by decide +kernel
theorem dX12_goesOn_7 : decode cX12_goesOn 7 = .ok (.invokevirtual 317, 3) := by decide +kernel
theorem dX12_goesOn_10 : decode cX12_goesOn 10 = .ok (.istore 5, 2) := by decide +kernel
theorem dX12_goesOn_12 : decode cX12_goesOn 12 = .ok (.ldc_w 363, 3) := by decide +kernel
theorem dX12_goesOn_15 : decode cX12_goesOn 15 = .ok (.iload 5, 2) := by decide +kernel
theorem dX12_goesOn_17 : decode cX12_goesOn 17 = .ok (.imul, 1) := by decide +kernel
theorem dX12_goesOn_18 : decode cX12_goesOn 18 = .ok (.iload_n 2, 1) := by decide +kernel
theorem dX12_goesOn_19 : decode cX12_goesOn 19 = .ok (.ldc_w 363, 3) := by decide +kernel
theorem dX12_goesOn_22 : decode cX12_goesOn 22 = .ok (.irem, 1) := by decide +kernel
theorem dX12_goesOn_23 : decode cX12_goesOn 23 = .ok (.iadd, 1) := by decide +kernel
theorem dX12_goesOn_24 : decode cX12_goesOn 24 = .ok (.iload 4, 2) := by decide +kernel
theorem dX12_goesOn_26 : decode cX12_goesOn 26 = .ok (.invokestatic 364, 3) := by decide +kernel
theorem dX12_goesOn_29 : decode cX12_goesOn 29 = .ok (.iadd, 1) := by decide +kernel
theorem dX12_goesOn_30 : decode cX12_goesOn 30 = .ok (.istore 6, 2) := by decide +kernel
theorem dX12_goesOn_32 : decode cX12_goesOn 32 = .ok (.aload_n 0, 1) := by decide +kernel
theorem dX12_goesOn_33 : decode cX12_goesOn 33 = .ok (.getfield 99, 3) := by decide +kernel
theorem dX12_goesOn_36 : decode cX12_goesOn 36 = .ok (.iload 6, 2) := by decide +kernel
theorem dX12_goesOn_38 : decode cX12_goesOn 38 = .ok (.baload, 1) := by decide +kernel
theorem dX12_goesOn_39 : decode cX12_goesOn 39 = .ok (.ifCond .eq 4, 3) := by decide +kernel
theorem dX12_goesOn_42 : decode cX12_goesOn 42 = .ok (.return_, 1) := by decide +kernel
theorem dX12_goesOn_43 : decode cX12_goesOn 43 = .ok (.aload_n 0, 1) := by decide +kernel
theorem dX12_goesOn_44 : decode cX12_goesOn 44 = .ok (.getfield 99, 3) := by decide +kernel
theorem dX12_goesOn_47 : decode cX12_goesOn 47 = .ok (.iload 6, 2) := by decide +kernel
theorem dX12_goesOn_49 : decode cX12_goesOn 49 = .ok (.aload_n 0, 1) := by decide +kernel
theorem dX12_goesOn_50 : decode cX12_goesOn 50 = .ok (.getfield 99, 3) := by decide +kernel
theorem dX12_goesOn_53 : decode cX12_goesOn 53 = .ok (.iload_n 2, 1) := by decide +kernel
theorem dX12_goesOn_54 : decode cX12_goesOn 54 = .ok (.baload, 1) := by decide +kernel
theorem dX12_goesOn_55 : decode cX12_goesOn 55 = .ok (.iconst 1, 1) := by decide +kernel
theorem dX12_goesOn_56 : decode cX12_goesOn 56 = .ok (.iadd, 1) := by decide +kernel
theorem dX12_goesOn_57 : decode cX12_goesOn 57 = .ok (.i2b, 1) := by decide +kernel
theorem dX12_goesOn_58 : decode cX12_goesOn 58 = .ok (.bastore, 1) := by decide +kernel
theorem dX12_goesOn_59 : decode cX12_goesOn 59 = .ok (.aload_n 0, 1) := by decide +kernel
theorem dX12_goesOn_60 : decode cX12_goesOn 60 = .ok (.getfield 102, 3) := by decide +kernel
theorem dX12_goesOn_63 : decode cX12_goesOn 63 = .ok (.iload 6, 2) := by decide +kernel
theorem dX12_goesOn_65 : decode cX12_goesOn 65 = .ok (.aload_n 0, 1) := by decide +kernel
theorem dX12_goesOn_66 : decode cX12_goesOn 66 = .ok (.getfield 99, 3) := by decide +kernel
theorem dX12_goesOn_69 : decode cX12_goesOn 69 = .ok (.iload_n 2, 1) := by decide +kernel
theorem dX12_goesOn_70 : decode cX12_goesOn 70 = .ok (.baload, 1) := by decide +kernel
theorem dX12_goesOn_71 : decode cX12_goesOn 71 = .ok (.iconst 1, 1) := by decide +kernel
theorem dX12_goesOn_72 : decode cX12_goesOn 72 = .ok (.if_icmp .ne 8, 3) := by decide +kernel
theorem dX12_goesOn_75 : decode cX12_goesOn 75 = .ok (.iload_n 3, 1) := by decide +kernel
theorem dX12_goesOn_76 : decode cX12_goesOn 76 = .ok (.i2b, 1) := by decide +kernel
theorem dX12_goesOn_77 : decode cX12_goesOn 77 = .ok (.goto 9, 3) := by decide +kernel
theorem dX12_goesOn_80 : decode cX12_goesOn 80 = .ok (.aload_n 0, 1) := by decide +kernel
theorem dX12_goesOn_81 : decode cX12_goesOn 81 = .ok (.getfield 102, 3) := by decide +kernel
theorem dX12_goesOn_84 : decode cX12_goesOn 84 = .ok (.iload_n 2, 1) := by decide +kernel
theorem dX12_goesOn_85 : decode cX12_goesOn 85 = .ok (.baload, 1) := by decide +kernel
theorem dX12_goesOn_86 : decode cX12_goesOn 86 = .ok (.bastore, 1) := by decide +kernel
theorem dX12_goesOn_87 : decode cX12_goesOn 87 = .ok (.aload_n 0, 1) := by decide +kernel
theorem dX12_goesOn_88 : decode cX12_goesOn 88 = .ok (.getfield 105, 3) := by decide +kernel
theorem dX12_goesOn_91 : decode cX12_goesOn 91 = .ok (.aload_n 0, 1) := by decide +kernel
theorem dX12_goesOn_92 : decode cX12_goesOn 92 = .ok (.getfield 367, 3) := by decide +kernel
theorem dX12_goesOn_95 : decode cX12_goesOn 95 = .ok (.iload 6, 2) := by decide +kernel
theorem dX12_goesOn_97 : decode cX12_goesOn 97 = .ok (.iastore, 1) := by decide +kernel
theorem dX12_goesOn_98 : decode cX12_goesOn 98 = .ok (.aload_n 0, 1) := by decide +kernel
theorem dX12_goesOn_99 : decode cX12_goesOn 99 = .ok (.aload_n 0, 1) := by decide +kernel
theorem dX12_goesOn_100 : decode cX12_goesOn 100 = .ok (.getfield 367, 3) := by decide +kernel
theorem dX12_goesOn_103 : decode cX12_goesOn 103 = .ok (.iconst 1, 1) := by decide +kernel
theorem dX12_goesOn_104 : decode cX12_goesOn 104 = .ok (.iadd, 1) := by decide +kernel
theorem dX12_goesOn_105 : decode cX12_goesOn 105 = .ok (.putfield 367, 3) := by decide +kernel
theorem dX12_goesOn_108 : decode cX12_goesOn 108 = .ok (.return_, 1) := by decide +kernel
set_option maxHeartbeats 4000000 in
set_option maxRecDepth 100000 in
theorem c_X12_goesOn (l : Launch) (E : GE) (o_t : Nat) (a_t : Nat → Nat) (t_toldDoors : Int32) (t_barredDoors : Int32) (t_taped : Int32) (t_place0 : Int32) (t_length0 : Int32) (t_fault : Int32) (t_number0 : Int32) (t_open : Int32) (t_codeMany : Int32) (t_waiting : Int32) (t_saidMany : Int32) (t_clauses : Int32) (t_newMany : Int32) (t_rounds : Int32) (t_pinFrom : Int32) (t_pinTimes : Int32) (t_lines : Int32) (t_wasTold : Int32) (t_wasBarred : Int32) (t_goesNow : Int32) (t_jamsNow : Int32) (t_queued : Int32) (t_isKept : Int32) (t_oneOf : (Nat → Int32)) (t_otherOf : (Nat → Int32)) (t_stepsTo : (Nat → Int32)) (t_firstBy : (Nat → Int32)) (t_queue : (Nat → Int32)) (x1 : Int32) (x2 : Int32) (x3 : Int32) (x4 : Int32) (r : Int32 × (Nat → Int32) × (Nat → Int32) × (Nat → Int32)) (h : f_X12_goesOn t_queued t_oneOf t_otherOf t_stepsTo t_firstBy t_queue x1 x2 x3 x4 = some r) : Cn l E yX12_goesOn cX12_goesOn 7 none 2 0 0 [.ref o_t, .int x1, .int x2, .int x3, .int x4] (W_X12_goesOn E o_t a_t t_toldDoors t_barredDoors t_taped t_place0 t_length0 t_fault t_number0 t_open t_codeMany t_waiting t_saidMany t_clauses t_newMany t_rounds t_pinFrom t_pinTimes t_lines t_wasTold t_wasBarred t_goesNow t_jamsNow t_queued t_isKept t_oneOf t_otherOf t_stepsTo t_firstBy t_queue) (fun w => w = (W_X12_goesOn E o_t a_t t_toldDoors t_barredDoors t_taped t_place0 t_length0 t_fault t_number0 t_open t_codeMany t_waiting t_saidMany t_clauses t_newMany t_rounds t_pinFrom t_pinTimes t_lines t_wasTold t_wasBarred t_goesNow t_jamsNow r.1 t_isKept t_oneOf t_otherOf r.2.1 r.2.2.1 r.2.2.2)) none := by
  refine Cn.ofV (by decide +kernel) (Nat.le_of_ble_eq_true rfl) (fun X hX hR C hret => ?_)
  subst hX
  show Gx X E 0 0 (W_X12_goesOn E o_t a_t t_toldDoors t_barredDoors t_taped t_place0 t_length0 t_fault t_number0 t_open t_codeMany t_waiting t_saidMany t_clauses t_newMany t_rounds t_pinFrom t_pinTimes t_lines t_wasTold t_wasBarred t_goesNow t_jamsNow t_queued t_isKept t_oneOf t_otherOf t_stepsTo t_firstBy t_queue) 0 [(0, .ref o_t), (1, .int x1), (2, .int x2), (3, .int x3), (4, .int x4)] []
  unfold f_X12_goesOn at h
  refine g_aload_n (pc := 0) C dX12_goesOn_0 rfl 0 rfl ?_
  refine g_iload_n (pc := 1) C dX12_goesOn_1 rfl 3 rfl ?_
  refine g_iload_n (pc := 2) C dX12_goesOn_2 rfl 2 rfl ?_
  refine g_ldcw (pc := 3) C dX12_goesOn_3 ct_X12_363 ?_
  refine g_idiv (pc := 6) C dX12_goesOn_6 h (fun v1 h => ?_)
  obtain ⟨u2, hu2, h⟩ := bs h
  refine g_callV (pc := 7) (st := []) (st1 := [.int u2]) (ws' := (W_X12_goesOn E o_t a_t t_toldDoors t_barredDoors t_taped t_place0 t_length0 t_fault t_number0 t_open t_codeMany t_waiting t_saidMany t_clauses t_newMany t_rounds t_pinFrom t_pinTimes t_lines t_wasTold t_wasBarred t_goesNow t_jamsNow t_queued t_isKept t_oneOf t_otherOf t_stepsTo t_firstBy t_queue)) C mv_X12_behind mi_X12_behind ml_X12_317 (c_X12_behind X.2.1 E o_t a_t t_toldDoors t_barredDoors t_taped t_place0 t_length0 t_fault t_number0 t_open t_codeMany t_waiting t_saidMany t_clauses t_newMany t_rounds t_pinFrom t_pinTimes t_lines t_wasTold t_wasBarred t_goesNow t_jamsNow t_queued t_isKept t_oneOf t_otherOf x3 v1 u2 hu2) dX12_goesOn_7 (by decide) rfl (Nat.le_of_ble_eq_true rfl) 0 11 rfl rfl [0, 1, 2] rfl (by decide) rfl rfl rfl rfl ?_
  refine g_istore (pc := 10) (lv' := [(5, .int u2), (0, .ref o_t), (1, .int x1), (2, .int x2), (3, .int x3), (4, .int x4)]) C dX12_goesOn_10 (by decide) rfl ?_
  refine g_ldcw (pc := 12) C dX12_goesOn_12 ct_X12_363 ?_
  refine g_iload (pc := 15) C dX12_goesOn_15 0 rfl ?_
  refine g_imul (pc := 17) C dX12_goesOn_17 ?_
  refine g_iload_n (pc := 18) C dX12_goesOn_18 rfl 3 rfl ?_
  refine g_ldcw (pc := 19) C dX12_goesOn_19 ct_X12_363 ?_
  refine g_irem (pc := 22) C dX12_goesOn_22 h (fun v3 h => ?_)
  refine g_iadd (pc := 23) C dX12_goesOn_23 ?_
  refine g_iload (pc := 24) C dX12_goesOn_24 5 rfl ?_
  obtain ⟨u4, hu4, h⟩ := bs h
  refine g_callS (pc := 26) (st := [.int (((117649 : Int32) * u2) + v3)]) (st1 := [.int u4, .int (((117649 : Int32) * u2) + v3)]) (ws' := (W_X12_goesOn E o_t a_t t_toldDoors t_barredDoors t_taped t_place0 t_length0 t_fault t_number0 t_open t_codeMany t_waiting t_saidMany t_clauses t_newMany t_rounds t_pinFrom t_pinTimes t_lines t_wasTold t_wasBarred t_goesNow t_jamsNow t_queued t_isKept t_oneOf t_otherOf t_stepsTo t_firstBy t_queue)) C mv_X12_sevenTo ms_X12_sevenTo ml_X12_364 (c_X12_sevenTo X.2.1 E x4 u4 hu4) dX12_goesOn_26 (by decide) rfl (Nat.le_of_ble_eq_true rfl) [] rfl (by decide) rfl rfl rfl rfl ?_
  refine g_iadd (pc := 29) C dX12_goesOn_29 ?_
  refine g_nm h (fun v5 h => ?_)
  refine g_istore (pc := 30) (lv' := [(6, .int v5), (5, .int u2), (0, .ref o_t), (1, .int x1), (2, .int x2), (3, .int x3), (4, .int x4)]) C dX12_goesOn_30 (by decide) rfl ?_
  refine g_aload_n (pc := 32) C dX12_goesOn_32 rfl 2 rfl ?_
  refine g_get (pc := 33) C fl_X12_99 dX12_goesOn_33 0 rfl rfl ?_
  refine g_iload (pc := 36) C dX12_goesOn_36 0 rfl ?_
  refine g_bald (pc := 38) C dX12_goesOn_38 3 rfl h (fun v6 h => ?_)
  refine g_if_eq (pc := 39) (tgt := 43) C dX12_goesOn_39 (by decide) h (fun h => ?_) (fun h => ?_)
  · refine g_aload_n (pc := 43) C dX12_goesOn_43 rfl 2 rfl ?_
    refine g_get (pc := 44) C fl_X12_99 dX12_goesOn_44 0 rfl rfl ?_
    refine g_iload (pc := 47) C dX12_goesOn_47 0 rfl ?_
    refine g_aload_n (pc := 49) C dX12_goesOn_49 rfl 2 rfl ?_
    refine g_get (pc := 50) C fl_X12_99 dX12_goesOn_50 0 rfl rfl ?_
    refine g_iload_n (pc := 53) C dX12_goesOn_53 rfl 4 rfl ?_
    refine g_bald (pc := 54) C dX12_goesOn_54 3 rfl h (fun v7 h => ?_)
    refine g_iconst (pc := 55) (v := 1) C dX12_goesOn_55 (by decide) ?_
    refine g_iadd (pc := 56) C dX12_goesOn_56 ?_
    refine g_i2b (pc := 57) C dX12_goesOn_57 ?_
    refine g_bast (pc := 58) C dX12_goesOn_58 3 rfl h (fun g8 h => ?_)
    refine g_ws (ws' := (W_X12_goesOn E o_t a_t t_toldDoors t_barredDoors t_taped t_place0 t_length0 t_fault t_number0 t_open t_codeMany t_waiting t_saidMany t_clauses t_newMany t_rounds t_pinFrom t_pinTimes t_lines t_wasTold t_wasBarred t_goesNow t_jamsNow t_queued t_isKept t_oneOf t_otherOf g8 t_firstBy t_queue)) rfl ?_
    refine g_aload_n (pc := 59) C dX12_goesOn_59 rfl 2 rfl ?_
    refine g_get (pc := 60) C fl_X12_102 dX12_goesOn_60 0 rfl rfl ?_
    refine g_iload (pc := 63) C dX12_goesOn_63 0 rfl ?_
    refine g_aload_n (pc := 65) C dX12_goesOn_65 rfl 2 rfl ?_
    refine g_get (pc := 66) C fl_X12_99 dX12_goesOn_66 0 rfl rfl ?_
    refine g_iload_n (pc := 69) C dX12_goesOn_69 rfl 4 rfl ?_
    refine g_bald (pc := 70) C dX12_goesOn_70 3 rfl h (fun v9 h => ?_)
    refine g_iconst (pc := 71) (v := 1) C dX12_goesOn_71 (by decide) ?_
    refine g_jn (fun s10 : Int32 => Gx X E 0 0 (W_X12_goesOn E o_t a_t t_toldDoors t_barredDoors t_taped t_place0 t_length0 t_fault t_number0 t_open t_codeMany t_waiting t_saidMany t_clauses t_newMany t_rounds t_pinFrom t_pinTimes t_lines t_wasTold t_wasBarred t_goesNow t_jamsNow t_queued t_isKept t_oneOf t_otherOf g8 t_firstBy t_queue) 86 [(0, .ref o_t), (6, .int v5)] [.int s10, .int v5, .ref (a_t 51)]) h (fun s10 h => ?_) (fun j86 hj86 h => ?_)
    · refine g_bast (pc := 86) C dX12_goesOn_86 4 rfl h (fun g11 h => ?_)
      refine g_ws (ws' := (W_X12_goesOn E o_t a_t t_toldDoors t_barredDoors t_taped t_place0 t_length0 t_fault t_number0 t_open t_codeMany t_waiting t_saidMany t_clauses t_newMany t_rounds t_pinFrom t_pinTimes t_lines t_wasTold t_wasBarred t_goesNow t_jamsNow t_queued t_isKept t_oneOf t_otherOf g8 g11 t_queue)) rfl ?_
      refine g_aload_n (pc := 87) C dX12_goesOn_87 rfl 0 rfl ?_
      refine g_get (pc := 88) C fl_X12_105 dX12_goesOn_88 0 rfl rfl ?_
      refine g_aload_n (pc := 91) C dX12_goesOn_91 rfl 0 rfl ?_
      refine g_get (pc := 92) C fl_X12_367 dX12_goesOn_92 0 rfl rfl ?_
      refine g_iload (pc := 95) C dX12_goesOn_95 1 rfl ?_
      refine g_iast (pc := 97) C dX12_goesOn_97 5 rfl h (fun g12 h => ?_)
      refine g_ws (ws' := (W_X12_goesOn E o_t a_t t_toldDoors t_barredDoors t_taped t_place0 t_length0 t_fault t_number0 t_open t_codeMany t_waiting t_saidMany t_clauses t_newMany t_rounds t_pinFrom t_pinTimes t_lines t_wasTold t_wasBarred t_goesNow t_jamsNow t_queued t_isKept t_oneOf t_otherOf g8 g11 g12)) rfl ?_
      refine g_aload_n (pc := 98) C dX12_goesOn_98 rfl 0 rfl ?_
      refine g_aload_n (pc := 99) C dX12_goesOn_99 rfl 0 rfl ?_
      refine g_get (pc := 100) C fl_X12_367 dX12_goesOn_100 0 rfl rfl ?_
      refine g_iconst (pc := 103) (v := 1) C dX12_goesOn_103 (by decide) ?_
      refine g_iadd (pc := 104) C dX12_goesOn_104 ?_
      refine g_nm h (fun v13 h => ?_)
      refine g_put (pc := 105) (ws' := (W_X12_goesOn E o_t a_t t_toldDoors t_barredDoors t_taped t_place0 t_length0 t_fault t_number0 t_open t_codeMany t_waiting t_saidMany t_clauses t_newMany t_rounds t_pinFrom t_pinTimes t_lines t_wasTold t_wasBarred t_goesNow t_jamsNow v13 t_isKept t_oneOf t_otherOf g8 g11 g12)) C .int fl_X12_367 dX12_goesOn_105 0 rfl (by decide +kernel) rfl rfl (Nat.le_of_ble_eq_true rfl) rfl ?_
      cases h
      exact hret _ _ _ dX12_goesOn_108 rfl
    refine g_icmp_ne (pc := 72) (tgt := 80) C dX12_goesOn_72 (by decide) h (fun h => ?_) (fun h => ?_)
    · refine g_aload_n (pc := 80) C dX12_goesOn_80 rfl 2 rfl ?_
      refine g_get (pc := 81) C fl_X12_102 dX12_goesOn_81 0 rfl rfl ?_
      refine g_iload_n (pc := 84) C dX12_goesOn_84 rfl 4 rfl ?_
      refine g_bald (pc := 85) C dX12_goesOn_85 4 rfl h (fun v14 h => ?_)
      refine g_sub [2, 0] rfl ?_
      exact hj86 _ h
    · refine g_iload_n (pc := 75) C dX12_goesOn_75 rfl 5 rfl ?_
      refine g_i2b (pc := 76) C dX12_goesOn_76 ?_
      refine g_goto (pc := 77) (tgt := 86) C dX12_goesOn_77 (by decide) ?_
      refine g_sub [2, 0] rfl ?_
      exact hj86 _ h
  · cases h
    exact hret _ _ _ dX12_goesOn_42 rfl
abbrev W_X12_isDigit (E : GE) (O_t : Nat) (a_t : Nat → Nat) (t_toldDoors : Int32) (t_barredDoors : Int32) (t_taped : Int32) (t_place0 : Int32) (t_length0 : Int32) (t_fault : Int32) (t_number0 : Int32) (t_open : Int32) (t_codeMany : Int32) (t_waiting : Int32) (t_saidMany : Int32) (t_clauses : Int32) (t_newMany : Int32) (t_rounds : Int32) (t_pinFrom : Int32) (t_pinTimes : Int32) (t_lines : Int32) (t_wasTold : Int32) (t_wasBarred : Int32) (t_goesNow : Int32) (t_jamsNow : Int32) (t_queued : Int32) (t_isKept : Int32) (t_tape : (Nat → Int32)) : va_W := [(O_t, ob_X12 a_t t_toldDoors t_barredDoors t_taped t_place0 t_length0 t_fault t_number0 t_open t_codeMany t_waiting t_saidMany t_clauses t_newMany t_rounds t_pinFrom t_pinTimes t_lines t_wasTold t_wasBarred t_goesNow t_jamsNow t_queued t_isKept), (a_t 13, .inl (E.2.2.1, 260, .inl t_tape))]
def f_X12_isDigit (t_place0 : Int32) (t_length0 : Int32) (t_tape : (Nat → Int32)) : Option (Int32) := (f_X12_here t_place0 t_length0 t_tape).bind fun u1 => if u1 < (48 : Int32) then (some (0 : Int32)) else (f_X12_here t_place0 t_length0 t_tape).bind fun u2 => if (57 : Int32) < u2 then (some (0 : Int32)) else some (1 : Int32)
theorem dX12_isDigit_0 : decode cX12_isDigit 0 = .ok (.aload_n 0, 1) := by decide +kernel
theorem dX12_isDigit_1 : decode cX12_isDigit 1 = .ok (.invokevirtual 152, 3) := by decide +kernel
theorem dX12_isDigit_4 : decode cX12_isDigit 4 = .ok (.bipush 48, 2) := by decide +kernel
theorem dX12_isDigit_6 : decode cX12_isDigit 6 = .ok (.if_icmp .lt 16, 3) := by decide +kernel
theorem dX12_isDigit_9 : decode cX12_isDigit 9 = .ok (.aload_n 0, 1) := by decide +kernel
theorem dX12_isDigit_10 : decode cX12_isDigit 10 = .ok (.invokevirtual 152, 3) := by decide +kernel
theorem dX12_isDigit_13 : decode cX12_isDigit 13 = .ok (.bipush 57, 2) := by decide +kernel
theorem dX12_isDigit_15 : decode cX12_isDigit 15 = .ok (.if_icmp .gt 7, 3) := by decide +kernel
theorem dX12_isDigit_18 : decode cX12_isDigit 18 = .ok (.iconst 1, 1) := by decide +kernel
theorem dX12_isDigit_19 : decode cX12_isDigit 19 = .ok (.goto 4, 3) := by decide +kernel
theorem dX12_isDigit_22 : decode cX12_isDigit 22 = .ok (.iconst 0, 1) := by decide +kernel
theorem dX12_isDigit_23 : decode cX12_isDigit 23 = .ok (.ireturn, 1) := by decide +kernel
set_option maxHeartbeats 4000000 in
set_option maxRecDepth 100000 in
theorem c_X12_isDigit (l : Launch) (E : GE) (o_t : Nat) (a_t : Nat → Nat) (t_toldDoors : Int32) (t_barredDoors : Int32) (t_taped : Int32) (t_place0 : Int32) (t_length0 : Int32) (t_fault : Int32) (t_number0 : Int32) (t_open : Int32) (t_codeMany : Int32) (t_waiting : Int32) (t_saidMany : Int32) (t_clauses : Int32) (t_newMany : Int32) (t_rounds : Int32) (t_pinFrom : Int32) (t_pinTimes : Int32) (t_lines : Int32) (t_wasTold : Int32) (t_wasBarred : Int32) (t_goesNow : Int32) (t_jamsNow : Int32) (t_queued : Int32) (t_isKept : Int32) (t_tape : (Nat → Int32)) (r : Int32) (h : f_X12_isDigit t_place0 t_length0 t_tape = some r) : Cn l E yX12_isDigit cX12_isDigit 1 (some .boolean) 2 0 0 [.ref o_t] (W_X12_isDigit E o_t a_t t_toldDoors t_barredDoors t_taped t_place0 t_length0 t_fault t_number0 t_open t_codeMany t_waiting t_saidMany t_clauses t_newMany t_rounds t_pinFrom t_pinTimes t_lines t_wasTold t_wasBarred t_goesNow t_jamsNow t_queued t_isKept t_tape) (fun w => w = (W_X12_isDigit E o_t a_t t_toldDoors t_barredDoors t_taped t_place0 t_length0 t_fault t_number0 t_open t_codeMany t_waiting t_saidMany t_clauses t_newMany t_rounds t_pinFrom t_pinTimes t_lines t_wasTold t_wasBarred t_goesNow t_jamsNow t_queued t_isKept t_tape)) (some (.int r)) := by
  refine Cn.ofI (by decide +kernel) (Nat.le_of_ble_eq_true rfl) (fun X hX hR C hret => ?_)
  subst hX
  show Gx X E 0 0 (W_X12_isDigit E o_t a_t t_toldDoors t_barredDoors t_taped t_place0 t_length0 t_fault t_number0 t_open t_codeMany t_waiting t_saidMany t_clauses t_newMany t_rounds t_pinFrom t_pinTimes t_lines t_wasTold t_wasBarred t_goesNow t_jamsNow t_queued t_isKept t_tape) 0 [(0, .ref o_t)] []
  unfold f_X12_isDigit at h
  refine g_aload_n (pc := 0) C dX12_isDigit_0 rfl 0 rfl ?_
  obtain ⟨u1, hu1, h⟩ := bs h
  refine g_callV (pc := 1) (st := []) (st1 := [.int u1]) (ws' := (W_X12_isDigit E o_t a_t t_toldDoors t_barredDoors t_taped t_place0 t_length0 t_fault t_number0 t_open t_codeMany t_waiting t_saidMany t_clauses t_newMany t_rounds t_pinFrom t_pinTimes t_lines t_wasTold t_wasBarred t_goesNow t_jamsNow t_queued t_isKept t_tape)) C mv_X12_here mi_X12_here ml_X12_152 (c_X12_here X.2.1 E o_t a_t t_toldDoors t_barredDoors t_taped t_place0 t_length0 t_fault t_number0 t_open t_codeMany t_waiting t_saidMany t_clauses t_newMany t_rounds t_pinFrom t_pinTimes t_lines t_wasTold t_wasBarred t_goesNow t_jamsNow t_queued t_isKept t_tape u1 hu1) dX12_isDigit_1 (by decide) rfl (Nat.le_of_ble_eq_true rfl) 0 11 rfl rfl [0, 1] rfl (by decide) rfl rfl rfl rfl ?_
  refine g_bipush (pc := 4) (v := 48) C dX12_isDigit_4 (by decide) ?_
  refine g_icmp_lt (pc := 6) (tgt := 22) C dX12_isDigit_6 (by decide) h (fun h => ?_) (fun h => ?_)
  · refine g_iconst (pc := 22) (v := 0) C dX12_isDigit_22 (by decide) ?_
    cases h
    exact hret _ _ _ dX12_isDigit_23 nb0 rfl
  · refine g_aload_n (pc := 9) C dX12_isDigit_9 rfl 0 rfl ?_
    obtain ⟨u2, hu2, h⟩ := bs h
    refine g_callV (pc := 10) (st := []) (st1 := [.int u2]) (ws' := (W_X12_isDigit E o_t a_t t_toldDoors t_barredDoors t_taped t_place0 t_length0 t_fault t_number0 t_open t_codeMany t_waiting t_saidMany t_clauses t_newMany t_rounds t_pinFrom t_pinTimes t_lines t_wasTold t_wasBarred t_goesNow t_jamsNow t_queued t_isKept t_tape)) C mv_X12_here mi_X12_here ml_X12_152 (c_X12_here X.2.1 E o_t a_t t_toldDoors t_barredDoors t_taped t_place0 t_length0 t_fault t_number0 t_open t_codeMany t_waiting t_saidMany t_clauses t_newMany t_rounds t_pinFrom t_pinTimes t_lines t_wasTold t_wasBarred t_goesNow t_jamsNow t_queued t_isKept t_tape u2 hu2) dX12_isDigit_10 (by decide) rfl (Nat.le_of_ble_eq_true rfl) 0 11 rfl rfl [0, 1] rfl (by decide) rfl rfl rfl rfl ?_
    refine g_bipush (pc := 13) (v := 57) C dX12_isDigit_13 (by decide) ?_
    refine g_icmp_gt (pc := 15) (tgt := 22) C dX12_isDigit_15 (by decide) h (fun h => ?_) (fun h => ?_)
    · refine g_iconst (pc := 22) (v := 0) C dX12_isDigit_22 (by decide) ?_
      cases h
      exact hret _ _ _ dX12_isDigit_23 nb0 rfl
    · refine g_iconst (pc := 18) (v := 1) C dX12_isDigit_18 (by decide) ?_
      refine g_goto (pc := 19) (tgt := 23) C dX12_isDigit_19 (by decide) ?_
      cases h
      exact hret _ _ _ dX12_isDigit_23 nb1 rfl
abbrev W_X12_isDoor (E : GE) (O_t : Nat) (a_t : Nat → Nat) (t_toldDoors : Int32) (t_barredDoors : Int32) (t_taped : Int32) (t_place0 : Int32) (t_length0 : Int32) (t_fault : Int32) (t_number0 : Int32) (t_open : Int32) (t_codeMany : Int32) (t_waiting : Int32) (t_saidMany : Int32) (t_clauses : Int32) (t_newMany : Int32) (t_rounds : Int32) (t_pinFrom : Int32) (t_pinTimes : Int32) (t_lines : Int32) (t_wasTold : Int32) (t_wasBarred : Int32) (t_goesNow : Int32) (t_jamsNow : Int32) (t_queued : Int32) (t_isKept : Int32) : va_W := [(O_t, ob_X12 a_t t_toldDoors t_barredDoors t_taped t_place0 t_length0 t_fault t_number0 t_open t_codeMany t_waiting t_saidMany t_clauses t_newMany t_rounds t_pinFrom t_pinTimes t_lines t_wasTold t_wasBarred t_goesNow t_jamsNow t_queued t_isKept)]
def f_X12_isDoor (t_toldDoors : Int32) (x1 : Int32) : Option (Int32) := (f_X12_in x1 (0 : Int32) (23 : Int32)).bind fun u1 => if u1 = 0 then (some (0 : Int32)) else (f_X12_has t_toldDoors x1).bind fun u2 => if u2 = 0 then (some (0 : Int32)) else some (1 : Int32)
theorem dX12_isDoor_0 : decode cX12_isDoor 0 = .ok (.iload_n 1, 1) := by decide +kernel
theorem dX12_isDoor_1 : decode cX12_isDoor 1 = .ok (.iconst 0, 1) := by decide +kernel
theorem dX12_isDoor_2 : decode cX12_isDoor 2 = .ok (.bipush 23, 2) := by decide +kernel
theorem dX12_isDoor_4 : decode cX12_isDoor 4 = .ok (.invokestatic 117, 3) := by decide +kernel
theorem dX12_isDoor_7 : decode cX12_isDoor 7 = .ok (.ifCond .eq 18, 3) := by decide +kernel
theorem dX12_isDoor_10 : decode cX12_isDoor 10 = .ok (.aload_n 0, 1) := by decide +kernel
theorem dX12_isDoor_11 : decode cX12_isDoor 11 = .ok (.getfield 121, 3) := by decide +kernel
theorem dX12_isDoor_14 : decode cX12_isDoor 14 = .ok (.iload_n 1, 1) := by decide +kernel
theorem dX12_isDoor_15 : decode cX12_isDoor 15 = .ok (.invokestatic 125, 3) := by decide +kernel
theorem dX12_isDoor_18 : decode cX12_isDoor 18 = .ok (.ifCond .eq 7, 3) := by decide +kernel
theorem dX12_isDoor_21 : decode cX12_isDoor 21 = .ok (.iconst 1, 1) := by decide +kernel
theorem dX12_isDoor_22 : decode cX12_isDoor 22 = .ok (.goto 4, 3) := by decide +kernel
theorem dX12_isDoor_25 : decode cX12_isDoor 25 = .ok (.iconst 0, 1) := by decide +kernel
theorem dX12_isDoor_26 : decode cX12_isDoor 26 = .ok (.ireturn, 1) := by decide +kernel
set_option maxHeartbeats 4000000 in
set_option maxRecDepth 100000 in
theorem c_X12_isDoor (l : Launch) (E : GE) (o_t : Nat) (a_t : Nat → Nat) (t_toldDoors : Int32) (t_barredDoors : Int32) (t_taped : Int32) (t_place0 : Int32) (t_length0 : Int32) (t_fault : Int32) (t_number0 : Int32) (t_open : Int32) (t_codeMany : Int32) (t_waiting : Int32) (t_saidMany : Int32) (t_clauses : Int32) (t_newMany : Int32) (t_rounds : Int32) (t_pinFrom : Int32) (t_pinTimes : Int32) (t_lines : Int32) (t_wasTold : Int32) (t_wasBarred : Int32) (t_goesNow : Int32) (t_jamsNow : Int32) (t_queued : Int32) (t_isKept : Int32) (x1 : Int32) (r : Int32) (h : f_X12_isDoor t_toldDoors x1 = some r) : Cn l E yX12_isDoor cX12_isDoor 2 (some .boolean) 2 0 0 [.ref o_t, .int x1] (W_X12_isDoor E o_t a_t t_toldDoors t_barredDoors t_taped t_place0 t_length0 t_fault t_number0 t_open t_codeMany t_waiting t_saidMany t_clauses t_newMany t_rounds t_pinFrom t_pinTimes t_lines t_wasTold t_wasBarred t_goesNow t_jamsNow t_queued t_isKept) (fun w => w = (W_X12_isDoor E o_t a_t t_toldDoors t_barredDoors t_taped t_place0 t_length0 t_fault t_number0 t_open t_codeMany t_waiting t_saidMany t_clauses t_newMany t_rounds t_pinFrom t_pinTimes t_lines t_wasTold t_wasBarred t_goesNow t_jamsNow t_queued t_isKept)) (some (.int r)) := by
  refine Cn.ofI (by decide +kernel) (Nat.le_of_ble_eq_true rfl) (fun X hX hR C hret => ?_)
  subst hX
  show Gx X E 0 0 (W_X12_isDoor E o_t a_t t_toldDoors t_barredDoors t_taped t_place0 t_length0 t_fault t_number0 t_open t_codeMany t_waiting t_saidMany t_clauses t_newMany t_rounds t_pinFrom t_pinTimes t_lines t_wasTold t_wasBarred t_goesNow t_jamsNow t_queued t_isKept) 0 [(0, .ref o_t), (1, .int x1)] []
  unfold f_X12_isDoor at h
  refine g_iload_n (pc := 0) C dX12_isDoor_0 rfl 1 rfl ?_
  refine g_iconst (pc := 1) (v := 0) C dX12_isDoor_1 (by decide) ?_
  refine g_bipush (pc := 2) (v := 23) C dX12_isDoor_2 (by decide) ?_
  obtain ⟨u1, hu1, h⟩ := bs h
  refine g_callS (pc := 4) (st := []) (st1 := [.int u1]) (ws' := (W_X12_isDoor E o_t a_t t_toldDoors t_barredDoors t_taped t_place0 t_length0 t_fault t_number0 t_open t_codeMany t_waiting t_saidMany t_clauses t_newMany t_rounds t_pinFrom t_pinTimes t_lines t_wasTold t_wasBarred t_goesNow t_jamsNow t_queued t_isKept)) C mv_X12_in ms_X12_in ml_X12_117 (c_X12_in X.2.1 E x1 (0 : Int32) (23 : Int32) u1 hu1) dX12_isDoor_4 (by decide) rfl (Nat.le_of_ble_eq_true rfl) [] rfl (by decide) rfl rfl rfl rfl ?_
  refine g_if_eq (pc := 7) (tgt := 25) C dX12_isDoor_7 (by decide) h (fun h => ?_) (fun h => ?_)
  · refine g_iconst (pc := 25) (v := 0) C dX12_isDoor_25 (by decide) ?_
    cases h
    exact hret _ _ _ dX12_isDoor_26 nb0 rfl
  · refine g_aload_n (pc := 10) C dX12_isDoor_10 rfl 0 rfl ?_
    refine g_get (pc := 11) C fl_X12_121 dX12_isDoor_11 0 rfl rfl ?_
    refine g_iload_n (pc := 14) C dX12_isDoor_14 rfl 1 rfl ?_
    obtain ⟨u2, hu2, h⟩ := bs h
    refine g_callS (pc := 15) (st := []) (st1 := [.int u2]) (ws' := (W_X12_isDoor E o_t a_t t_toldDoors t_barredDoors t_taped t_place0 t_length0 t_fault t_number0 t_open t_codeMany t_waiting t_saidMany t_clauses t_newMany t_rounds t_pinFrom t_pinTimes t_lines t_wasTold t_wasBarred t_goesNow t_jamsNow t_queued t_isKept)) C mv_X12_has ms_X12_has ml_X12_125 (c_X12_has X.2.1 E t_toldDoors x1 u2 hu2) dX12_isDoor_15 (by decide) rfl (Nat.le_of_ble_eq_true rfl) [] rfl (by decide) rfl rfl rfl rfl ?_
    refine g_if_eq (pc := 18) (tgt := 25) C dX12_isDoor_18 (by decide) h (fun h => ?_) (fun h => ?_)
    · refine g_iconst (pc := 25) (v := 0) C dX12_isDoor_25 (by decide) ?_
      cases h
      exact hret _ _ _ dX12_isDoor_26 nb0 rfl
    · refine g_iconst (pc := 21) (v := 1) C dX12_isDoor_21 (by decide) ?_
      refine g_goto (pc := 22) (tgt := 26) C dX12_isDoor_22 (by decide) ?_
      cases h
      exact hret _ _ _ dX12_isDoor_26 nb1 rfl
abbrev W_X12_isWoman (E : GE) (O_t : Nat) (a_t : Nat → Nat) (t_toldDoors : Int32) (t_barredDoors : Int32) (t_taped : Int32) (t_place0 : Int32) (t_length0 : Int32) (t_fault : Int32) (t_number0 : Int32) (t_open : Int32) (t_codeMany : Int32) (t_waiting : Int32) (t_saidMany : Int32) (t_clauses : Int32) (t_newMany : Int32) (t_rounds : Int32) (t_pinFrom : Int32) (t_pinTimes : Int32) (t_lines : Int32) (t_wasTold : Int32) (t_wasBarred : Int32) (t_goesNow : Int32) (t_jamsNow : Int32) (t_queued : Int32) (t_isKept : Int32) (t_now : (Nat → Int32)) : va_W := [(O_t, ob_X12 a_t t_toldDoors t_barredDoors t_taped t_place0 t_length0 t_fault t_number0 t_open t_codeMany t_waiting t_saidMany t_clauses t_newMany t_rounds t_pinFrom t_pinTimes t_lines t_wasTold t_wasBarred t_goesNow t_jamsNow t_queued t_isKept), (a_t 0, .inl (E.2.1, 166, .inl t_now))]
def f_X12_isWoman (t_now : (Nat → Int32)) (x1 : Int32) : Option (Int32) := (f_X12_in x1 (0 : Int32) (9 : Int32)).bind fun u1 => if u1 = 0 then (some (0 : Int32)) else rd t_now 166 ((24 : Int32) + x1) fun v2 => if v2 = (1 : Int32) then (some (1 : Int32)) else some (0 : Int32)
theorem dX12_isWoman_0 : decode cX12_isWoman 0 = .ok (.iload_n 1, 1) := by decide +kernel
theorem dX12_isWoman_1 : decode cX12_isWoman 1 = .ok (.iconst 0, 1) := by decide +kernel
theorem dX12_isWoman_2 : decode cX12_isWoman 2 = .ok (.bipush 9, 2) := by decide +kernel
theorem dX12_isWoman_4 : decode cX12_isWoman 4 = .ok (.invokestatic 117, 3) := by decide +kernel
theorem dX12_isWoman_7 : decode cX12_isWoman 7 = .ok (.ifCond .eq 20, 3) := by decide +kernel
theorem dX12_isWoman_10 : decode cX12_isWoman 10 = .ok (.aload_n 0, 1) := by decide +kernel
theorem dX12_isWoman_11 : decode cX12_isWoman 11 = .ok (.getfield 7, 3) := by decide +kernel
theorem dX12_isWoman_14 : decode cX12_isWoman 14 = .ok (.bipush 24, 2) := by decide +kernel
theorem dX12_isWoman_16 : decode cX12_isWoman 16 = .ok (.iload_n 1, 1) := by decide +kernel
theorem dX12_isWoman_17 : decode cX12_isWoman 17 = .ok (.iadd, 1) := by decide +kernel
theorem dX12_isWoman_18 : decode cX12_isWoman 18 = .ok (.iaload, 1) := by decide +kernel
theorem dX12_isWoman_19 : decode cX12_isWoman 19 = .ok (.iconst 1, 1) := by decide +kernel
theorem dX12_isWoman_20 : decode cX12_isWoman 20 = .ok (.if_icmp .ne 7, 3) := by decide +kernel
theorem dX12_isWoman_23 : decode cX12_isWoman 23 = .ok (.iconst 1, 1) := by decide +kernel
theorem dX12_isWoman_24 : decode cX12_isWoman 24 = .ok (.goto 4, 3) := by decide +kernel
theorem dX12_isWoman_27 : decode cX12_isWoman 27 = .ok (.iconst 0, 1) := by decide +kernel
theorem dX12_isWoman_28 : decode cX12_isWoman 28 = .ok (.ireturn, 1) := by decide +kernel
set_option maxHeartbeats 4000000 in
set_option maxRecDepth 100000 in
theorem c_X12_isWoman (l : Launch) (E : GE) (o_t : Nat) (a_t : Nat → Nat) (t_toldDoors : Int32) (t_barredDoors : Int32) (t_taped : Int32) (t_place0 : Int32) (t_length0 : Int32) (t_fault : Int32) (t_number0 : Int32) (t_open : Int32) (t_codeMany : Int32) (t_waiting : Int32) (t_saidMany : Int32) (t_clauses : Int32) (t_newMany : Int32) (t_rounds : Int32) (t_pinFrom : Int32) (t_pinTimes : Int32) (t_lines : Int32) (t_wasTold : Int32) (t_wasBarred : Int32) (t_goesNow : Int32) (t_jamsNow : Int32) (t_queued : Int32) (t_isKept : Int32) (t_now : (Nat → Int32)) (x1 : Int32) (r : Int32) (h : f_X12_isWoman t_now x1 = some r) : Cn l E yX12_isWoman cX12_isWoman 2 (some .boolean) 2 0 0 [.ref o_t, .int x1] (W_X12_isWoman E o_t a_t t_toldDoors t_barredDoors t_taped t_place0 t_length0 t_fault t_number0 t_open t_codeMany t_waiting t_saidMany t_clauses t_newMany t_rounds t_pinFrom t_pinTimes t_lines t_wasTold t_wasBarred t_goesNow t_jamsNow t_queued t_isKept t_now) (fun w => w = (W_X12_isWoman E o_t a_t t_toldDoors t_barredDoors t_taped t_place0 t_length0 t_fault t_number0 t_open t_codeMany t_waiting t_saidMany t_clauses t_newMany t_rounds t_pinFrom t_pinTimes t_lines t_wasTold t_wasBarred t_goesNow t_jamsNow t_queued t_isKept t_now)) (some (.int r)) := by
  refine Cn.ofI (by decide +kernel) (Nat.le_of_ble_eq_true rfl) (fun X hX hR C hret => ?_)
  subst hX
  show Gx X E 0 0 (W_X12_isWoman E o_t a_t t_toldDoors t_barredDoors t_taped t_place0 t_length0 t_fault t_number0 t_open t_codeMany t_waiting t_saidMany t_clauses t_newMany t_rounds t_pinFrom t_pinTimes t_lines t_wasTold t_wasBarred t_goesNow t_jamsNow t_queued t_isKept t_now) 0 [(0, .ref o_t), (1, .int x1)] []
  unfold f_X12_isWoman at h
  refine g_iload_n (pc := 0) C dX12_isWoman_0 rfl 1 rfl ?_
  refine g_iconst (pc := 1) (v := 0) C dX12_isWoman_1 (by decide) ?_
  refine g_bipush (pc := 2) (v := 9) C dX12_isWoman_2 (by decide) ?_
  obtain ⟨u1, hu1, h⟩ := bs h
  refine g_callS (pc := 4) (st := []) (st1 := [.int u1]) (ws' := (W_X12_isWoman E o_t a_t t_toldDoors t_barredDoors t_taped t_place0 t_length0 t_fault t_number0 t_open t_codeMany t_waiting t_saidMany t_clauses t_newMany t_rounds t_pinFrom t_pinTimes t_lines t_wasTold t_wasBarred t_goesNow t_jamsNow t_queued t_isKept t_now)) C mv_X12_in ms_X12_in ml_X12_117 (c_X12_in X.2.1 E x1 (0 : Int32) (9 : Int32) u1 hu1) dX12_isWoman_4 (by decide) rfl (Nat.le_of_ble_eq_true rfl) [] rfl (by decide) rfl rfl rfl rfl ?_
  refine g_if_eq (pc := 7) (tgt := 27) C dX12_isWoman_7 (by decide) h (fun h => ?_) (fun h => ?_)
  · refine g_iconst (pc := 27) (v := 0) C dX12_isWoman_27 (by decide) ?_
    cases h
    exact hret _ _ _ dX12_isWoman_28 nb0 rfl
  · refine g_aload_n (pc := 10) C dX12_isWoman_10 rfl 0 rfl ?_
    refine g_get (pc := 11) C fl_X12_7 dX12_isWoman_11 0 rfl rfl ?_
    refine g_bipush (pc := 14) (v := 24) C dX12_isWoman_14 (by decide) ?_
    refine g_iload_n (pc := 16) C dX12_isWoman_16 rfl 1 rfl ?_
    refine g_iadd (pc := 17) C dX12_isWoman_17 ?_
    refine g_iald (pc := 18) C dX12_isWoman_18 1 rfl h (fun v2 h => ?_)
    refine g_iconst (pc := 19) (v := 1) C dX12_isWoman_19 (by decide) ?_
    refine g_icmp_ne (pc := 20) (tgt := 27) C dX12_isWoman_20 (by decide) h (fun h => ?_) (fun h => ?_)
    · refine g_iconst (pc := 27) (v := 0) C dX12_isWoman_27 (by decide) ?_
      cases h
      exact hret _ _ _ dX12_isWoman_28 nb0 rfl
    · refine g_iconst (pc := 23) (v := 1) C dX12_isWoman_23 (by decide) ?_
      refine g_goto (pc := 24) (tgt := 28) C dX12_isWoman_24 (by decide) ?_
      cases h
      exact hret _ _ _ dX12_isWoman_28 nb1 rfl
abbrev W_X12_jumps (E : GE) (O_t : Nat) (a_t : Nat → Nat) (t_toldDoors : Int32) (t_barredDoors : Int32) (t_taped : Int32) (t_place0 : Int32) (t_length0 : Int32) (t_fault : Int32) (t_number0 : Int32) (t_open : Int32) (t_codeMany : Int32) (t_waiting : Int32) (t_saidMany : Int32) (t_clauses : Int32) (t_newMany : Int32) (t_rounds : Int32) (t_pinFrom : Int32) (t_pinTimes : Int32) (t_lines : Int32) (t_wasTold : Int32) (t_wasBarred : Int32) (t_goesNow : Int32) (t_jamsNow : Int32) (t_queued : Int32) (t_isKept : Int32) (t_said : (Nat → Int32)) (t_waitsAt : (Nat → Int32)) : va_W := [(O_t, ob_X12 a_t t_toldDoors t_barredDoors t_taped t_place0 t_length0 t_fault t_number0 t_open t_codeMany t_waiting t_saidMany t_clauses t_newMany t_rounds t_pinFrom t_pinTimes t_lines t_wasTold t_wasBarred t_goesNow t_jamsNow t_queued t_isKept), (a_t 24, .inl (E.2.1, 260, .inl t_said)), (a_t 25, .inl (E.2.1, 260, .inl t_waitsAt))]
def f_X12_jumps (t_place0 : Int32) (t_codeMany : Int32) (t_waiting : Int32) (t_said : (Nat → Int32)) (t_waitsAt : (Nat → Int32)) (x1 : Int32) : Option (Int32 × Int32 × Int32 × (Nat → Int32) × (Nat → Int32)) := wr t_waitsAt 260 t_waiting (((1048576 : Int32) * x1) + t_codeMany) fun g1 => nm (t_waiting + (1 : Int32)) fun v2 => (f_X12_notes t_codeMany t_said x1 (0 : Int32)).bind fun u3 => nm (t_place0 + (1 : Int32)) fun v4 => some (v4, u3.1, v2, u3.2, g1)
theorem dX12_jumps_0 : decode cX12_jumps 0 = .ok (.aload_n 0, 1) := by decide +kernel
theorem dX12_jumps_1 : decode cX12_jumps 1 = .ok (.getfield 50, 3) := by decide +kernel
theorem dX12_jumps_4 : decode cX12_jumps 4 = .ok (.aload_n 0, 1) := by decide +kernel
theorem dX12_jumps_5 : decode cX12_jumps 5 = .ok (.getfield 176, 3) := by decide +kernel
theorem dX12_jumps_8 : decode cX12_jumps 8 = .ok (.ldc 172, 2) := by decide +kernel
theorem dX12_jumps_10 : decode cX12_jumps 10 = .ok (.iload_n 1, 1) := by decide +kernel
theorem dX12_jumps_11 : decode cX12_jumps 11 = .ok (.imul, 1) := by decide +kernel
theorem dX12_jumps_12 : decode cX12_jumps 12 = .ok (.aload_n 0, 1) := by decide +kernel
theorem dX12_jumps_13 : decode cX12_jumps 13 = .ok (.getfield 169, 3) := by decide +kernel
theorem dX12_jumps_16 : decode cX12_jumps 16 = .ok (.iadd, 1) := by decide +kernel
theorem dX12_jumps_17 : decode cX12_jumps 17 = .ok (.iastore, 1) := by decide +kernel
theorem dX12_jumps_18 : decode cX12_jumps 18 = .ok (.aload_n 0, 1) := by decide +kernel
theorem dX12_jumps_19 : decode cX12_jumps 19 = .ok (.aload_n 0, 1) := by decide +kernel
theorem dX12_jumps_20 : decode cX12_jumps 20 = .ok (.getfield 176, 3) := by decide +kernel
theorem dX12_jumps_23 : decode cX12_jumps 23 = .ok (.iconst 1, 1) := by decide +kernel
theorem dX12_jumps_24 : decode cX12_jumps 24 = .ok (.iadd, 1) := by decide +kernel
theorem dX12_jumps_25 : decode cX12_jumps 25 = .ok (.putfield 176, 3) := by decide +kernel
theorem dX12_jumps_28 : decode cX12_jumps 28 = .ok (.aload_n 0, 1) := by decide +kernel
theorem dX12_jumps_29 : decode cX12_jumps 29 = .ok (.iload_n 1, 1) := by decide +kernel
theorem dX12_jumps_30 : decode cX12_jumps 30 = .ok (.iconst 0, 1) := by decide +kernel
theorem dX12_jumps_31 : decode cX12_jumps 31 = .ok (.invokevirtual 182, 3) := by decide +kernel
theorem dX12_jumps_34 : decode cX12_jumps 34 = .ok (.aload_n 0, 1) := by decide +kernel
theorem dX12_jumps_35 : decode cX12_jumps 35 = .ok (.aload_n 0, 1) := by decide +kernel
theorem dX12_jumps_36 : decode cX12_jumps 36 = .ok (.getfield 146, 3) := by decide +kernel
theorem dX12_jumps_39 : decode cX12_jumps 39 = .ok (.iconst 1, 1) := by decide +kernel
theorem dX12_jumps_40 : decode cX12_jumps 40 = .ok (.iadd, 1) := by decide +kernel
theorem dX12_jumps_41 : decode cX12_jumps 41 = .ok (.putfield 146, 3) := by decide +kernel
theorem dX12_jumps_44 : decode cX12_jumps 44 = .ok (.return_, 1) := by decide +kernel
set_option maxHeartbeats 4000000 in
set_option maxRecDepth 100000 in
theorem c_X12_jumps (l : Launch) (E : GE) (o_t : Nat) (a_t : Nat → Nat) (t_toldDoors : Int32) (t_barredDoors : Int32) (t_taped : Int32) (t_place0 : Int32) (t_length0 : Int32) (t_fault : Int32) (t_number0 : Int32) (t_open : Int32) (t_codeMany : Int32) (t_waiting : Int32) (t_saidMany : Int32) (t_clauses : Int32) (t_newMany : Int32) (t_rounds : Int32) (t_pinFrom : Int32) (t_pinTimes : Int32) (t_lines : Int32) (t_wasTold : Int32) (t_wasBarred : Int32) (t_goesNow : Int32) (t_jamsNow : Int32) (t_queued : Int32) (t_isKept : Int32) (t_said : (Nat → Int32)) (t_waitsAt : (Nat → Int32)) (x1 : Int32) (r : Int32 × Int32 × Int32 × (Nat → Int32) × (Nat → Int32)) (h : f_X12_jumps t_place0 t_codeMany t_waiting t_said t_waitsAt x1 = some r) : Cn l E yX12_jumps cX12_jumps 2 none 2 0 0 [.ref o_t, .int x1] (W_X12_jumps E o_t a_t t_toldDoors t_barredDoors t_taped t_place0 t_length0 t_fault t_number0 t_open t_codeMany t_waiting t_saidMany t_clauses t_newMany t_rounds t_pinFrom t_pinTimes t_lines t_wasTold t_wasBarred t_goesNow t_jamsNow t_queued t_isKept t_said t_waitsAt) (fun w => w = (W_X12_jumps E o_t a_t t_toldDoors t_barredDoors t_taped r.1 t_length0 t_fault t_number0 t_open r.2.1 r.2.2.1 t_saidMany t_clauses t_newMany t_rounds t_pinFrom t_pinTimes t_lines t_wasTold t_wasBarred t_goesNow t_jamsNow t_queued t_isKept r.2.2.2.1 r.2.2.2.2)) none := by
  refine Cn.ofV (by decide +kernel) (Nat.le_of_ble_eq_true rfl) (fun X hX hR C hret => ?_)
  subst hX
  show Gx X E 0 0 (W_X12_jumps E o_t a_t t_toldDoors t_barredDoors t_taped t_place0 t_length0 t_fault t_number0 t_open t_codeMany t_waiting t_saidMany t_clauses t_newMany t_rounds t_pinFrom t_pinTimes t_lines t_wasTold t_wasBarred t_goesNow t_jamsNow t_queued t_isKept t_said t_waitsAt) 0 [(0, .ref o_t), (1, .int x1)] []
  unfold f_X12_jumps at h
  refine g_aload_n (pc := 0) C dX12_jumps_0 rfl 0 rfl ?_
  refine g_get (pc := 1) C fl_X12_50 dX12_jumps_1 0 rfl rfl ?_
  refine g_aload_n (pc := 4) C dX12_jumps_4 rfl 0 rfl ?_
  refine g_get (pc := 5) C fl_X12_176 dX12_jumps_5 0 rfl rfl ?_
  refine g_ldc (pc := 8) C dX12_jumps_8 ct_X12_172 ?_
  refine g_iload_n (pc := 10) C dX12_jumps_10 rfl 1 rfl ?_
  refine g_imul (pc := 11) C dX12_jumps_11 ?_
  refine g_aload_n (pc := 12) C dX12_jumps_12 rfl 0 rfl ?_
  refine g_get (pc := 13) C fl_X12_169 dX12_jumps_13 0 rfl rfl ?_
  refine g_iadd (pc := 16) C dX12_jumps_16 ?_
  refine g_iast (pc := 17) C dX12_jumps_17 2 rfl h (fun g1 h => ?_)
  refine g_ws (ws' := (W_X12_jumps E o_t a_t t_toldDoors t_barredDoors t_taped t_place0 t_length0 t_fault t_number0 t_open t_codeMany t_waiting t_saidMany t_clauses t_newMany t_rounds t_pinFrom t_pinTimes t_lines t_wasTold t_wasBarred t_goesNow t_jamsNow t_queued t_isKept t_said g1)) rfl ?_
  refine g_aload_n (pc := 18) C dX12_jumps_18 rfl 0 rfl ?_
  refine g_aload_n (pc := 19) C dX12_jumps_19 rfl 0 rfl ?_
  refine g_get (pc := 20) C fl_X12_176 dX12_jumps_20 0 rfl rfl ?_
  refine g_iconst (pc := 23) (v := 1) C dX12_jumps_23 (by decide) ?_
  refine g_iadd (pc := 24) C dX12_jumps_24 ?_
  refine g_nm h (fun v2 h => ?_)
  refine g_put (pc := 25) (ws' := (W_X12_jumps E o_t a_t t_toldDoors t_barredDoors t_taped t_place0 t_length0 t_fault t_number0 t_open t_codeMany v2 t_saidMany t_clauses t_newMany t_rounds t_pinFrom t_pinTimes t_lines t_wasTold t_wasBarred t_goesNow t_jamsNow t_queued t_isKept t_said g1)) C .int fl_X12_176 dX12_jumps_25 0 rfl (by decide +kernel) rfl rfl (Nat.le_of_ble_eq_true rfl) rfl ?_
  refine g_aload_n (pc := 28) C dX12_jumps_28 rfl 0 rfl ?_
  refine g_iload_n (pc := 29) C dX12_jumps_29 rfl 1 rfl ?_
  refine g_iconst (pc := 30) (v := 0) C dX12_jumps_30 (by decide) ?_
  obtain ⟨u3, hu3, h⟩ := bs h
  refine g_callV (pc := 31) (st := []) (st1 := []) (ws' := (W_X12_jumps E o_t a_t t_toldDoors t_barredDoors t_taped t_place0 t_length0 t_fault t_number0 t_open u3.1 v2 t_saidMany t_clauses t_newMany t_rounds t_pinFrom t_pinTimes t_lines t_wasTold t_wasBarred t_goesNow t_jamsNow t_queued t_isKept u3.2 g1)) C mv_X12_notes mi_X12_notes ml_X12_182 (c_X12_notes X.2.1 E o_t a_t t_toldDoors t_barredDoors t_taped t_place0 t_length0 t_fault t_number0 t_open t_codeMany v2 t_saidMany t_clauses t_newMany t_rounds t_pinFrom t_pinTimes t_lines t_wasTold t_wasBarred t_goesNow t_jamsNow t_queued t_isKept t_said x1 (0 : Int32) u3 hu3) dX12_jumps_31 (by decide) rfl (Nat.le_of_ble_eq_true rfl) 0 11 rfl rfl [0, 1] rfl (by decide) rfl rfl rfl rfl ?_
  refine g_aload_n (pc := 34) C dX12_jumps_34 rfl 0 rfl ?_
  refine g_aload_n (pc := 35) C dX12_jumps_35 rfl 0 rfl ?_
  refine g_get (pc := 36) C fl_X12_146 dX12_jumps_36 0 rfl rfl ?_
  refine g_iconst (pc := 39) (v := 1) C dX12_jumps_39 (by decide) ?_
  refine g_iadd (pc := 40) C dX12_jumps_40 ?_
  refine g_nm h (fun v4 h => ?_)
  refine g_put (pc := 41) (ws' := (W_X12_jumps E o_t a_t t_toldDoors t_barredDoors t_taped v4 t_length0 t_fault t_number0 t_open u3.1 v2 t_saidMany t_clauses t_newMany t_rounds t_pinFrom t_pinTimes t_lines t_wasTold t_wasBarred t_goesNow t_jamsNow t_queued t_isKept u3.2 g1)) C .int fl_X12_146 dX12_jumps_41 0 rfl (by decide +kernel) rfl rfl (Nat.le_of_ble_eq_true rfl) rfl ?_
  cases h
  exact hret _ _ _ dX12_jumps_44 rfl
abbrev W_X12_keep (E : GE) (O_t : Nat) (a_t : Nat → Nat) (t_toldDoors : Int32) (t_barredDoors : Int32) (t_taped : Int32) (t_place0 : Int32) (t_length0 : Int32) (t_fault : Int32) (t_number0 : Int32) (t_open : Int32) (t_codeMany : Int32) (t_waiting : Int32) (t_saidMany : Int32) (t_clauses : Int32) (t_newMany : Int32) (t_rounds : Int32) (t_pinFrom : Int32) (t_pinTimes : Int32) (t_lines : Int32) (t_wasTold : Int32) (t_wasBarred : Int32) (t_goesNow : Int32) (t_jamsNow : Int32) (t_queued : Int32) (t_isKept : Int32) (t_now : (Nat → Int32)) (t_kept : (Nat → Int32)) : va_W := [(O_t, ob_X12 a_t t_toldDoors t_barredDoors t_taped t_place0 t_length0 t_fault t_number0 t_open t_codeMany t_waiting t_saidMany t_clauses t_newMany t_rounds t_pinFrom t_pinTimes t_lines t_wasTold t_wasBarred t_goesNow t_jamsNow t_queued t_isKept), (a_t 0, .inl (E.2.1, 166, .inl t_now)), (a_t 2, .inl (E.2.1, 166, .inl t_kept))]
def f_X12_keep (t_isKept : Int32) (t_now : (Nat → Int32)) (t_kept : (Nat → Int32)) : Option (Int32 × Int32 × (Nat → Int32)) := (f_X12_copies 166 166 t_now t_kept).bind fun u1 => rd t_now 166 (164 : Int32) fun v2 => some (v2, (1 : Int32), u1)
theorem dX12_keep_0 : decode cX12_keep 0 = .ok (.aload_n 0, 1) := by decide +kernel
theorem dX12_keep_1 : decode cX12_keep 1 = .ok (.iconst 1, 1) := by decide +kernel
theorem dX12_keep_2 : decode cX12_keep 2 = .ok (.putfield 409, 3) := by decide +kernel
theorem dX12_keep_5 : decode cX12_keep 5 = .ok (.aload_n 0, 1) := by decide +kernel
theorem dX12_keep_6 : decode cX12_keep 6 = .ok (.getfield 7, 3) := by decide +kernel
theorem dX12_keep_9 : decode cX12_keep 9 = .ok (.aload_n 0, 1) := by decide +kernel
theorem dX12_keep_10 : decode cX12_keep 10 = .ok (.getfield 16, 3) := by decide +kernel
theorem dX12_keep_13 : decode cX12_keep 13 = .ok (.invokestatic 298, 3) := by decide +kernel
theorem dX12_keep_16 : decode cX12_keep 16 = .ok (.aload_n 0, 1) := by decide +kernel
theorem dX12_keep_17 : decode cX12_keep 17 = .ok (.getfield 7, 3) := by decide +kernel
theorem dX12_keep_20 : decode cX12_keep 20 = .ok (.sipush 164, 3) := by decide +kernel
theorem dX12_keep_23 : decode cX12_keep 23 = .ok (.iaload, 1) := by decide +kernel
theorem dX12_keep_24 : decode cX12_keep 24 = .ok (.ireturn, 1) := by decide +kernel
set_option maxHeartbeats 4000000 in
set_option maxRecDepth 100000 in
theorem c_X12_keep (l : Launch) (E : GE) (o_t : Nat) (a_t : Nat → Nat) (t_toldDoors : Int32) (t_barredDoors : Int32) (t_taped : Int32) (t_place0 : Int32) (t_length0 : Int32) (t_fault : Int32) (t_number0 : Int32) (t_open : Int32) (t_codeMany : Int32) (t_waiting : Int32) (t_saidMany : Int32) (t_clauses : Int32) (t_newMany : Int32) (t_rounds : Int32) (t_pinFrom : Int32) (t_pinTimes : Int32) (t_lines : Int32) (t_wasTold : Int32) (t_wasBarred : Int32) (t_goesNow : Int32) (t_jamsNow : Int32) (t_queued : Int32) (t_isKept : Int32) (t_now : (Nat → Int32)) (t_kept : (Nat → Int32)) (r : Int32 × Int32 × (Nat → Int32)) (h : f_X12_keep t_isKept t_now t_kept = some r) : Cn l E yX12_keep cX12_keep 1 (some .int) 2 0 0 [.ref o_t] (W_X12_keep E o_t a_t t_toldDoors t_barredDoors t_taped t_place0 t_length0 t_fault t_number0 t_open t_codeMany t_waiting t_saidMany t_clauses t_newMany t_rounds t_pinFrom t_pinTimes t_lines t_wasTold t_wasBarred t_goesNow t_jamsNow t_queued t_isKept t_now t_kept) (fun w => w = (W_X12_keep E o_t a_t t_toldDoors t_barredDoors t_taped t_place0 t_length0 t_fault t_number0 t_open t_codeMany t_waiting t_saidMany t_clauses t_newMany t_rounds t_pinFrom t_pinTimes t_lines t_wasTold t_wasBarred t_goesNow t_jamsNow t_queued r.2.1 t_now r.2.2)) (some (.int r.1)) := by
  refine Cn.ofI (by decide +kernel) (Nat.le_of_ble_eq_true rfl) (fun X hX hR C hret => ?_)
  subst hX
  show Gx X E 0 0 (W_X12_keep E o_t a_t t_toldDoors t_barredDoors t_taped t_place0 t_length0 t_fault t_number0 t_open t_codeMany t_waiting t_saidMany t_clauses t_newMany t_rounds t_pinFrom t_pinTimes t_lines t_wasTold t_wasBarred t_goesNow t_jamsNow t_queued t_isKept t_now t_kept) 0 [(0, .ref o_t)] []
  unfold f_X12_keep at h
  refine g_aload_n (pc := 0) C dX12_keep_0 rfl 0 rfl ?_
  refine g_iconst (pc := 1) (v := 1) C dX12_keep_1 (by decide) ?_
  refine g_put (pc := 2) (ws' := (W_X12_keep E o_t a_t t_toldDoors t_barredDoors t_taped t_place0 t_length0 t_fault t_number0 t_open t_codeMany t_waiting t_saidMany t_clauses t_newMany t_rounds t_pinFrom t_pinTimes t_lines t_wasTold t_wasBarred t_goesNow t_jamsNow t_queued (1 : Int32) t_now t_kept)) C .boolean fl_X12_409 dX12_keep_2 0 rfl (by decide +kernel) (by decide) rfl (Nat.le_of_ble_eq_true rfl) rfl ?_
  refine g_aload_n (pc := 5) C dX12_keep_5 rfl 0 rfl ?_
  refine g_get (pc := 6) C fl_X12_7 dX12_keep_6 0 rfl rfl ?_
  refine g_aload_n (pc := 9) C dX12_keep_9 rfl 0 rfl ?_
  refine g_get (pc := 10) C fl_X12_16 dX12_keep_10 0 rfl rfl ?_
  obtain ⟨u1, hu1, h⟩ := bs h
  refine g_callS (pc := 13) (st := []) (st1 := []) (ws' := (W_X12_keep E o_t a_t t_toldDoors t_barredDoors t_taped t_place0 t_length0 t_fault t_number0 t_open t_codeMany t_waiting t_saidMany t_clauses t_newMany t_rounds t_pinFrom t_pinTimes t_lines t_wasTold t_wasBarred t_goesNow t_jamsNow t_queued (1 : Int32) t_now u1)) C mv_X12_copies ms_X12_copies ml_X12_298 (c_X12_copies X.2.1 E (a_t 0) 166 (a_t 2) 166 t_now t_kept u1 hu1) dX12_keep_13 (by decide) rfl (Nat.le_of_ble_eq_true rfl) [1, 2] rfl (by decide) rfl rfl rfl rfl ?_
  refine g_aload_n (pc := 16) C dX12_keep_16 rfl 0 rfl ?_
  refine g_get (pc := 17) C fl_X12_7 dX12_keep_17 0 rfl rfl ?_
  refine g_sipush (pc := 20) (v := 164) C dX12_keep_20 (by decide) ?_
  refine g_iald (pc := 23) C dX12_keep_23 1 rfl h (fun v2 h => ?_)
  cases h
  exact hret _ _ _ dX12_keep_24 rfl rfl
abbrev W_X12_kindFor (E : GE) (O_t : Nat) (a_t : Nat → Nat) (t_toldDoors : Int32) (t_barredDoors : Int32) (t_taped : Int32) (t_place0 : Int32) (t_length0 : Int32) (t_fault : Int32) (t_number0 : Int32) (t_open : Int32) (t_codeMany : Int32) (t_waiting : Int32) (t_saidMany : Int32) (t_clauses : Int32) (t_newMany : Int32) (t_rounds : Int32) (t_pinFrom : Int32) (t_pinTimes : Int32) (t_lines : Int32) (t_wasTold : Int32) (t_wasBarred : Int32) (t_goesNow : Int32) (t_jamsNow : Int32) (t_queued : Int32) (t_isKept : Int32) (t_now : (Nat → Int32)) (t_prongsOf : (Nat → Int32)) (t_wardsOf : (Nat → Int32)) : va_W := [(O_t, ob_X12 a_t t_toldDoors t_barredDoors t_taped t_place0 t_length0 t_fault t_number0 t_open t_codeMany t_waiting t_saidMany t_clauses t_newMany t_rounds t_pinFrom t_pinTimes t_lines t_wasTold t_wasBarred t_goesNow t_jamsNow t_queued t_isKept), (a_t 0, .inl (E.2.1, 166, .inl t_now)), (a_t 3, .inl (E.2.1, 6, .inl t_prongsOf)), (a_t 6, .inl (E.2.1, 24, .inl t_wardsOf))]
def L_X12_kindFor_2 (t_now : (Nat → Int32)) (t_prongsOf : (Nat → Int32)) (t_wardsOf : (Nat → Int32)) (x1 : Int32) (x2 : Int32) : Nat → Int32 → Option (Int32) := lp fun go s => if (6 : Int32) ≤ s then (some (-1 : Int32)) else rd t_now 166 (((104 : Int32) + ((6 : Int32) * x1)) + s) fun v1 => if v1 ≤ 0 then (nm (s + (1 : Int32)) fun v2 => go v2) else (f_X12_fits t_prongsOf t_wardsOf s x2).bind fun u3 => if u3 = 0 then (nm (s + (1 : Int32)) fun v4 => go v4) else some s
def f_X12_kindFor (t_now : (Nat → Int32)) (t_prongsOf : (Nat → Int32)) (t_wardsOf : (Nat → Int32)) (x1 : Int32) (x2 : Int32) : Option (Int32) := L_X12_kindFor_2 t_now t_prongsOf t_wardsOf x1 x2 fu (0 : Int32)
theorem dX12_kindFor_0 : decode cX12_kindFor 0 = .ok (.iconst 0, 1) := by decide +kernel
theorem dX12_kindFor_1 : decode cX12_kindFor 1 = .ok (.istore_n 3, 1) := by decide +kernel
theorem dX12_kindFor_2 : decode cX12_kindFor 2 = .ok (.iload_n 3, 1) := by decide +kernel
theorem dX12_kindFor_3 : decode cX12_kindFor 3 = .ok (.bipush 6, 2) := by decide +kernel
theorem dX12_kindFor_5 : decode cX12_kindFor 5 = .ok (.if_icmp .ge 37, 3) := by decide +kernel
theorem dX12_kindFor_8 : decode cX12_kindFor 8 = .ok (.aload_n 0, 1) := by decide +kernel
theorem dX12_kindFor_9 : decode cX12_kindFor 9 = .ok (.getfield 7, 3) := by decide +kernel
theorem dX12_kindFor_12 : decode cX12_kindFor 12 = .ok (.bipush 104, 2) := by decide +kernel
theorem dX12_kindFor_14 : decode cX12_kindFor 14 = .ok (.bipush 6, 2) := by decide +kernel
theorem dX12_kindFor_16 : decode cX12_kindFor 16 = .ok (.iload_n 1, 1) := by decide +kernel
theorem dX12_kindFor_17 : decode cX12_kindFor 17 = .ok (.imul, 1) := by decide +kernel
theorem dX12_kindFor_18 : decode cX12_kindFor 18 = .ok (.iadd, 1) := by decide +kernel
theorem dX12_kindFor_19 : decode cX12_kindFor 19 = .ok (.iload_n 3, 1) := by decide +kernel
theorem dX12_kindFor_20 : decode cX12_kindFor 20 = .ok (.iadd, 1) := by decide +kernel
theorem dX12_kindFor_21 : decode cX12_kindFor 21 = .ok (.iaload, 1) := by decide +kernel
theorem dX12_kindFor_22 : decode cX12_kindFor 22 = .ok (.ifCond .le 14, 3) := by decide +kernel
theorem dX12_kindFor_25 : decode cX12_kindFor 25 = .ok (.aload_n 0, 1) := by decide +kernel
theorem dX12_kindFor_26 : decode cX12_kindFor 26 = .ok (.iload_n 3, 1) := by decide +kernel
theorem dX12_kindFor_27 : decode cX12_kindFor 27 = .ok (.iload_n 2, 1) := by decide +kernel
theorem dX12_kindFor_28 : decode cX12_kindFor 28 = .ok (.invokevirtual 136, 3) := by decide +kernel
theorem dX12_kindFor_31 : decode cX12_kindFor 31 = .ok (.ifCond .eq 5, 3) := by decide +kernel
theorem dX12_kindFor_34 : decode cX12_kindFor 34 = .ok (.iload_n 3, 1) := by decide +kernel
theorem dX12_kindFor_35 : decode cX12_kindFor 35 = .ok (.ireturn, 1) := by decide +kernel
theorem dX12_kindFor_36 : decode cX12_kindFor 36 = .ok (.iinc 3 1, 3) := by decide +kernel
theorem dX12_kindFor_39 : decode cX12_kindFor 39 = .ok (.goto (-37), 3) := by decide +kernel
theorem dX12_kindFor_42 : decode cX12_kindFor 42 = .ok (.iconst (-1), 1) := by decide +kernel
theorem dX12_kindFor_43 : decode cX12_kindFor 43 = .ok (.ireturn, 1) := by decide +kernel
set_option maxHeartbeats 4000000 in
set_option maxRecDepth 100000 in
theorem kL_X12_kindFor_2 {X : GC} {E : GE} (C : Cx X E cX12_kindFor RX12 2 4) (o_t : Nat) (a_t : Nat → Nat) (t_toldDoors : Int32) (t_barredDoors : Int32) (t_taped : Int32) (t_place0 : Int32) (t_length0 : Int32) (t_fault : Int32) (t_number0 : Int32) (t_open : Int32) (t_codeMany : Int32) (t_waiting : Int32) (t_saidMany : Int32) (t_clauses : Int32) (t_newMany : Int32) (t_rounds : Int32) (t_pinFrom : Int32) (t_pinTimes : Int32) (t_lines : Int32) (t_wasTold : Int32) (t_wasBarred : Int32) (t_goesNow : Int32) (t_jamsNow : Int32) (t_queued : Int32) (t_isKept : Int32) (t_now : (Nat → Int32)) (t_prongsOf : (Nat → Int32)) (t_wardsOf : (Nat → Int32)) (x1 : Int32) (x2 : Int32) {r : Int32} (hret : RtI X E cX12_kindFor .int 0 0 (fun w => w = (W_X12_kindFor E o_t a_t t_toldDoors t_barredDoors t_taped t_place0 t_length0 t_fault t_number0 t_open t_codeMany t_waiting t_saidMany t_clauses t_newMany t_rounds t_pinFrom t_pinTimes t_lines t_wasTold t_wasBarred t_goesNow t_jamsNow t_queued t_isKept t_now t_prongsOf t_wardsOf)) r) : ∀ (n : Nat) (s : Int32), L_X12_kindFor_2 t_now t_prongsOf t_wardsOf x1 x2 n s = some r → Gx X E 0 0 (W_X12_kindFor E o_t a_t t_toldDoors t_barredDoors t_taped t_place0 t_length0 t_fault t_number0 t_open t_codeMany t_waiting t_saidMany t_clauses t_newMany t_rounds t_pinFrom t_pinTimes t_lines t_wasTold t_wasBarred t_goesNow t_jamsNow t_queued t_isKept t_now t_prongsOf t_wardsOf) 2 [(0, .ref o_t), (1, .int x1), (2, .int x2), (3, .int s)] [] := by
  unfold L_X12_kindFor_2
  refine lp_ind _ (fun go ih s h => ?_)
  refine g_iload_n (pc := 2) C dX12_kindFor_2 rfl 3 rfl ?_
  refine g_bipush (pc := 3) (v := 6) C dX12_kindFor_3 (by decide) ?_
  refine g_icmp_ge (pc := 5) (tgt := 42) C dX12_kindFor_5 (by decide) h (fun h => ?_) (fun h => ?_)
  · refine g_iconst (pc := 42) (v := -1) C dX12_kindFor_42 (by decide) ?_
    cases h
    exact hret _ _ _ dX12_kindFor_43 rfl rfl
  · refine g_aload_n (pc := 8) C dX12_kindFor_8 rfl 0 rfl ?_
    refine g_get (pc := 9) C fl_X12_7 dX12_kindFor_9 0 rfl rfl ?_
    refine g_bipush (pc := 12) (v := 104) C dX12_kindFor_12 (by decide) ?_
    refine g_bipush (pc := 14) (v := 6) C dX12_kindFor_14 (by decide) ?_
    refine g_iload_n (pc := 16) C dX12_kindFor_16 rfl 1 rfl ?_
    refine g_imul (pc := 17) C dX12_kindFor_17 ?_
    refine g_iadd (pc := 18) C dX12_kindFor_18 ?_
    refine g_iload_n (pc := 19) C dX12_kindFor_19 rfl 3 rfl ?_
    refine g_iadd (pc := 20) C dX12_kindFor_20 ?_
    refine g_iald (pc := 21) C dX12_kindFor_21 1 rfl h (fun v1 h => ?_)
    refine g_if_le (pc := 22) (tgt := 36) C dX12_kindFor_22 (by decide) h (fun h => ?_) (fun h => ?_)
    · refine g_iincn (pc := 36) (j := 3) (d := 1) (lv' := fun v2 => [(3, .int v2), (0, .ref o_t), (1, .int x1), (2, .int x2)]) C dX12_kindFor_36 rfl (by decide) (by decide) (fun _ => rfl) h (fun v2 h => ?_)
      refine g_goto (pc := 39) (tgt := 2) C dX12_kindFor_39 (by decide) ?_
      refine g_sub [1, 2, 3, 0] rfl ?_
      exact ih _ h
    · refine g_aload_n (pc := 25) C dX12_kindFor_25 rfl 0 rfl ?_
      refine g_iload_n (pc := 26) C dX12_kindFor_26 rfl 3 rfl ?_
      refine g_iload_n (pc := 27) C dX12_kindFor_27 rfl 2 rfl ?_
      obtain ⟨u3, hu3, h⟩ := bs h
      refine g_callV (pc := 28) (st := []) (st1 := [.int u3]) (ws' := (W_X12_kindFor E o_t a_t t_toldDoors t_barredDoors t_taped t_place0 t_length0 t_fault t_number0 t_open t_codeMany t_waiting t_saidMany t_clauses t_newMany t_rounds t_pinFrom t_pinTimes t_lines t_wasTold t_wasBarred t_goesNow t_jamsNow t_queued t_isKept t_now t_prongsOf t_wardsOf)) C mv_X12_fits mi_X12_fits ml_X12_136 (c_X12_fits X.2.1 E o_t a_t t_toldDoors t_barredDoors t_taped t_place0 t_length0 t_fault t_number0 t_open t_codeMany t_waiting t_saidMany t_clauses t_newMany t_rounds t_pinFrom t_pinTimes t_lines t_wasTold t_wasBarred t_goesNow t_jamsNow t_queued t_isKept t_prongsOf t_wardsOf s x2 u3 hu3) dX12_kindFor_28 (by decide) rfl (Nat.le_of_ble_eq_true rfl) 0 11 rfl rfl [0, 2, 3] rfl (by decide) rfl rfl rfl rfl ?_
      refine g_if_eq (pc := 31) (tgt := 36) C dX12_kindFor_31 (by decide) h (fun h => ?_) (fun h => ?_)
      · refine g_iincn (pc := 36) (j := 3) (d := 1) (lv' := fun v4 => [(3, .int v4), (0, .ref o_t), (1, .int x1), (2, .int x2)]) C dX12_kindFor_36 rfl (by decide) (by decide) (fun _ => rfl) h (fun v4 h => ?_)
        refine g_goto (pc := 39) (tgt := 2) C dX12_kindFor_39 (by decide) ?_
        refine g_sub [1, 2, 3, 0] rfl ?_
        exact ih _ h
      · refine g_iload_n (pc := 34) C dX12_kindFor_34 rfl 3 rfl ?_
        cases h
        exact hret _ _ _ dX12_kindFor_35 rfl rfl
set_option maxHeartbeats 4000000 in
set_option maxRecDepth 100000 in
theorem c_X12_kindFor (l : Launch) (E : GE) (o_t : Nat) (a_t : Nat → Nat) (t_toldDoors : Int32) (t_barredDoors : Int32) (t_taped : Int32) (t_place0 : Int32) (t_length0 : Int32) (t_fault : Int32) (t_number0 : Int32) (t_open : Int32) (t_codeMany : Int32) (t_waiting : Int32) (t_saidMany : Int32) (t_clauses : Int32) (t_newMany : Int32) (t_rounds : Int32) (t_pinFrom : Int32) (t_pinTimes : Int32) (t_lines : Int32) (t_wasTold : Int32) (t_wasBarred : Int32) (t_goesNow : Int32) (t_jamsNow : Int32) (t_queued : Int32) (t_isKept : Int32) (t_now : (Nat → Int32)) (t_prongsOf : (Nat → Int32)) (t_wardsOf : (Nat → Int32)) (x1 : Int32) (x2 : Int32) (r : Int32) (h : f_X12_kindFor t_now t_prongsOf t_wardsOf x1 x2 = some r) : Cn l E yX12_kindFor cX12_kindFor 4 (some .int) 2 0 0 [.ref o_t, .int x1, .int x2] (W_X12_kindFor E o_t a_t t_toldDoors t_barredDoors t_taped t_place0 t_length0 t_fault t_number0 t_open t_codeMany t_waiting t_saidMany t_clauses t_newMany t_rounds t_pinFrom t_pinTimes t_lines t_wasTold t_wasBarred t_goesNow t_jamsNow t_queued t_isKept t_now t_prongsOf t_wardsOf) (fun w => w = (W_X12_kindFor E o_t a_t t_toldDoors t_barredDoors t_taped t_place0 t_length0 t_fault t_number0 t_open t_codeMany t_waiting t_saidMany t_clauses t_newMany t_rounds t_pinFrom t_pinTimes t_lines t_wasTold t_wasBarred t_goesNow t_jamsNow t_queued t_isKept t_now t_prongsOf t_wardsOf)) (some (.int r)) := by
  refine Cn.ofI (by decide +kernel) (Nat.le_of_ble_eq_true rfl) (fun X hX hR C hret => ?_)
  subst hX
  show Gx X E 0 0 (W_X12_kindFor E o_t a_t t_toldDoors t_barredDoors t_taped t_place0 t_length0 t_fault t_number0 t_open t_codeMany t_waiting t_saidMany t_clauses t_newMany t_rounds t_pinFrom t_pinTimes t_lines t_wasTold t_wasBarred t_goesNow t_jamsNow t_queued t_isKept t_now t_prongsOf t_wardsOf) 0 [(0, .ref o_t), (1, .int x1), (2, .int x2)] []
  unfold f_X12_kindFor at h
  refine g_iconst (pc := 0) (v := 0) C dX12_kindFor_0 (by decide) ?_
  refine g_istore_n (pc := 1) (lv' := [(3, .int (0 : Int32)), (0, .ref o_t), (1, .int x1), (2, .int x2)]) C dX12_kindFor_1 rfl (by decide) rfl ?_
  refine g_sub [1, 2, 3, 0] rfl ?_
  refine kL_X12_kindFor_2 C o_t a_t t_toldDoors t_barredDoors t_taped t_place0 t_length0 t_fault t_number0 t_open t_codeMany t_waiting t_saidMany t_clauses t_newMany t_rounds t_pinFrom t_pinTimes t_lines t_wasTold t_wasBarred t_goesNow t_jamsNow t_queued t_isKept t_now t_prongsOf t_wardsOf x1 x2 hret  _ _ h
abbrev W_X12_kindIs (E : GE) (O_t : Nat) (a_t : Nat → Nat) (t_toldDoors : Int32) (t_barredDoors : Int32) (t_taped : Int32) (t_place0 : Int32) (t_length0 : Int32) (t_fault : Int32) (t_number0 : Int32) (t_open : Int32) (t_codeMany : Int32) (t_waiting : Int32) (t_saidMany : Int32) (t_clauses : Int32) (t_newMany : Int32) (t_rounds : Int32) (t_pinFrom : Int32) (t_pinTimes : Int32) (t_lines : Int32) (t_wasTold : Int32) (t_wasBarred : Int32) (t_goesNow : Int32) (t_jamsNow : Int32) (t_queued : Int32) (t_isKept : Int32) (t_prongsOf : (Nat → Int32)) : va_W := [(O_t, ob_X12 a_t t_toldDoors t_barredDoors t_taped t_place0 t_length0 t_fault t_number0 t_open t_codeMany t_waiting t_saidMany t_clauses t_newMany t_rounds t_pinFrom t_pinTimes t_lines t_wasTold t_wasBarred t_goesNow t_jamsNow t_queued t_isKept), (a_t 3, .inl (E.2.1, 6, .inl t_prongsOf))]
def f_X12_kindIs (t_prongsOf : (Nat → Int32)) (x1 : Int32) : Option (Int32) := (f_X12_in x1 (0 : Int32) (5 : Int32)).bind fun u1 => if u1 = 0 then (some (-1 : Int32)) else rd t_prongsOf 6 x1 fun v2 => some v2
theorem dX12_kindIs_0 : decode cX12_kindIs 0 = .ok (.iload_n 1, 1) := by decide +kernel
theorem dX12_kindIs_1 : decode cX12_kindIs 1 = .ok (.iconst 0, 1) := by decide +kernel
theorem dX12_kindIs_2 : decode cX12_kindIs 2 = .ok (.iconst 5, 1) := by decide +kernel
theorem dX12_kindIs_3 : decode cX12_kindIs 3 = .ok (.invokestatic 117, 3) := by decide +kernel
theorem dX12_kindIs_6 : decode cX12_kindIs 6 = .ok (.ifCond .eq 12, 3) := by decide +kernel
theorem dX12_kindIs_9 : decode cX12_kindIs 9 = .ok (.aload_n 0, 1) := by decide +kernel
theorem dX12_kindIs_10 : decode cX12_kindIs 10 = .ok (.getfield 19, 3) := by decide +kernel
theorem dX12_kindIs_13 : decode cX12_kindIs 13 = .ok (.iload_n 1, 1) := by decide +kernel
theorem dX12_kindIs_14 : decode cX12_kindIs 14 = .ok (.iaload, 1) := by decide +kernel
theorem dX12_kindIs_15 : decode cX12_kindIs 15 = .ok (.goto 4, 3) := by decide +kernel
theorem dX12_kindIs_18 : decode cX12_kindIs 18 = .ok (.iconst (-1), 1) := by decide +kernel
theorem dX12_kindIs_19 : decode cX12_kindIs 19 = .ok (.ireturn, 1) := by decide +kernel
set_option maxHeartbeats 4000000 in
set_option maxRecDepth 100000 in
theorem c_X12_kindIs (l : Launch) (E : GE) (o_t : Nat) (a_t : Nat → Nat) (t_toldDoors : Int32) (t_barredDoors : Int32) (t_taped : Int32) (t_place0 : Int32) (t_length0 : Int32) (t_fault : Int32) (t_number0 : Int32) (t_open : Int32) (t_codeMany : Int32) (t_waiting : Int32) (t_saidMany : Int32) (t_clauses : Int32) (t_newMany : Int32) (t_rounds : Int32) (t_pinFrom : Int32) (t_pinTimes : Int32) (t_lines : Int32) (t_wasTold : Int32) (t_wasBarred : Int32) (t_goesNow : Int32) (t_jamsNow : Int32) (t_queued : Int32) (t_isKept : Int32) (t_prongsOf : (Nat → Int32)) (x1 : Int32) (r : Int32) (h : f_X12_kindIs t_prongsOf x1 = some r) : Cn l E yX12_kindIs cX12_kindIs 2 (some .int) 2 0 0 [.ref o_t, .int x1] (W_X12_kindIs E o_t a_t t_toldDoors t_barredDoors t_taped t_place0 t_length0 t_fault t_number0 t_open t_codeMany t_waiting t_saidMany t_clauses t_newMany t_rounds t_pinFrom t_pinTimes t_lines t_wasTold t_wasBarred t_goesNow t_jamsNow t_queued t_isKept t_prongsOf) (fun w => w = (W_X12_kindIs E o_t a_t t_toldDoors t_barredDoors t_taped t_place0 t_length0 t_fault t_number0 t_open t_codeMany t_waiting t_saidMany t_clauses t_newMany t_rounds t_pinFrom t_pinTimes t_lines t_wasTold t_wasBarred t_goesNow t_jamsNow t_queued t_isKept t_prongsOf)) (some (.int r)) := by
  refine Cn.ofI (by decide +kernel) (Nat.le_of_ble_eq_true rfl) (fun X hX hR C hret => ?_)
  subst hX
  show Gx X E 0 0 (W_X12_kindIs E o_t a_t t_toldDoors t_barredDoors t_taped t_place0 t_length0 t_fault t_number0 t_open t_codeMany t_waiting t_saidMany t_clauses t_newMany t_rounds t_pinFrom t_pinTimes t_lines t_wasTold t_wasBarred t_goesNow t_jamsNow t_queued t_isKept t_prongsOf) 0 [(0, .ref o_t), (1, .int x1)] []
  unfold f_X12_kindIs at h
  refine g_iload_n (pc := 0) C dX12_kindIs_0 rfl 1 rfl ?_
  refine g_iconst (pc := 1) (v := 0) C dX12_kindIs_1 (by decide) ?_
  refine g_iconst (pc := 2) (v := 5) C dX12_kindIs_2 (by decide) ?_
  obtain ⟨u1, hu1, h⟩ := bs h
  refine g_callS (pc := 3) (st := []) (st1 := [.int u1]) (ws' := (W_X12_kindIs E o_t a_t t_toldDoors t_barredDoors t_taped t_place0 t_length0 t_fault t_number0 t_open t_codeMany t_waiting t_saidMany t_clauses t_newMany t_rounds t_pinFrom t_pinTimes t_lines t_wasTold t_wasBarred t_goesNow t_jamsNow t_queued t_isKept t_prongsOf)) C mv_X12_in ms_X12_in ml_X12_117 (c_X12_in X.2.1 E x1 (0 : Int32) (5 : Int32) u1 hu1) dX12_kindIs_3 (by decide) rfl (Nat.le_of_ble_eq_true rfl) [] rfl (by decide) rfl rfl rfl rfl ?_
  refine g_if_eq (pc := 6) (tgt := 18) C dX12_kindIs_6 (by decide) h (fun h => ?_) (fun h => ?_)
  · refine g_iconst (pc := 18) (v := -1) C dX12_kindIs_18 (by decide) ?_
    cases h
    exact hret _ _ _ dX12_kindIs_19 rfl rfl
  · refine g_aload_n (pc := 9) C dX12_kindIs_9 rfl 0 rfl ?_
    refine g_get (pc := 10) C fl_X12_19 dX12_kindIs_10 0 rfl rfl ?_
    refine g_iload_n (pc := 13) C dX12_kindIs_13 rfl 1 rfl ?_
    refine g_iald (pc := 14) C dX12_kindIs_14 1 rfl h (fun v2 h => ?_)
    refine g_goto (pc := 15) (tgt := 19) C dX12_kindIs_15 (by decide) ?_
    cases h
    exact hret _ _ _ dX12_kindIs_19 rfl rfl
abbrev W_X12_lands (E : GE) (O_t : Nat) (a_t : Nat → Nat) (t_toldDoors : Int32) (t_barredDoors : Int32) (t_taped : Int32) (t_place0 : Int32) (t_length0 : Int32) (t_fault : Int32) (t_number0 : Int32) (t_open : Int32) (t_codeMany : Int32) (t_waiting : Int32) (t_saidMany : Int32) (t_clauses : Int32) (t_newMany : Int32) (t_rounds : Int32) (t_pinFrom : Int32) (t_pinTimes : Int32) (t_lines : Int32) (t_wasTold : Int32) (t_wasBarred : Int32) (t_goesNow : Int32) (t_jamsNow : Int32) (t_queued : Int32) (t_isKept : Int32) (t_said : (Nat → Int32)) (t_waitsAt : (Nat → Int32)) : va_W := [(O_t, ob_X12 a_t t_toldDoors t_barredDoors t_taped t_place0 t_length0 t_fault t_number0 t_open t_codeMany t_waiting t_saidMany t_clauses t_newMany t_rounds t_pinFrom t_pinTimes t_lines t_wasTold t_wasBarred t_goesNow t_jamsNow t_queued t_isKept), (a_t 24, .inl (E.2.1, 260, .inl t_said)), (a_t 25, .inl (E.2.1, 260, .inl t_waitsAt))]
def L_X12_lands_0 (t_codeMany : Int32) (t_waitsAt : (Nat → Int32)) (x1 : Int32) : Nat → Int32 × (Nat → Int32) → Option (Int32 × (Nat → Int32)) := lp fun go s => (f_X12_waitTop s.1 t_waitsAt).bind fun u1 => jn (fun s2 : Unit => rd t_waitsAt 260 (s.1 - (1 : Int32)) fun v3 => rm v3 (1048576 : Int32) fun v4 => rd s.2 260 v4 fun v5 => dv v5 (1048576 : Int32) fun v6 => wr s.2 260 v4 (((1048576 : Int32) * v6) + t_codeMany) fun g7 => nm (s.1 - (1 : Int32)) fun v8 => go (v8, g7)) fun j22 => if u1 = (11 : Int32) then (j22 ()) else if x1 = 0 then (some (s.1, s.2)) else (f_X12_waitTop s.1 t_waitsAt).bind fun u9 => if u9 = (12 : Int32) then (j22 ()) else some (s.1, s.2)
def f_X12_lands (t_codeMany : Int32) (t_waiting : Int32) (t_said : (Nat → Int32)) (t_waitsAt : (Nat → Int32)) (x1 : Int32) : Option (Int32 × (Nat → Int32)) := L_X12_lands_0 t_codeMany t_waitsAt x1 fu (t_waiting, t_said)
theorem dX12_lands_0 : decode cX12_lands 0 = .ok (.aload_n 0, 1) := by decide +kernel
theorem dX12_lands_1 : decode cX12_lands 1 = .ok (.invokevirtual 179, 3) := by decide +kernel
theorem dX12_lands_4 : decode cX12_lands 4 = .ok (.bipush 11, 2) := by decide +kernel
theorem dX12_lands_6 : decode cX12_lands 6 = .ok (.if_icmp .eq 16, 3) := by decide +kernel
theorem dX12_lands_9 : decode cX12_lands 9 = .ok (.iload_n 1, 1) := by decide +kernel
theorem dX12_lands_10 : decode cX12_lands 10 = .ok (.ifCond .eq 63, 3) := by decide +kernel
theorem dX12_lands_13 : decode cX12_lands 13 = .ok (.aload_n 0, 1) := by decide +kernel
theorem dX12_lands_14 : decode cX12_lands 14 = .ok (.invokevirtual 179, 3) := by decide +kernel
theorem dX12_lands_17 : decode cX12_lands 17 = .ok (.bipush 12, 2) := by decide +kernel
theorem dX12_lands_19 : decode cX12_lands 19 = .ok (.if_icmp .ne 54, 3) := by decide +kernel
theorem dX12_lands_22 : decode cX12_lands 22 = .ok (.aload_n 0, 1) := by decide +kernel
theorem dX12_lands_23 : decode cX12_lands 23 = .ok (.getfield 50, 3) := by decide +kernel
theorem dX12_lands_26 : decode cX12_lands 26 = .ok (.aload_n 0, 1) := by decide +kernel
theorem dX12_lands_27 : decode cX12_lands 27 = .ok (.getfield 176, 3) := by decide +kernel
theorem dX12_lands_30 : decode cX12_lands 30 = .ok (.iconst 1, 1) := by decide +kernel
theorem dX12_lands_31 : decode cX12_lands 31 = .ok (.isub, 1) := by decide +kernel
theorem dX12_lands_32 : decode cX12_lands 32 = .ok (.iaload, 1) := by decide +kernel
theorem dX12_lands_33 : decode cX12_lands 33 = .ok (.ldc 172, 2) := by decide +kernel
theorem dX12_lands_35 : decode cX12_lands 35 = .ok (.irem, 1) := by decide +kernel
theorem dX12_lands_36 : decode cX12_lands 36 = .ok (.istore_n 2, 1) := by decide +kernel
theorem dX12_lands_37 : decode cX12_lands 37 = .ok (.aload_n 0, 1) := by decide +kernel
theorem dX12_lands_38 : decode cX12_lands 38 = .ok (.getfield 47, 3) := by decide +kernel
theorem dX12_lands_41 : decode cX12_lands 41 = .ok (.iload_n 2, 1) := by decide +kernel
theorem dX12_lands_42 : decode cX12_lands 42 = .ok (.ldc 172, 2) := by decide +kernel
theorem dX12_lands_44 : decode cX12_lands 44 = .ok (.aload_n 0, 1) := by decide +kernel
theorem dX12_lands_45 : decode cX12_lands 45 = .ok (.getfield 47, 3) := by decide +kernel
theorem dX12_lands_48 : decode cX12_lands 48 = .ok (.iload_n 2, 1) := by decide +kernel
theorem dX12_lands_49 : decode cX12_lands 49 = .ok (.iaload, 1) := by decide +kernel
theorem dX12_lands_50 : decode cX12_lands 50 = .ok (.ldc 172, 2) := by decide +kernel
theorem dX12_lands_52 : decode cX12_lands 52 = .ok (.idiv, 1) := by decide +kernel
theorem dX12_lands_53 : decode cX12_lands 53 = .ok (.imul, 1) := by decide +kernel
theorem dX12_lands_54 : decode cX12_lands 54 = .ok (.aload_n 0, 1) := by decide +kernel
theorem dX12_lands_55 : decode cX12_lands 55 = .ok (.getfield 169, 3) := by decide +kernel
theorem dX12_lands_58 : decode cX12_lands 58 = .ok (.iadd, 1) := by decide +kernel
theorem dX12_lands_59 : decode cX12_lands 59 = .ok (.iastore, 1) := by decide +kernel
theorem dX12_lands_60 : decode cX12_lands 60 = .ok (.aload_n 0, 1) := by decide +kernel
theorem dX12_lands_61 : decode cX12_lands 61 = .ok (.aload_n 0, 1) := by decide +kernel
theorem dX12_lands_62 : decode cX12_lands 62 = .ok (.getfield 176, 3) := by decide +kernel
theorem dX12_lands_65 : decode cX12_lands 65 = .ok (.iconst 1, 1) := by decide +kernel
theorem dX12_lands_66 : decode cX12_lands 66 = .ok (.isub, 1) := by decide +kernel
theorem dX12_lands_67 : decode cX12_lands 67 = .ok (.putfield 176, 3) := by decide +kernel
theorem dX12_lands_70 : decode cX12_lands 70 = .ok (.goto (-70), 3) := by decide +kernel
theorem dX12_lands_73 : decode cX12_lands 73 = .ok (.return_, 1) := by decide +kernel
set_option maxHeartbeats 4000000 in
set_option maxRecDepth 100000 in
theorem kL_X12_lands_0 {X : GC} {E : GE} (C : Cx X E cX12_lands RX12 2 3) (o_t : Nat) (a_t : Nat → Nat) (t_toldDoors : Int32) (t_barredDoors : Int32) (t_taped : Int32) (t_place0 : Int32) (t_length0 : Int32) (t_fault : Int32) (t_number0 : Int32) (t_open : Int32) (t_saidMany : Int32) (t_clauses : Int32) (t_newMany : Int32) (t_rounds : Int32) (t_pinFrom : Int32) (t_pinTimes : Int32) (t_lines : Int32) (t_wasTold : Int32) (t_wasBarred : Int32) (t_goesNow : Int32) (t_jamsNow : Int32) (t_queued : Int32) (t_isKept : Int32) (t_codeMany : Int32) (t_waitsAt : (Nat → Int32)) (x1 : Int32) {r : Int32 × (Nat → Int32)} (hret : RtV X E cX12_lands 0 0 (fun w => w = (W_X12_lands E o_t a_t t_toldDoors t_barredDoors t_taped t_place0 t_length0 t_fault t_number0 t_open t_codeMany r.1 t_saidMany t_clauses t_newMany t_rounds t_pinFrom t_pinTimes t_lines t_wasTold t_wasBarred t_goesNow t_jamsNow t_queued t_isKept r.2 t_waitsAt))) : ∀ (n : Nat) (s : Int32 × (Nat → Int32)), L_X12_lands_0 t_codeMany t_waitsAt x1 n s = some r → Gx X E 0 0 (W_X12_lands E o_t a_t t_toldDoors t_barredDoors t_taped t_place0 t_length0 t_fault t_number0 t_open t_codeMany s.1 t_saidMany t_clauses t_newMany t_rounds t_pinFrom t_pinTimes t_lines t_wasTold t_wasBarred t_goesNow t_jamsNow t_queued t_isKept s.2 t_waitsAt) 0 [(0, .ref o_t), (1, .int x1)] [] := by
  unfold L_X12_lands_0
  refine lp_ind _ (fun go ih s h => ?_)
  refine g_aload_n (pc := 0) C dX12_lands_0 rfl 0 rfl ?_
  obtain ⟨u1, hu1, h⟩ := bs h
  refine g_callV (pc := 1) (st := []) (st1 := [.int u1]) (ws' := (W_X12_lands E o_t a_t t_toldDoors t_barredDoors t_taped t_place0 t_length0 t_fault t_number0 t_open t_codeMany s.1 t_saidMany t_clauses t_newMany t_rounds t_pinFrom t_pinTimes t_lines t_wasTold t_wasBarred t_goesNow t_jamsNow t_queued t_isKept s.2 t_waitsAt)) C mv_X12_waitTop mi_X12_waitTop ml_X12_179 (c_X12_waitTop X.2.1 E o_t a_t t_toldDoors t_barredDoors t_taped t_place0 t_length0 t_fault t_number0 t_open t_codeMany s.1 t_saidMany t_clauses t_newMany t_rounds t_pinFrom t_pinTimes t_lines t_wasTold t_wasBarred t_goesNow t_jamsNow t_queued t_isKept t_waitsAt u1 hu1) dX12_lands_1 (by decide) rfl (Nat.le_of_ble_eq_true rfl) 0 11 rfl rfl [0, 2] rfl (by decide) rfl rfl rfl rfl ?_
  refine g_bipush (pc := 4) (v := 11) C dX12_lands_4 (by decide) ?_
  refine g_jn (fun s2 : Unit => Gx X E 0 0 (W_X12_lands E o_t a_t t_toldDoors t_barredDoors t_taped t_place0 t_length0 t_fault t_number0 t_open t_codeMany s.1 t_saidMany t_clauses t_newMany t_rounds t_pinFrom t_pinTimes t_lines t_wasTold t_wasBarred t_goesNow t_jamsNow t_queued t_isKept s.2 t_waitsAt) 22 [(0, .ref o_t), (1, .int x1)] []) h (fun s2 h => ?_) (fun j22 hj22 h => ?_)
  · refine g_aload_n (pc := 22) C dX12_lands_22 rfl 0 rfl ?_
    refine g_get (pc := 23) C fl_X12_50 dX12_lands_23 0 rfl rfl ?_
    refine g_aload_n (pc := 26) C dX12_lands_26 rfl 0 rfl ?_
    refine g_get (pc := 27) C fl_X12_176 dX12_lands_27 0 rfl rfl ?_
    refine g_iconst (pc := 30) (v := 1) C dX12_lands_30 (by decide) ?_
    refine g_isub (pc := 31) C dX12_lands_31 ?_
    refine g_iald (pc := 32) C dX12_lands_32 2 rfl h (fun v3 h => ?_)
    refine g_ldc (pc := 33) C dX12_lands_33 ct_X12_172 ?_
    refine g_irem (pc := 35) C dX12_lands_35 h (fun v4 h => ?_)
    refine g_istore_n (pc := 36) (lv' := [(2, .int v4), (0, .ref o_t), (1, .int x1)]) C dX12_lands_36 rfl (by decide) rfl ?_
    refine g_aload_n (pc := 37) C dX12_lands_37 rfl 1 rfl ?_
    refine g_get (pc := 38) C fl_X12_47 dX12_lands_38 0 rfl rfl ?_
    refine g_iload_n (pc := 41) C dX12_lands_41 rfl 0 rfl ?_
    refine g_ldc (pc := 42) C dX12_lands_42 ct_X12_172 ?_
    refine g_aload_n (pc := 44) C dX12_lands_44 rfl 1 rfl ?_
    refine g_get (pc := 45) C fl_X12_47 dX12_lands_45 0 rfl rfl ?_
    refine g_iload_n (pc := 48) C dX12_lands_48 rfl 0 rfl ?_
    refine g_iald (pc := 49) C dX12_lands_49 1 rfl h (fun v5 h => ?_)
    refine g_ldc (pc := 50) C dX12_lands_50 ct_X12_172 ?_
    refine g_idiv (pc := 52) C dX12_lands_52 h (fun v6 h => ?_)
    refine g_imul (pc := 53) C dX12_lands_53 ?_
    refine g_aload_n (pc := 54) C dX12_lands_54 rfl 1 rfl ?_
    refine g_get (pc := 55) C fl_X12_169 dX12_lands_55 0 rfl rfl ?_
    refine g_iadd (pc := 58) C dX12_lands_58 ?_
    refine g_iast (pc := 59) C dX12_lands_59 1 rfl h (fun g7 h => ?_)
    refine g_ws (ws' := (W_X12_lands E o_t a_t t_toldDoors t_barredDoors t_taped t_place0 t_length0 t_fault t_number0 t_open t_codeMany s.1 t_saidMany t_clauses t_newMany t_rounds t_pinFrom t_pinTimes t_lines t_wasTold t_wasBarred t_goesNow t_jamsNow t_queued t_isKept g7 t_waitsAt)) rfl ?_
    refine g_aload_n (pc := 60) C dX12_lands_60 rfl 1 rfl ?_
    refine g_aload_n (pc := 61) C dX12_lands_61 rfl 1 rfl ?_
    refine g_get (pc := 62) C fl_X12_176 dX12_lands_62 0 rfl rfl ?_
    refine g_iconst (pc := 65) (v := 1) C dX12_lands_65 (by decide) ?_
    refine g_isub (pc := 66) C dX12_lands_66 ?_
    refine g_nm h (fun v8 h => ?_)
    refine g_put (pc := 67) (ws' := (W_X12_lands E o_t a_t t_toldDoors t_barredDoors t_taped t_place0 t_length0 t_fault t_number0 t_open t_codeMany v8 t_saidMany t_clauses t_newMany t_rounds t_pinFrom t_pinTimes t_lines t_wasTold t_wasBarred t_goesNow t_jamsNow t_queued t_isKept g7 t_waitsAt)) C .int fl_X12_176 dX12_lands_67 0 rfl (by decide +kernel) rfl rfl (Nat.le_of_ble_eq_true rfl) rfl ?_
    refine g_goto (pc := 70) (tgt := 0) C dX12_lands_70 (by decide) ?_
    refine g_sub [1, 2] rfl ?_
    exact ih _ h
  refine g_icmp_eq (pc := 6) (tgt := 22) C dX12_lands_6 (by decide) h (fun h => ?_) (fun h => ?_)
  · exact hj22 _ h
  · refine g_iload_n (pc := 9) C dX12_lands_9 rfl 1 rfl ?_
    refine g_if_eq (pc := 10) (tgt := 73) C dX12_lands_10 (by decide) h (fun h => ?_) (fun h => ?_)
    · cases h
      exact hret _ _ _ dX12_lands_73 rfl
    · refine g_aload_n (pc := 13) C dX12_lands_13 rfl 0 rfl ?_
      obtain ⟨u9, hu9, h⟩ := bs h
      refine g_callV (pc := 14) (st := []) (st1 := [.int u9]) (ws' := (W_X12_lands E o_t a_t t_toldDoors t_barredDoors t_taped t_place0 t_length0 t_fault t_number0 t_open t_codeMany s.1 t_saidMany t_clauses t_newMany t_rounds t_pinFrom t_pinTimes t_lines t_wasTold t_wasBarred t_goesNow t_jamsNow t_queued t_isKept s.2 t_waitsAt)) C mv_X12_waitTop mi_X12_waitTop ml_X12_179 (c_X12_waitTop X.2.1 E o_t a_t t_toldDoors t_barredDoors t_taped t_place0 t_length0 t_fault t_number0 t_open t_codeMany s.1 t_saidMany t_clauses t_newMany t_rounds t_pinFrom t_pinTimes t_lines t_wasTold t_wasBarred t_goesNow t_jamsNow t_queued t_isKept t_waitsAt u9 hu9) dX12_lands_14 (by decide) rfl (Nat.le_of_ble_eq_true rfl) 0 11 rfl rfl [0, 2] rfl (by decide) rfl rfl rfl rfl ?_
      refine g_bipush (pc := 17) (v := 12) C dX12_lands_17 (by decide) ?_
      refine g_icmp_ne (pc := 19) (tgt := 73) C dX12_lands_19 (by decide) h (fun h => ?_) (fun h => ?_)
      · cases h
        exact hret _ _ _ dX12_lands_73 rfl
      · exact hj22 _ h
set_option maxHeartbeats 4000000 in
set_option maxRecDepth 100000 in
theorem c_X12_lands (l : Launch) (E : GE) (o_t : Nat) (a_t : Nat → Nat) (t_toldDoors : Int32) (t_barredDoors : Int32) (t_taped : Int32) (t_place0 : Int32) (t_length0 : Int32) (t_fault : Int32) (t_number0 : Int32) (t_open : Int32) (t_codeMany : Int32) (t_waiting : Int32) (t_saidMany : Int32) (t_clauses : Int32) (t_newMany : Int32) (t_rounds : Int32) (t_pinFrom : Int32) (t_pinTimes : Int32) (t_lines : Int32) (t_wasTold : Int32) (t_wasBarred : Int32) (t_goesNow : Int32) (t_jamsNow : Int32) (t_queued : Int32) (t_isKept : Int32) (t_said : (Nat → Int32)) (t_waitsAt : (Nat → Int32)) (x1 : Int32) (r : Int32 × (Nat → Int32)) (h : f_X12_lands t_codeMany t_waiting t_said t_waitsAt x1 = some r) : Cn l E yX12_lands cX12_lands 3 none 2 0 0 [.ref o_t, .int x1] (W_X12_lands E o_t a_t t_toldDoors t_barredDoors t_taped t_place0 t_length0 t_fault t_number0 t_open t_codeMany t_waiting t_saidMany t_clauses t_newMany t_rounds t_pinFrom t_pinTimes t_lines t_wasTold t_wasBarred t_goesNow t_jamsNow t_queued t_isKept t_said t_waitsAt) (fun w => w = (W_X12_lands E o_t a_t t_toldDoors t_barredDoors t_taped t_place0 t_length0 t_fault t_number0 t_open t_codeMany r.1 t_saidMany t_clauses t_newMany t_rounds t_pinFrom t_pinTimes t_lines t_wasTold t_wasBarred t_goesNow t_jamsNow t_queued t_isKept r.2 t_waitsAt)) none := by
  refine Cn.ofV (by decide +kernel) (Nat.le_of_ble_eq_true rfl) (fun X hX hR C hret => ?_)
  subst hX
  show Gx X E 0 0 (W_X12_lands E o_t a_t t_toldDoors t_barredDoors t_taped t_place0 t_length0 t_fault t_number0 t_open t_codeMany t_waiting t_saidMany t_clauses t_newMany t_rounds t_pinFrom t_pinTimes t_lines t_wasTold t_wasBarred t_goesNow t_jamsNow t_queued t_isKept t_said t_waitsAt) 0 [(0, .ref o_t), (1, .int x1)] []
  unfold f_X12_lands at h
  refine kL_X12_lands_0 C o_t a_t t_toldDoors t_barredDoors t_taped t_place0 t_length0 t_fault t_number0 t_open t_saidMany t_clauses t_newMany t_rounds t_pinFrom t_pinTimes t_lines t_wasTold t_wasBarred t_goesNow t_jamsNow t_queued t_isKept t_codeMany t_waitsAt x1 hret  _ _ h
abbrev W_X12_opens (E : GE) (O_t : Nat) (a_t : Nat → Nat) (t_toldDoors : Int32) (t_barredDoors : Int32) (t_taped : Int32) (t_place0 : Int32) (t_length0 : Int32) (t_fault : Int32) (t_number0 : Int32) (t_open : Int32) (t_codeMany : Int32) (t_waiting : Int32) (t_saidMany : Int32) (t_clauses : Int32) (t_newMany : Int32) (t_rounds : Int32) (t_pinFrom : Int32) (t_pinTimes : Int32) (t_lines : Int32) (t_wasTold : Int32) (t_wasBarred : Int32) (t_goesNow : Int32) (t_jamsNow : Int32) (t_queued : Int32) (t_isKept : Int32) (t_waitsAt : (Nat → Int32)) : va_W := [(O_t, ob_X12 a_t t_toldDoors t_barredDoors t_taped t_place0 t_length0 t_fault t_number0 t_open t_codeMany t_waiting t_saidMany t_clauses t_newMany t_rounds t_pinFrom t_pinTimes t_lines t_wasTold t_wasBarred t_goesNow t_jamsNow t_queued t_isKept), (a_t 25, .inl (E.2.1, 260, .inl t_waitsAt))]
def f_X12_opens (t_place0 : Int32) (t_fault : Int32) (t_open : Int32) (t_waiting : Int32) (t_waitsAt : (Nat → Int32)) (x1 : Int32) : Option (Int32 × Int32 × Int32 × Int32 × Int32 × (Nat → Int32)) := if t_open = (6 : Int32) then ((f_X12_wrongAt t_fault (5 : Int32) t_place0).bind fun u5 => gb u5.1 <| some (u5.1, t_place0, u5.2, t_open, t_waiting, t_waitsAt)) else nm (t_open + (1 : Int32)) fun v1 => wr t_waitsAt 260 t_waiting ((1048576 : Int32) * x1) fun g2 => nm (t_waiting + (1 : Int32)) fun v3 => nm (t_place0 + (1 : Int32)) fun v4 => some ((1 : Int32), v4, t_fault, v1, v3, g2)
theorem dX12_opens_0 : decode cX12_opens 0 = .ok (.aload_n 0, 1) := by decide +kernel
theorem dX12_opens_1 : decode cX12_opens 1 = .ok (.getfield 173, 3) := by decide +kernel
theorem dX12_opens_4 : decode cX12_opens 4 = .ok (.bipush 6, 2) := by decide +kernel
theorem dX12_opens_6 : decode cX12_opens 6 = .ok (.if_icmp .ne 13, 3) := by decide +kernel
theorem dX12_opens_9 : decode cX12_opens 9 = .ok (.aload_n 0, 1) := by decide +kernel
theorem dX12_opens_10 : decode cX12_opens 10 = .ok (.iconst 5, 1) := by decide +kernel
theorem dX12_opens_11 : decode cX12_opens 11 = .ok (.aload_n 0, 1) := by decide +kernel
theorem dX12_opens_12 : decode cX12_opens 12 = .ok (.getfield 146, 3) := by decide +kernel
theorem dX12_opens_15 : decode cX12_opens 15 = .ok (.invokevirtual 159, 3) := by decide +kernel
theorem dX12_opens_18 : decode cX12_opens 18 = .ok (.ireturn, 1) := by decide +kernel
theorem dX12_opens_19 : decode cX12_opens 19 = .ok (.aload_n 0, 1) := by decide +kernel
theorem dX12_opens_20 : decode cX12_opens 20 = .ok (.aload_n 0, 1) := by decide +kernel
theorem dX12_opens_21 : decode cX12_opens 21 = .ok (.getfield 173, 3) := by decide +kernel
theorem dX12_opens_24 : decode cX12_opens 24 = .ok (.iconst 1, 1) := by decide +kernel
theorem dX12_opens_25 : decode cX12_opens 25 = .ok (.iadd, 1) := by decide +kernel
theorem dX12_opens_26 : decode cX12_opens 26 = .ok (.putfield 173, 3) := by decide +kernel
theorem dX12_opens_29 : decode cX12_opens 29 = .ok (.aload_n 0, 1) := by decide +kernel
theorem dX12_opens_30 : decode cX12_opens 30 = .ok (.getfield 50, 3) := by decide +kernel
theorem dX12_opens_33 : decode cX12_opens 33 = .ok (.aload_n 0, 1) := by decide +kernel
theorem dX12_opens_34 : decode cX12_opens 34 = .ok (.getfield 176, 3) := by decide +kernel
theorem dX12_opens_37 : decode cX12_opens 37 = .ok (.ldc 172, 2) := by decide +kernel
theorem dX12_opens_39 : decode cX12_opens 39 = .ok (.iload_n 1, 1) := by decide +kernel
theorem dX12_opens_40 : decode cX12_opens 40 = .ok (.imul, 1) := by decide +kernel
theorem dX12_opens_41 : decode cX12_opens 41 = .ok (.iastore, 1) := by decide +kernel
theorem dX12_opens_42 : decode cX12_opens 42 = .ok (.aload_n 0, 1) := by decide +kernel
theorem dX12_opens_43 : decode cX12_opens 43 = .ok (.aload_n 0, 1) := by decide +kernel
theorem dX12_opens_44 : decode cX12_opens 44 = .ok (.getfield 176, 3) := by decide +kernel
theorem dX12_opens_47 : decode cX12_opens 47 = .ok (.iconst 1, 1) := by decide +kernel
theorem dX12_opens_48 : decode cX12_opens 48 = .ok (.iadd, 1) := by decide +kernel
theorem dX12_opens_49 : decode cX12_opens 49 = .ok (.putfield 176, 3) := by decide +kernel
theorem dX12_opens_52 : decode cX12_opens 52 = .ok (.aload_n 0, 1) := by decide +kernel
theorem dX12_opens_53 : decode cX12_opens 53 = .ok (.aload_n 0, 1) := by decide +kernel
theorem dX12_opens_54 : decode cX12_opens 54 = .ok (.getfield 146, 3) := by decide +kernel
theorem dX12_opens_57 : decode cX12_opens 57 = .ok (.iconst 1, 1) := by decide +kernel
theorem dX12_opens_58 : decode cX12_opens 58 = .ok (.iadd, 1) := by decide +kernel
theorem dX12_opens_59 : decode cX12_opens 59 = .ok (.putfield 146, 3) := by decide +kernel
theorem dX12_opens_62 : decode cX12_opens 62 = .ok (.iconst 1, 1) := by decide +kernel
theorem dX12_opens_63 : decode cX12_opens 63 = .ok (.ireturn, 1) := by decide +kernel
set_option maxHeartbeats 4000000 in
set_option maxRecDepth 100000 in
theorem c_X12_opens (l : Launch) (E : GE) (o_t : Nat) (a_t : Nat → Nat) (t_toldDoors : Int32) (t_barredDoors : Int32) (t_taped : Int32) (t_place0 : Int32) (t_length0 : Int32) (t_fault : Int32) (t_number0 : Int32) (t_open : Int32) (t_codeMany : Int32) (t_waiting : Int32) (t_saidMany : Int32) (t_clauses : Int32) (t_newMany : Int32) (t_rounds : Int32) (t_pinFrom : Int32) (t_pinTimes : Int32) (t_lines : Int32) (t_wasTold : Int32) (t_wasBarred : Int32) (t_goesNow : Int32) (t_jamsNow : Int32) (t_queued : Int32) (t_isKept : Int32) (t_waitsAt : (Nat → Int32)) (x1 : Int32) (r : Int32 × Int32 × Int32 × Int32 × Int32 × (Nat → Int32)) (h : f_X12_opens t_place0 t_fault t_open t_waiting t_waitsAt x1 = some r) : Cn l E yX12_opens cX12_opens 2 (some .boolean) 2 0 0 [.ref o_t, .int x1] (W_X12_opens E o_t a_t t_toldDoors t_barredDoors t_taped t_place0 t_length0 t_fault t_number0 t_open t_codeMany t_waiting t_saidMany t_clauses t_newMany t_rounds t_pinFrom t_pinTimes t_lines t_wasTold t_wasBarred t_goesNow t_jamsNow t_queued t_isKept t_waitsAt) (fun w => w = (W_X12_opens E o_t a_t t_toldDoors t_barredDoors t_taped r.2.1 t_length0 r.2.2.1 t_number0 r.2.2.2.1 t_codeMany r.2.2.2.2.1 t_saidMany t_clauses t_newMany t_rounds t_pinFrom t_pinTimes t_lines t_wasTold t_wasBarred t_goesNow t_jamsNow t_queued t_isKept r.2.2.2.2.2)) (some (.int r.1)) := by
  refine Cn.ofI (by decide +kernel) (Nat.le_of_ble_eq_true rfl) (fun X hX hR C hret => ?_)
  subst hX
  show Gx X E 0 0 (W_X12_opens E o_t a_t t_toldDoors t_barredDoors t_taped t_place0 t_length0 t_fault t_number0 t_open t_codeMany t_waiting t_saidMany t_clauses t_newMany t_rounds t_pinFrom t_pinTimes t_lines t_wasTold t_wasBarred t_goesNow t_jamsNow t_queued t_isKept t_waitsAt) 0 [(0, .ref o_t), (1, .int x1)] []
  unfold f_X12_opens at h
  refine g_aload_n (pc := 0) C dX12_opens_0 rfl 0 rfl ?_
  refine g_get (pc := 1) C fl_X12_173 dX12_opens_1 0 rfl rfl ?_
  refine g_bipush (pc := 4) (v := 6) C dX12_opens_4 (by decide) ?_
  refine g_icmp_ne (pc := 6) (tgt := 19) C dX12_opens_6 (by decide) h (fun h => ?_) (fun h => ?_)
  · refine g_aload_n (pc := 19) C dX12_opens_19 rfl 0 rfl ?_
    refine g_aload_n (pc := 20) C dX12_opens_20 rfl 0 rfl ?_
    refine g_get (pc := 21) C fl_X12_173 dX12_opens_21 0 rfl rfl ?_
    refine g_iconst (pc := 24) (v := 1) C dX12_opens_24 (by decide) ?_
    refine g_iadd (pc := 25) C dX12_opens_25 ?_
    refine g_nm h (fun v1 h => ?_)
    refine g_put (pc := 26) (ws' := (W_X12_opens E o_t a_t t_toldDoors t_barredDoors t_taped t_place0 t_length0 t_fault t_number0 v1 t_codeMany t_waiting t_saidMany t_clauses t_newMany t_rounds t_pinFrom t_pinTimes t_lines t_wasTold t_wasBarred t_goesNow t_jamsNow t_queued t_isKept t_waitsAt)) C .int fl_X12_173 dX12_opens_26 0 rfl (by decide +kernel) rfl rfl (Nat.le_of_ble_eq_true rfl) rfl ?_
    refine g_aload_n (pc := 29) C dX12_opens_29 rfl 0 rfl ?_
    refine g_get (pc := 30) C fl_X12_50 dX12_opens_30 0 rfl rfl ?_
    refine g_aload_n (pc := 33) C dX12_opens_33 rfl 0 rfl ?_
    refine g_get (pc := 34) C fl_X12_176 dX12_opens_34 0 rfl rfl ?_
    refine g_ldc (pc := 37) C dX12_opens_37 ct_X12_172 ?_
    refine g_iload_n (pc := 39) C dX12_opens_39 rfl 1 rfl ?_
    refine g_imul (pc := 40) C dX12_opens_40 ?_
    refine g_iast (pc := 41) C dX12_opens_41 1 rfl h (fun g2 h => ?_)
    refine g_ws (ws' := (W_X12_opens E o_t a_t t_toldDoors t_barredDoors t_taped t_place0 t_length0 t_fault t_number0 v1 t_codeMany t_waiting t_saidMany t_clauses t_newMany t_rounds t_pinFrom t_pinTimes t_lines t_wasTold t_wasBarred t_goesNow t_jamsNow t_queued t_isKept g2)) rfl ?_
    refine g_aload_n (pc := 42) C dX12_opens_42 rfl 0 rfl ?_
    refine g_aload_n (pc := 43) C dX12_opens_43 rfl 0 rfl ?_
    refine g_get (pc := 44) C fl_X12_176 dX12_opens_44 0 rfl rfl ?_
    refine g_iconst (pc := 47) (v := 1) C dX12_opens_47 (by decide) ?_
    refine g_iadd (pc := 48) C dX12_opens_48 ?_
    refine g_nm h (fun v3 h => ?_)
    refine g_put (pc := 49) (ws' := (W_X12_opens E o_t a_t t_toldDoors t_barredDoors t_taped t_place0 t_length0 t_fault t_number0 v1 t_codeMany v3 t_saidMany t_clauses t_newMany t_rounds t_pinFrom t_pinTimes t_lines t_wasTold t_wasBarred t_goesNow t_jamsNow t_queued t_isKept g2)) C .int fl_X12_176 dX12_opens_49 0 rfl (by decide +kernel) rfl rfl (Nat.le_of_ble_eq_true rfl) rfl ?_
    refine g_aload_n (pc := 52) C dX12_opens_52 rfl 0 rfl ?_
    refine g_aload_n (pc := 53) C dX12_opens_53 rfl 0 rfl ?_
    refine g_get (pc := 54) C fl_X12_146 dX12_opens_54 0 rfl rfl ?_
    refine g_iconst (pc := 57) (v := 1) C dX12_opens_57 (by decide) ?_
    refine g_iadd (pc := 58) C dX12_opens_58 ?_
    refine g_nm h (fun v4 h => ?_)
    refine g_put (pc := 59) (ws' := (W_X12_opens E o_t a_t t_toldDoors t_barredDoors t_taped v4 t_length0 t_fault t_number0 v1 t_codeMany v3 t_saidMany t_clauses t_newMany t_rounds t_pinFrom t_pinTimes t_lines t_wasTold t_wasBarred t_goesNow t_jamsNow t_queued t_isKept g2)) C .int fl_X12_146 dX12_opens_59 0 rfl (by decide +kernel) rfl rfl (Nat.le_of_ble_eq_true rfl) rfl ?_
    refine g_iconst (pc := 62) (v := 1) C dX12_opens_62 (by decide) ?_
    cases h
    exact hret _ _ _ dX12_opens_63 nb1 rfl
  · refine g_aload_n (pc := 9) C dX12_opens_9 rfl 0 rfl ?_
    refine g_iconst (pc := 10) (v := 5) C dX12_opens_10 (by decide) ?_
    refine g_aload_n (pc := 11) C dX12_opens_11 rfl 0 rfl ?_
    refine g_get (pc := 12) C fl_X12_146 dX12_opens_12 0 rfl rfl ?_
    obtain ⟨u5, hu5, h⟩ := bs h
    refine g_callV (pc := 15) (st := []) (st1 := [.int u5.1]) (ws' := (W_X12_opens E o_t a_t t_toldDoors t_barredDoors t_taped t_place0 t_length0 u5.2 t_number0 t_open t_codeMany t_waiting t_saidMany t_clauses t_newMany t_rounds t_pinFrom t_pinTimes t_lines t_wasTold t_wasBarred t_goesNow t_jamsNow t_queued t_isKept t_waitsAt)) C mv_X12_wrongAt mi_X12_wrongAt ml_X12_159 (c_X12_wrongAt X.2.1 E o_t a_t t_toldDoors t_barredDoors t_taped t_place0 t_length0 t_fault t_number0 t_open t_codeMany t_waiting t_saidMany t_clauses t_newMany t_rounds t_pinFrom t_pinTimes t_lines t_wasTold t_wasBarred t_goesNow t_jamsNow t_queued t_isKept (5 : Int32) t_place0 u5 hu5) dX12_opens_15 (by decide) rfl (Nat.le_of_ble_eq_true rfl) 0 11 rfl rfl [0] rfl (by decide) rfl rfl rfl rfl ?_
    obtain ⟨hgb, h⟩ := gb_is h
    cases h
    exact hret _ _ _ dX12_opens_18 hgb rfl
abbrev W_X12_readsTimes (E : GE) (O_t : Nat) (a_t : Nat → Nat) (t_toldDoors : Int32) (t_barredDoors : Int32) (t_taped : Int32) (t_place0 : Int32) (t_length0 : Int32) (t_fault : Int32) (t_number0 : Int32) (t_open : Int32) (t_codeMany : Int32) (t_waiting : Int32) (t_saidMany : Int32) (t_clauses : Int32) (t_newMany : Int32) (t_rounds : Int32) (t_pinFrom : Int32) (t_pinTimes : Int32) (t_lines : Int32) (t_wasTold : Int32) (t_wasBarred : Int32) (t_goesNow : Int32) (t_jamsNow : Int32) (t_queued : Int32) (t_isKept : Int32) (t_tape : (Nat → Int32)) : va_W := [(O_t, ob_X12 a_t t_toldDoors t_barredDoors t_taped t_place0 t_length0 t_fault t_number0 t_open t_codeMany t_waiting t_saidMany t_clauses t_newMany t_rounds t_pinFrom t_pinTimes t_lines t_wasTold t_wasBarred t_goesNow t_jamsNow t_queued t_isKept), (a_t 13, .inl (E.2.2.1, 260, .inl t_tape))]
def f_X12_readsTimes (t_place0 : Int32) (t_length0 : Int32) (t_pinFrom : Int32) (t_pinTimes : Int32) (t_tape : (Nat → Int32)) : Option (Int32 × Int32 × Int32) := (f_X12_here t_place0 t_length0 t_tape).bind fun u1 => (f_X12_in u1 (50 : Int32) (57 : Int32)).bind fun u2 => if u2 = 0 then (some (t_place0, t_place0, (1 : Int32))) else (f_X12_here t_place0 t_length0 t_tape).bind fun u3 => nm (u3 - (48 : Int32)) fun v4 => nm (t_place0 + (1 : Int32)) fun v5 => some (v5, t_place0, v4)
theorem dX12_readsTimes_0 : decode cX12_readsTimes 0 = .ok (.aload_n 0, 1) := by decide +kernel
theorem dX12_readsTimes_1 : decode cX12_readsTimes 1 = .ok (.aload_n 0, 1) := by decide +kernel
theorem dX12_readsTimes_2 : decode cX12_readsTimes 2 = .ok (.getfield 146, 3) := by decide +kernel
theorem dX12_readsTimes_5 : decode cX12_readsTimes 5 = .ok (.putfield 250, 3) := by decide +kernel
theorem dX12_readsTimes_8 : decode cX12_readsTimes 8 = .ok (.aload_n 0, 1) := by decide +kernel
theorem dX12_readsTimes_9 : decode cX12_readsTimes 9 = .ok (.iconst 1, 1) := by decide +kernel
theorem dX12_readsTimes_10 : decode cX12_readsTimes 10 = .ok (.putfield 253, 3) := by decide +kernel
theorem dX12_readsTimes_13 : decode cX12_readsTimes 13 = .ok (.aload_n 0, 1) := by decide +kernel
theorem dX12_readsTimes_14 : decode cX12_readsTimes 14 = .ok (.invokevirtual 152, 3) := by decide +kernel
theorem dX12_readsTimes_17 : decode cX12_readsTimes 17 = .ok (.bipush 50, 2) := by decide +kernel
theorem dX12_readsTimes_19 : decode cX12_readsTimes 19 = .ok (.bipush 57, 2) := by decide +kernel
theorem dX12_readsTimes_21 : decode cX12_readsTimes 21 = .ok (.invokestatic 117, 3) := by decide +kernel
theorem dX12_readsTimes_24 : decode cX12_readsTimes 24 = .ok (.ifCond .ne 4, 3) := by decide +kernel
theorem dX12_readsTimes_27 : decode cX12_readsTimes 27 = .ok (.return_, 1) := by decide +kernel
theorem dX12_readsTimes_28 : decode cX12_readsTimes 28 = .ok (.aload_n 0, 1) := by decide +kernel
theorem dX12_readsTimes_29 : decode cX12_readsTimes 29 = .ok (.aload_n 0, 1) := by decide +kernel
theorem dX12_readsTimes_30 : decode cX12_readsTimes 30 = .ok (.invokevirtual 152, 3) := by decide +kernel
theorem dX12_readsTimes_33 : decode cX12_readsTimes 33 = .ok (.bipush 48, 2) := by decide +kernel
theorem dX12_readsTimes_35 : decode cX12_readsTimes 35 = .ok (.isub, 1) := by decide +kernel
theorem dX12_readsTimes_36 : decode cX12_readsTimes 36 = .ok (.putfield 253, 3) := by decide +kernel
theorem dX12_readsTimes_39 : decode cX12_readsTimes 39 = .ok (.aload_n 0, 1) := by decide +kernel
theorem dX12_readsTimes_40 : decode cX12_readsTimes 40 = .ok (.aload_n 0, 1) := by decide +kernel
theorem dX12_readsTimes_41 : decode cX12_readsTimes 41 = .ok (.getfield 146, 3) := by decide +kernel
theorem dX12_readsTimes_44 : decode cX12_readsTimes 44 = .ok (.iconst 1, 1) := by decide +kernel
theorem dX12_readsTimes_45 : decode cX12_readsTimes 45 = .ok (.iadd, 1) := by decide +kernel
theorem dX12_readsTimes_46 : decode cX12_readsTimes 46 = .ok (.putfield 146, 3) := by decide +kernel
theorem dX12_readsTimes_49 : decode cX12_readsTimes 49 = .ok (.return_, 1) := by decide +kernel
set_option maxHeartbeats 4000000 in
set_option maxRecDepth 100000 in
theorem c_X12_readsTimes (l : Launch) (E : GE) (o_t : Nat) (a_t : Nat → Nat) (t_toldDoors : Int32) (t_barredDoors : Int32) (t_taped : Int32) (t_place0 : Int32) (t_length0 : Int32) (t_fault : Int32) (t_number0 : Int32) (t_open : Int32) (t_codeMany : Int32) (t_waiting : Int32) (t_saidMany : Int32) (t_clauses : Int32) (t_newMany : Int32) (t_rounds : Int32) (t_pinFrom : Int32) (t_pinTimes : Int32) (t_lines : Int32) (t_wasTold : Int32) (t_wasBarred : Int32) (t_goesNow : Int32) (t_jamsNow : Int32) (t_queued : Int32) (t_isKept : Int32) (t_tape : (Nat → Int32)) (r : Int32 × Int32 × Int32) (h : f_X12_readsTimes t_place0 t_length0 t_pinFrom t_pinTimes t_tape = some r) : Cn l E yX12_readsTimes cX12_readsTimes 1 none 2 0 0 [.ref o_t] (W_X12_readsTimes E o_t a_t t_toldDoors t_barredDoors t_taped t_place0 t_length0 t_fault t_number0 t_open t_codeMany t_waiting t_saidMany t_clauses t_newMany t_rounds t_pinFrom t_pinTimes t_lines t_wasTold t_wasBarred t_goesNow t_jamsNow t_queued t_isKept t_tape) (fun w => w = (W_X12_readsTimes E o_t a_t t_toldDoors t_barredDoors t_taped r.1 t_length0 t_fault t_number0 t_open t_codeMany t_waiting t_saidMany t_clauses t_newMany t_rounds r.2.1 r.2.2 t_lines t_wasTold t_wasBarred t_goesNow t_jamsNow t_queued t_isKept t_tape)) none := by
  refine Cn.ofV (by decide +kernel) (Nat.le_of_ble_eq_true rfl) (fun X hX hR C hret => ?_)
  subst hX
  show Gx X E 0 0 (W_X12_readsTimes E o_t a_t t_toldDoors t_barredDoors t_taped t_place0 t_length0 t_fault t_number0 t_open t_codeMany t_waiting t_saidMany t_clauses t_newMany t_rounds t_pinFrom t_pinTimes t_lines t_wasTold t_wasBarred t_goesNow t_jamsNow t_queued t_isKept t_tape) 0 [(0, .ref o_t)] []
  unfold f_X12_readsTimes at h
  refine g_aload_n (pc := 0) C dX12_readsTimes_0 rfl 0 rfl ?_
  refine g_aload_n (pc := 1) C dX12_readsTimes_1 rfl 0 rfl ?_
  refine g_get (pc := 2) C fl_X12_146 dX12_readsTimes_2 0 rfl rfl ?_
  refine g_put (pc := 5) (ws' := (W_X12_readsTimes E o_t a_t t_toldDoors t_barredDoors t_taped t_place0 t_length0 t_fault t_number0 t_open t_codeMany t_waiting t_saidMany t_clauses t_newMany t_rounds t_place0 t_pinTimes t_lines t_wasTold t_wasBarred t_goesNow t_jamsNow t_queued t_isKept t_tape)) C .int fl_X12_250 dX12_readsTimes_5 0 rfl (by decide +kernel) rfl rfl (Nat.le_of_ble_eq_true rfl) rfl ?_
  refine g_aload_n (pc := 8) C dX12_readsTimes_8 rfl 0 rfl ?_
  refine g_iconst (pc := 9) (v := 1) C dX12_readsTimes_9 (by decide) ?_
  refine g_put (pc := 10) (ws' := (W_X12_readsTimes E o_t a_t t_toldDoors t_barredDoors t_taped t_place0 t_length0 t_fault t_number0 t_open t_codeMany t_waiting t_saidMany t_clauses t_newMany t_rounds t_place0 (1 : Int32) t_lines t_wasTold t_wasBarred t_goesNow t_jamsNow t_queued t_isKept t_tape)) C .int fl_X12_253 dX12_readsTimes_10 0 rfl (by decide +kernel) rfl rfl (Nat.le_of_ble_eq_true rfl) rfl ?_
  refine g_aload_n (pc := 13) C dX12_readsTimes_13 rfl 0 rfl ?_
  obtain ⟨u1, hu1, h⟩ := bs h
  refine g_callV (pc := 14) (st := []) (st1 := [.int u1]) (ws' := (W_X12_readsTimes E o_t a_t t_toldDoors t_barredDoors t_taped t_place0 t_length0 t_fault t_number0 t_open t_codeMany t_waiting t_saidMany t_clauses t_newMany t_rounds t_place0 (1 : Int32) t_lines t_wasTold t_wasBarred t_goesNow t_jamsNow t_queued t_isKept t_tape)) C mv_X12_here mi_X12_here ml_X12_152 (c_X12_here X.2.1 E o_t a_t t_toldDoors t_barredDoors t_taped t_place0 t_length0 t_fault t_number0 t_open t_codeMany t_waiting t_saidMany t_clauses t_newMany t_rounds t_place0 (1 : Int32) t_lines t_wasTold t_wasBarred t_goesNow t_jamsNow t_queued t_isKept t_tape u1 hu1) dX12_readsTimes_14 (by decide) rfl (Nat.le_of_ble_eq_true rfl) 0 11 rfl rfl [0, 1] rfl (by decide) rfl rfl rfl rfl ?_
  refine g_bipush (pc := 17) (v := 50) C dX12_readsTimes_17 (by decide) ?_
  refine g_bipush (pc := 19) (v := 57) C dX12_readsTimes_19 (by decide) ?_
  obtain ⟨u2, hu2, h⟩ := bs h
  refine g_callS (pc := 21) (st := []) (st1 := [.int u2]) (ws' := (W_X12_readsTimes E o_t a_t t_toldDoors t_barredDoors t_taped t_place0 t_length0 t_fault t_number0 t_open t_codeMany t_waiting t_saidMany t_clauses t_newMany t_rounds t_place0 (1 : Int32) t_lines t_wasTold t_wasBarred t_goesNow t_jamsNow t_queued t_isKept t_tape)) C mv_X12_in ms_X12_in ml_X12_117 (c_X12_in X.2.1 E u1 (50 : Int32) (57 : Int32) u2 hu2) dX12_readsTimes_21 (by decide) rfl (Nat.le_of_ble_eq_true rfl) [] rfl (by decide) rfl rfl rfl rfl ?_
  refine g_if_ne (pc := 24) (tgt := 28) C dX12_readsTimes_24 (by decide) h (fun h => ?_) (fun h => ?_)
  · refine g_aload_n (pc := 28) C dX12_readsTimes_28 rfl 0 rfl ?_
    refine g_aload_n (pc := 29) C dX12_readsTimes_29 rfl 0 rfl ?_
    obtain ⟨u3, hu3, h⟩ := bs h
    refine g_callV (pc := 30) (st := [.ref o_t]) (st1 := [.int u3, .ref o_t]) (ws' := (W_X12_readsTimes E o_t a_t t_toldDoors t_barredDoors t_taped t_place0 t_length0 t_fault t_number0 t_open t_codeMany t_waiting t_saidMany t_clauses t_newMany t_rounds t_place0 (1 : Int32) t_lines t_wasTold t_wasBarred t_goesNow t_jamsNow t_queued t_isKept t_tape)) C mv_X12_here mi_X12_here ml_X12_152 (c_X12_here X.2.1 E o_t a_t t_toldDoors t_barredDoors t_taped t_place0 t_length0 t_fault t_number0 t_open t_codeMany t_waiting t_saidMany t_clauses t_newMany t_rounds t_place0 (1 : Int32) t_lines t_wasTold t_wasBarred t_goesNow t_jamsNow t_queued t_isKept t_tape u3 hu3) dX12_readsTimes_30 (by decide) rfl (Nat.le_of_ble_eq_true rfl) 0 11 rfl rfl [0, 1] rfl (by decide) rfl rfl rfl rfl ?_
    refine g_bipush (pc := 33) (v := 48) C dX12_readsTimes_33 (by decide) ?_
    refine g_isub (pc := 35) C dX12_readsTimes_35 ?_
    refine g_nm h (fun v4 h => ?_)
    refine g_put (pc := 36) (ws' := (W_X12_readsTimes E o_t a_t t_toldDoors t_barredDoors t_taped t_place0 t_length0 t_fault t_number0 t_open t_codeMany t_waiting t_saidMany t_clauses t_newMany t_rounds t_place0 v4 t_lines t_wasTold t_wasBarred t_goesNow t_jamsNow t_queued t_isKept t_tape)) C .int fl_X12_253 dX12_readsTimes_36 0 rfl (by decide +kernel) rfl rfl (Nat.le_of_ble_eq_true rfl) rfl ?_
    refine g_aload_n (pc := 39) C dX12_readsTimes_39 rfl 0 rfl ?_
    refine g_aload_n (pc := 40) C dX12_readsTimes_40 rfl 0 rfl ?_
    refine g_get (pc := 41) C fl_X12_146 dX12_readsTimes_41 0 rfl rfl ?_
    refine g_iconst (pc := 44) (v := 1) C dX12_readsTimes_44 (by decide) ?_
    refine g_iadd (pc := 45) C dX12_readsTimes_45 ?_
    refine g_nm h (fun v5 h => ?_)
    refine g_put (pc := 46) (ws' := (W_X12_readsTimes E o_t a_t t_toldDoors t_barredDoors t_taped v5 t_length0 t_fault t_number0 t_open t_codeMany t_waiting t_saidMany t_clauses t_newMany t_rounds t_place0 v4 t_lines t_wasTold t_wasBarred t_goesNow t_jamsNow t_queued t_isKept t_tape)) C .int fl_X12_146 dX12_readsTimes_46 0 rfl (by decide +kernel) rfl rfl (Nat.le_of_ble_eq_true rfl) rfl ?_
    cases h
    exact hret _ _ _ dX12_readsTimes_49 rfl
  · cases h
    exact hret _ _ _ dX12_readsTimes_27 rfl
abbrev W_X12_reckonsTo (E : GE) (O_t : Nat) (a_t : Nat → Nat) (t_toldDoors : Int32) (t_barredDoors : Int32) (t_taped : Int32) (t_place0 : Int32) (t_length0 : Int32) (t_fault : Int32) (t_number0 : Int32) (t_open : Int32) (t_codeMany : Int32) (t_waiting : Int32) (t_saidMany : Int32) (t_clauses : Int32) (t_newMany : Int32) (t_rounds : Int32) (t_pinFrom : Int32) (t_pinTimes : Int32) (t_lines : Int32) (t_wasTold : Int32) (t_wasBarred : Int32) (t_goesNow : Int32) (t_jamsNow : Int32) (t_queued : Int32) (t_isKept : Int32) (t_codes : (Nat → Int32)) (t_stack : (Nat → Int32)) (t_facts : (Nat → Int32)) : va_W := [(O_t, ob_X12 a_t t_toldDoors t_barredDoors t_taped t_place0 t_length0 t_fault t_number0 t_open t_codeMany t_waiting t_saidMany t_clauses t_newMany t_rounds t_pinFrom t_pinTimes t_lines t_wasTold t_wasBarred t_goesNow t_jamsNow t_queued t_isKept), (a_t 30, .inl (E.2.1, 260, .inl t_codes)), (a_t 35, .inl (E.2.1, 260, .inl t_stack)), (a_t 36, .inl (E.2.1, 10, .inl t_facts))]
def L_X12_reckonsTo_16 (t_codes : (Nat → Int32)) (t_facts : (Nat → Int32)) (x2 : Int32) (x4 : Int32) (k0 : (Nat → Int32) → Option (Int32 × (Nat → Int32))) : Nat → Int32 × Int32 × (Nat → Int32) → Option (Int32 × (Nat → Int32)) := lp fun go s => if x2 ≤ s.2.1 then (k0 s.2.2) else rd t_codes 260 s.2.1 fun v3 => dv v3 (1048576 : Int32) fun v4 => rd t_codes 260 s.2.1 fun v5 => rm v5 (1048576 : Int32) fun v6 => nm (s.2.1 + (1 : Int32)) fun v7 => jn (fun s8 : Unit => jn (fun s9 : Int32 => wr s.2.2 260 s.1 s9 fun g10 => nm (s.1 + (1 : Int32)) fun v11 => go (v11, v7, g10)) fun j85 => if v4 = 0 then (j85 v6) else rd t_facts 10 v6 fun v12 => j85 v12) fun j63 => if v4 = 0 then (j63 ()) else if v4 = (1 : Int32) then (j63 ()) else if v4 = (10 : Int32) then (rd s.2.2 260 (s.1 - (1 : Int32)) fun v26 => wr s.2.2 260 (s.1 - (1 : Int32)) ((1 : Int32) - v26) fun g27 => go (s.1, v7, g27)) else jn (fun s13 : Unit => rd s.2.2 260 (s.1 - (1 : Int32)) fun v14 => jn (fun s15 : Int32 => if v14 = s15 then (nm (x4 + v6) fun v17 => go (s.1, v17, s.2.2)) else nm (s.1 - (1 : Int32)) fun v16 => go (v16, v7, s.2.2)) fun j155 => if v4 = (12 : Int32) then (j155 (1 : Int32)) else j155 (0 : Int32)) fun j135 => if v4 = (11 : Int32) then (j135 ()) else if v4 = (12 : Int32) then (j135 ()) else nm (s.1 - (1 : Int32)) fun v18 => jn (fun s19 : Unit => rd s.2.2 260 (v18 - (1 : Int32)) fun v20 => rd s.2.2 260 v18 fun v21 => (f_X12_reckon v4 v20 v21).bind fun u22 => wr s.2.2 260 (v18 - (1 : Int32)) u22 fun g23 => go (v18, v7, g23)) fun j203 => jn (fun s24 : Unit => rd s.2.2 260 v18 fun v25 => if v25 = 0 then (some ((0 : Int32), s.2.2)) else j203 ()) fun j192 => if v4 = (5 : Int32) then (j192 ()) else if v4 = (6 : Int32) then (j192 ()) else j203 ()
def f_X12_reckonsTo (t_codes : (Nat → Int32)) (t_stack : (Nat → Int32)) (t_facts : (Nat → Int32)) (x1 : Int32) (x2 : Int32) : Option (Int32 × (Nat → Int32)) := dv x1 (260 : Int32) fun v1 => nm ((260 : Int32) * v1) fun v2 => L_X12_reckonsTo_16 t_codes t_facts x2 v2 (fun s28 => rd s28 260 (0 : Int32) fun v29 => some (v29, s28)) fu ((0 : Int32), x1, t_stack)
theorem dX12_reckonsTo_0 : decode cX12_reckonsTo 0 = .ok (.iconst 0, 1) := by decide +kernel
theorem dX12_reckonsTo_1 : decode cX12_reckonsTo 1 = .ok (.istore_n 3, 1) := by decide +kernel
theorem dX12_reckonsTo_2 : decode cX12_reckonsTo 2 = .ok (.sipush 260, 3) := by decide +kernel
theorem dX12_reckonsTo_5 : decode cX12_reckonsTo 5 = .ok (.iload_n 1, 1) := by decide +kernel
theorem dX12_reckonsTo_6 : decode cX12_reckonsTo 6 = .ok (.sipush 260, 3) := by decide +kernel
theorem dX12_reckonsTo_9 : decode cX12_reckonsTo 9 = .ok (.idiv, 1) := by decide +kernel
theorem dX12_reckonsTo_10 : decode cX12_reckonsTo 10 = .ok (.imul, 1) := by decide +kernel
theorem dX12_reckonsTo_11 : decode cX12_reckonsTo 11 = .ok (.istore 4, 2) := by decide +kernel
theorem dX12_reckonsTo_13 : decode cX12_reckonsTo 13 = .ok (.iload_n 1, 1) := by decide +kernel
theorem dX12_reckonsTo_14 : decode cX12_reckonsTo 14 = .ok (.istore 5, 2) := by decide +kernel
theorem dX12_reckonsTo_16 : decode cX12_reckonsTo 16 = .ok (.iload 5, 2) := by decide +kernel
theorem dX12_reckonsTo_18 : decode cX12_reckonsTo 18 = .ok (.iload_n 2, 1) := by decide +kernel
theorem dX12_reckonsTo_19 : decode cX12_reckonsTo 19 = .ok (.if_icmp .ge 214, 3) := by decide +kernel
theorem dX12_reckonsTo_22 : decode cX12_reckonsTo 22 = .ok (.aload_n 0, 1) := by decide +kernel
theorem dX12_reckonsTo_23 : decode cX12_reckonsTo 23 = .ok (.getfield 65, 3) := by decide +kernel
theorem dX12_reckonsTo_26 : decode cX12_reckonsTo 26 = .ok (.iload 5, 2) := by decide +kernel
theorem dX12_reckonsTo_28 : decode cX12_reckonsTo 28 = .ok (.iaload, 1) := by decide +kernel
theorem dX12_reckonsTo_29 : decode cX12_reckonsTo 29 = .ok (.ldc 172, 2) := by decide +kernel
theorem dX12_reckonsTo_31 : decode cX12_reckonsTo 31 = .ok (.idiv, 1) := by decide +kernel
theorem dX12_reckonsTo_32 : decode cX12_reckonsTo 32 = .ok (.istore 6, 2) := by decide +kernel
theorem dX12_reckonsTo_34 : decode cX12_reckonsTo 34 = .ok (.aload_n 0, 1) := by decide +kernel
theorem dX12_reckonsTo_35 : decode cX12_reckonsTo 35 = .ok (.getfield 65, 3) := by decide +kernel
theorem dX12_reckonsTo_38 : decode cX12_reckonsTo 38 = .ok (.iload 5, 2) := by decide +kernel
theorem dX12_reckonsTo_40 : decode cX12_reckonsTo 40 = .ok (.iaload, 1) := by decide +kernel
theorem dX12_reckonsTo_41 : decode cX12_reckonsTo 41 = .ok (.ldc 172, 2) := by decide +kernel
theorem dX12_reckonsTo_43 : decode cX12_reckonsTo 43 = .ok (.irem, 1) := by decide +kernel
theorem dX12_reckonsTo_44 : decode cX12_reckonsTo 44 = .ok (.istore 7, 2) := by decide +kernel
theorem dX12_reckonsTo_46 : decode cX12_reckonsTo 46 = .ok (.iload 5, 2) := by decide +kernel
theorem dX12_reckonsTo_48 : decode cX12_reckonsTo 48 = .ok (.iconst 1, 1) := by decide +kernel
theorem dX12_reckonsTo_49 : decode cX12_reckonsTo 49 = .ok (.iadd, 1) := by decide +kernel
theorem dX12_reckonsTo_50 : decode cX12_reckonsTo 50 = .ok (.istore 5, 2) := by decide +kernel
theorem dX12_reckonsTo_52 : decode cX12_reckonsTo 52 = .ok (.iload 6, 2) := by decide +kernel
theorem dX12_reckonsTo_54 : decode cX12_reckonsTo 54 = .ok (.ifCond .eq 9, 3) := by decide +kernel
theorem dX12_reckonsTo_57 : decode cX12_reckonsTo 57 = .ok (.iload 6, 2) := by decide +kernel
theorem dX12_reckonsTo_59 : decode cX12_reckonsTo 59 = .ok (.iconst 1, 1) := by decide +kernel
theorem dX12_reckonsTo_60 : decode cX12_reckonsTo 60 = .ok (.if_icmp .ne 33, 3) := by decide +kernel
theorem dX12_reckonsTo_63 : decode cX12_reckonsTo 63 = .ok (.aload_n 0, 1) := by decide +kernel
theorem dX12_reckonsTo_64 : decode cX12_reckonsTo 64 = .ok (.getfield 80, 3) := by decide +kernel
theorem dX12_reckonsTo_67 : decode cX12_reckonsTo 67 = .ok (.iload_n 3, 1) := by decide +kernel
theorem dX12_reckonsTo_68 : decode cX12_reckonsTo 68 = .ok (.iload 6, 2) := by decide +kernel
theorem dX12_reckonsTo_70 : decode cX12_reckonsTo 70 = .ok (.ifCond .ne 8, 3) := by decide +kernel
theorem dX12_reckonsTo_73 : decode cX12_reckonsTo 73 = .ok (.iload 7, 2) := by decide +kernel
theorem dX12_reckonsTo_75 : decode cX12_reckonsTo 75 = .ok (.goto 10, 3) := by decide +kernel
theorem dX12_reckonsTo_78 : decode cX12_reckonsTo 78 = .ok (.aload_n 0, 1) := by decide +kernel
theorem dX12_reckonsTo_79 : decode cX12_reckonsTo 79 = .ok (.getfield 83, 3) := by decide +kernel
theorem dX12_reckonsTo_82 : decode cX12_reckonsTo 82 = .ok (.iload 7, 2) := by decide +kernel
theorem dX12_reckonsTo_84 : decode cX12_reckonsTo 84 = .ok (.iaload, 1) := by decide +kernel
theorem dX12_reckonsTo_85 : decode cX12_reckonsTo 85 = .ok (.iastore, 1) := by decide +kernel
theorem dX12_reckonsTo_86 : decode cX12_reckonsTo 86 = .ok (.iload_n 3, 1) := by decide +kernel
theorem dX12_reckonsTo_87 : decode cX12_reckonsTo 87 = .ok (.iconst 1, 1) := by decide +kernel
theorem dX12_reckonsTo_88 : decode cX12_reckonsTo 88 = .ok (.iadd, 1) := by decide +kernel
theorem dX12_reckonsTo_89 : decode cX12_reckonsTo 89 = .ok (.istore_n 3, 1) := by decide +kernel
theorem dX12_reckonsTo_90 : decode cX12_reckonsTo 90 = .ok (.goto 140, 3) := by decide +kernel
theorem dX12_reckonsTo_93 : decode cX12_reckonsTo 93 = .ok (.iload 6, 2) := by decide +kernel
theorem dX12_reckonsTo_95 : decode cX12_reckonsTo 95 = .ok (.bipush 10, 2) := by decide +kernel
theorem dX12_reckonsTo_97 : decode cX12_reckonsTo 97 = .ok (.if_icmp .ne 24, 3) := by decide +kernel
theorem dX12_reckonsTo_100 : decode cX12_reckonsTo 100 = .ok (.aload_n 0, 1) := by decide +kernel
theorem dX12_reckonsTo_101 : decode cX12_reckonsTo 101 = .ok (.getfield 80, 3) := by decide +kernel
theorem dX12_reckonsTo_104 : decode cX12_reckonsTo 104 = .ok (.iload_n 3, 1) := by decide +kernel
theorem dX12_reckonsTo_105 : decode cX12_reckonsTo 105 = .ok (.iconst 1, 1) := by decide +kernel
theorem dX12_reckonsTo_106 : decode cX12_reckonsTo 106 = .ok (.isub, 1) := by decide +kernel
theorem dX12_reckonsTo_107 : decode cX12_reckonsTo 107 = .ok (.iconst 1, 1) := by decide +kernel
theorem dX12_reckonsTo_108 : decode cX12_reckonsTo 108 = .ok (.aload_n 0, 1) := by decide +kernel
theorem dX12_reckonsTo_109 : decode cX12_reckonsTo 109 = .ok (.getfield 80, 3) := by decide +kernel
theorem dX12_reckonsTo_112 : decode cX12_reckonsTo 112 = .ok (.iload_n 3, 1) := by decide +kernel
theorem dX12_reckonsTo_113 : decode cX12_reckonsTo 113 = .ok (.iconst 1, 1) := by decide +kernel
theorem dX12_reckonsTo_114 : decode cX12_reckonsTo 114 = .ok (.isub, 1) := by decide +kernel
theorem dX12_reckonsTo_115 : decode cX12_reckonsTo 115 = .ok (.iaload, 1) := by decide +kernel
theorem dX12_reckonsTo_116 : decode cX12_reckonsTo 116 = .ok (.isub, 1) := by decide +kernel
theorem dX12_reckonsTo_117 : decode cX12_reckonsTo 117 = .ok (.iastore, 1) := by decide +kernel
theorem dX12_reckonsTo_118 : decode cX12_reckonsTo 118 = .ok (.goto 112, 3) := by decide +kernel
theorem dX12_reckonsTo_121 : decode cX12_reckonsTo 121 = .ok (.iload 6, 2) := by decide +kernel
theorem dX12_reckonsTo_123 : decode cX12_reckonsTo 123 = .ok (.bipush 11, 2) := by decide +kernel
theorem dX12_reckonsTo_125 : decode cX12_reckonsTo 125 = .ok (.if_icmp .eq 10, 3) := by decide +kernel
theorem dX12_reckonsTo_128 : decode cX12_reckonsTo 128 = .ok (.iload 6, 2) := by decide +kernel
theorem dX12_reckonsTo_130 : decode cX12_reckonsTo 130 = .ok (.bipush 12, 2) := by decide +kernel
theorem dX12_reckonsTo_132 : decode cX12_reckonsTo 132 = .ok (.if_icmp .ne 43, 3) := by decide +kernel
theorem dX12_reckonsTo_135 : decode cX12_reckonsTo 135 = .ok (.aload_n 0, 1) := by decide +kernel
theorem dX12_reckonsTo_136 : decode cX12_reckonsTo 136 = .ok (.getfield 80, 3) := by decide +kernel
theorem dX12_reckonsTo_139 : decode cX12_reckonsTo 139 = .ok (.iload_n 3, 1) := by decide +kernel
theorem dX12_reckonsTo_140 : decode cX12_reckonsTo 140 = .ok (.iconst 1, 1) := by decide +kernel
theorem dX12_reckonsTo_141 : decode cX12_reckonsTo 141 = .ok (.isub, 1) := by decide +kernel
theorem dX12_reckonsTo_142 : decode cX12_reckonsTo 142 = .ok (.iaload, 1) := by decide +kernel
theorem dX12_reckonsTo_143 : decode cX12_reckonsTo 143 = .ok (.iload 6, 2) := by decide +kernel
theorem dX12_reckonsTo_145 : decode cX12_reckonsTo 145 = .ok (.bipush 12, 2) := by decide +kernel
theorem dX12_reckonsTo_147 : decode cX12_reckonsTo 147 = .ok (.if_icmp .ne 7, 3) := by decide +kernel
theorem dX12_reckonsTo_150 : decode cX12_reckonsTo 150 = .ok (.iconst 1, 1) := by decide +kernel
theorem dX12_reckonsTo_151 : decode cX12_reckonsTo 151 = .ok (.goto 4, 3) := by decide +kernel
theorem dX12_reckonsTo_154 : decode cX12_reckonsTo 154 = .ok (.iconst 0, 1) := by decide +kernel
theorem dX12_reckonsTo_155 : decode cX12_reckonsTo 155 = .ok (.if_icmp .ne 13, 3) := by decide +kernel
theorem dX12_reckonsTo_158 : decode cX12_reckonsTo 158 = .ok (.iload 4, 2) := by decide +kernel
theorem dX12_reckonsTo_160 : decode cX12_reckonsTo 160 = .ok (.iload 7, 2) := by decide +kernel
theorem dX12_reckonsTo_162 : decode cX12_reckonsTo 162 = .ok (.iadd, 1) := by decide +kernel
theorem dX12_reckonsTo_163 : decode cX12_reckonsTo 163 = .ok (.istore 5, 2) := by decide +kernel
theorem dX12_reckonsTo_165 : decode cX12_reckonsTo 165 = .ok (.goto 65, 3) := by decide +kernel
theorem dX12_reckonsTo_168 : decode cX12_reckonsTo 168 = .ok (.iload_n 3, 1) := by decide +kernel
theorem dX12_reckonsTo_169 : decode cX12_reckonsTo 169 = .ok (.iconst 1, 1) := by decide +kernel
theorem dX12_reckonsTo_170 : decode cX12_reckonsTo 170 = .ok (.isub, 1) := by decide +kernel
theorem dX12_reckonsTo_171 : decode cX12_reckonsTo 171 = .ok (.istore_n 3, 1) := by decide +kernel
theorem dX12_reckonsTo_172 : decode cX12_reckonsTo 172 = .ok (.goto 58, 3) := by decide +kernel
theorem dX12_reckonsTo_175 : decode cX12_reckonsTo 175 = .ok (.iload_n 3, 1) := by decide +kernel
theorem dX12_reckonsTo_176 : decode cX12_reckonsTo 176 = .ok (.iconst 1, 1) := by decide +kernel
theorem dX12_reckonsTo_177 : decode cX12_reckonsTo 177 = .ok (.isub, 1) := by decide +kernel
theorem dX12_reckonsTo_178 : decode cX12_reckonsTo 178 = .ok (.istore_n 3, 1) := by decide +kernel
theorem dX12_reckonsTo_179 : decode cX12_reckonsTo 179 = .ok (.iload 6, 2) := by decide +kernel
theorem dX12_reckonsTo_181 : decode cX12_reckonsTo 181 = .ok (.iconst 5, 1) := by decide +kernel
theorem dX12_reckonsTo_182 : decode cX12_reckonsTo 182 = .ok (.if_icmp .eq 10, 3) := by decide +kernel
theorem dX12_reckonsTo_185 : decode cX12_reckonsTo 185 = .ok (.iload 6, 2) := by decide +kernel
theorem dX12_reckonsTo_187 : decode cX12_reckonsTo 187 = .ok (.bipush 6, 2) := by decide +kernel
theorem dX12_reckonsTo_189 : decode cX12_reckonsTo 189 = .ok (.if_icmp .ne 14, 3) := by decide +kernel
theorem dX12_reckonsTo_192 : decode cX12_reckonsTo 192 = .ok (.aload_n 0, 1) := by decide +kernel
theorem dX12_reckonsTo_193 : decode cX12_reckonsTo 193 = .ok (.getfield 80, 3) := by decide +kernel
theorem dX12_reckonsTo_196 : decode cX12_reckonsTo 196 = .ok (.iload_n 3, 1) := by decide +kernel
theorem dX12_reckonsTo_197 : decode cX12_reckonsTo 197 = .ok (.iaload, 1) := by decide +kernel
theorem dX12_reckonsTo_198 : decode cX12_reckonsTo 198 = .ok (.ifCond .ne 5, 3) := by decide +kernel
theorem dX12_reckonsTo_201 : decode cX12_reckonsTo 201 = .ok (.iconst 0, 1) := by decide +kernel
theorem dX12_reckonsTo_202 : decode cX12_reckonsTo 202 = .ok (.ireturn, 1) := by decide +kernel
theorem dX12_reckonsTo_203 : decode cX12_reckonsTo 203 = .ok (.aload_n 0, 1) := by decide +kernel
theorem dX12_reckonsTo_204 : decode cX12_reckonsTo 204 = .ok (.getfield 80, 3) := by decide +kernel
theorem dX12_reckonsTo_207 : decode cX12_reckonsTo 207 = .ok (.iload_n 3, 1) := by decide +kernel
theorem dX12_reckonsTo_208 : decode cX12_reckonsTo 208 = .ok (.iconst 1, 1) := by decide +kernel
theorem dX12_reckonsTo_209 : decode cX12_reckonsTo 209 = .ok (.isub, 1) := by decide +kernel
theorem dX12_reckonsTo_210 : decode cX12_reckonsTo 210 = .ok (.iload 6, 2) := by decide +kernel
theorem dX12_reckonsTo_212 : decode cX12_reckonsTo 212 = .ok (.aload_n 0, 1) := by decide +kernel
theorem dX12_reckonsTo_213 : decode cX12_reckonsTo 213 = .ok (.getfield 80, 3) := by decide +kernel
theorem dX12_reckonsTo_216 : decode cX12_reckonsTo 216 = .ok (.iload_n 3, 1) := by decide +kernel
theorem dX12_reckonsTo_217 : decode cX12_reckonsTo 217 = .ok (.iconst 1, 1) := by decide +kernel
theorem dX12_reckonsTo_218 : decode cX12_reckonsTo 218 = .ok (.isub, 1) := by decide +kernel
theorem dX12_reckonsTo_219 : decode cX12_reckonsTo 219 = .ok (.iaload, 1) := by decide +kernel
theorem dX12_reckonsTo_220 : decode cX12_reckonsTo 220 = .ok (.aload_n 0, 1) := by decide +kernel
theorem dX12_reckonsTo_221 : decode cX12_reckonsTo 221 = .ok (.getfield 80, 3) := by decide +kernel
theorem dX12_reckonsTo_224 : decode cX12_reckonsTo 224 = .ok (.iload_n 3, 1) := by decide +kernel
theorem dX12_reckonsTo_225 : decode cX12_reckonsTo 225 = .ok (.iaload, 1) := by decide +kernel
theorem dX12_reckonsTo_226 : decode cX12_reckonsTo 226 = .ok (.invokestatic 242, 3) := by decide +kernel
theorem dX12_reckonsTo_229 : decode cX12_reckonsTo 229 = .ok (.iastore, 1) := by decide +kernel
theorem dX12_reckonsTo_230 : decode cX12_reckonsTo 230 = .ok (.goto (-214), 3) := by decide +kernel
theorem dX12_reckonsTo_233 : decode cX12_reckonsTo 233 = .ok (.aload_n 0, 1) := by decide +kernel
theorem dX12_reckonsTo_234 : decode cX12_reckonsTo 234 = .ok (.getfield 80, 3) := by decide +kernel
theorem dX12_reckonsTo_237 : decode cX12_reckonsTo 237 = .ok (.iconst 0, 1) := by decide +kernel
theorem dX12_reckonsTo_238 : decode cX12_reckonsTo 238 = .ok (.iaload, 1) := by decide +kernel
theorem dX12_reckonsTo_239 : decode cX12_reckonsTo 239 = .ok (.ireturn, 1) := by decide +kernel
set_option maxHeartbeats 4000000 in
set_option maxRecDepth 100000 in
theorem kL_X12_reckonsTo_16 {X : GC} {E : GE} (C : Cx X E cX12_reckonsTo RX12 2 8) (o_t : Nat) (a_t : Nat → Nat) (t_toldDoors : Int32) (t_barredDoors : Int32) (t_taped : Int32) (t_place0 : Int32) (t_length0 : Int32) (t_fault : Int32) (t_number0 : Int32) (t_open : Int32) (t_codeMany : Int32) (t_waiting : Int32) (t_saidMany : Int32) (t_clauses : Int32) (t_newMany : Int32) (t_rounds : Int32) (t_pinFrom : Int32) (t_pinTimes : Int32) (t_lines : Int32) (t_wasTold : Int32) (t_wasBarred : Int32) (t_goesNow : Int32) (t_jamsNow : Int32) (t_queued : Int32) (t_isKept : Int32) (t_codes : (Nat → Int32)) (t_facts : (Nat → Int32)) (x2 : Int32) (x4 : Int32) (k0 : (Nat → Int32) → Option (Int32 × (Nat → Int32))) {r : Int32 × (Nat → Int32)} (hret : RtI X E cX12_reckonsTo .int 0 0 (fun w => w = (W_X12_reckonsTo E o_t a_t t_toldDoors t_barredDoors t_taped t_place0 t_length0 t_fault t_number0 t_open t_codeMany t_waiting t_saidMany t_clauses t_newMany t_rounds t_pinFrom t_pinTimes t_lines t_wasTold t_wasBarred t_goesNow t_jamsNow t_queued t_isKept t_codes r.2 t_facts)) r.1) (hk0 : ∀ u, k0 u = some r → Gx X E 0 0 (W_X12_reckonsTo E o_t a_t t_toldDoors t_barredDoors t_taped t_place0 t_length0 t_fault t_number0 t_open t_codeMany t_waiting t_saidMany t_clauses t_newMany t_rounds t_pinFrom t_pinTimes t_lines t_wasTold t_wasBarred t_goesNow t_jamsNow t_queued t_isKept t_codes u t_facts) 233 [(0, .ref o_t)] []) : ∀ (n : Nat) (s : Int32 × Int32 × (Nat → Int32)), L_X12_reckonsTo_16 t_codes t_facts x2 x4 k0 n s = some r → Gx X E 0 0 (W_X12_reckonsTo E o_t a_t t_toldDoors t_barredDoors t_taped t_place0 t_length0 t_fault t_number0 t_open t_codeMany t_waiting t_saidMany t_clauses t_newMany t_rounds t_pinFrom t_pinTimes t_lines t_wasTold t_wasBarred t_goesNow t_jamsNow t_queued t_isKept t_codes s.2.2 t_facts) 16 [(0, .ref o_t), (2, .int x2), (3, .int s.1), (4, .int x4), (5, .int s.2.1)] [] := by
  unfold L_X12_reckonsTo_16
  refine lp_ind _ (fun go ih s h => ?_)
  refine g_iload (pc := 16) C dX12_reckonsTo_16 4 rfl ?_
  refine g_iload_n (pc := 18) C dX12_reckonsTo_18 rfl 1 rfl ?_
  refine g_icmp_ge (pc := 19) (tgt := 233) C dX12_reckonsTo_19 (by decide) h (fun h => ?_) (fun h => ?_)
  · refine g_sub [0] rfl ?_
    exact hk0 _ h
  · refine g_aload_n (pc := 22) C dX12_reckonsTo_22 rfl 0 rfl ?_
    refine g_get (pc := 23) C fl_X12_65 dX12_reckonsTo_23 0 rfl rfl ?_
    refine g_iload (pc := 26) C dX12_reckonsTo_26 4 rfl ?_
    refine g_iald (pc := 28) C dX12_reckonsTo_28 1 rfl h (fun v3 h => ?_)
    refine g_ldc (pc := 29) C dX12_reckonsTo_29 ct_X12_172 ?_
    refine g_idiv (pc := 31) C dX12_reckonsTo_31 h (fun v4 h => ?_)
    refine g_istore (pc := 32) (lv' := [(6, .int v4), (0, .ref o_t), (2, .int x2), (3, .int s.1), (4, .int x4), (5, .int s.2.1)]) C dX12_reckonsTo_32 (by decide) rfl ?_
    refine g_aload_n (pc := 34) C dX12_reckonsTo_34 rfl 1 rfl ?_
    refine g_get (pc := 35) C fl_X12_65 dX12_reckonsTo_35 0 rfl rfl ?_
    refine g_iload (pc := 38) C dX12_reckonsTo_38 5 rfl ?_
    refine g_iald (pc := 40) C dX12_reckonsTo_40 1 rfl h (fun v5 h => ?_)
    refine g_ldc (pc := 41) C dX12_reckonsTo_41 ct_X12_172 ?_
    refine g_irem (pc := 43) C dX12_reckonsTo_43 h (fun v6 h => ?_)
    refine g_istore (pc := 44) (lv' := [(7, .int v6), (6, .int v4), (0, .ref o_t), (2, .int x2), (3, .int s.1), (4, .int x4), (5, .int s.2.1)]) C dX12_reckonsTo_44 (by decide) rfl ?_
    refine g_iload (pc := 46) C dX12_reckonsTo_46 6 rfl ?_
    refine g_iconst (pc := 48) (v := 1) C dX12_reckonsTo_48 (by decide) ?_
    refine g_iadd (pc := 49) C dX12_reckonsTo_49 ?_
    refine g_nm h (fun v7 h => ?_)
    refine g_istore (pc := 50) (lv' := [(5, .int v7), (7, .int v6), (6, .int v4), (0, .ref o_t), (2, .int x2), (3, .int s.1), (4, .int x4)]) C dX12_reckonsTo_50 (by decide) rfl ?_
    refine g_iload (pc := 52) C dX12_reckonsTo_52 2 rfl ?_
    refine g_jn (fun s8 : Unit => Gx X E 0 0 (W_X12_reckonsTo E o_t a_t t_toldDoors t_barredDoors t_taped t_place0 t_length0 t_fault t_number0 t_open t_codeMany t_waiting t_saidMany t_clauses t_newMany t_rounds t_pinFrom t_pinTimes t_lines t_wasTold t_wasBarred t_goesNow t_jamsNow t_queued t_isKept t_codes s.2.2 t_facts) 63 [(0, .ref o_t), (2, .int x2), (3, .int s.1), (4, .int x4), (5, .int v7), (6, .int v4), (7, .int v6)] []) h (fun s8 h => ?_) (fun j63 hj63 h => ?_)
    · refine g_aload_n (pc := 63) C dX12_reckonsTo_63 rfl 0 rfl ?_
      refine g_get (pc := 64) C fl_X12_80 dX12_reckonsTo_64 0 rfl rfl ?_
      refine g_iload_n (pc := 67) C dX12_reckonsTo_67 rfl 2 rfl ?_
      refine g_iload (pc := 68) C dX12_reckonsTo_68 5 rfl ?_
      refine g_jn (fun s9 : Int32 => Gx X E 0 0 (W_X12_reckonsTo E o_t a_t t_toldDoors t_barredDoors t_taped t_place0 t_length0 t_fault t_number0 t_open t_codeMany t_waiting t_saidMany t_clauses t_newMany t_rounds t_pinFrom t_pinTimes t_lines t_wasTold t_wasBarred t_goesNow t_jamsNow t_queued t_isKept t_codes s.2.2 t_facts) 85 [(0, .ref o_t), (2, .int x2), (3, .int s.1), (4, .int x4), (5, .int v7)] [.int s9, .int s.1, .ref (a_t 35)]) h (fun s9 h => ?_) (fun j85 hj85 h => ?_)
      · refine g_iast (pc := 85) C dX12_reckonsTo_85 2 rfl h (fun g10 h => ?_)
        refine g_ws (ws' := (W_X12_reckonsTo E o_t a_t t_toldDoors t_barredDoors t_taped t_place0 t_length0 t_fault t_number0 t_open t_codeMany t_waiting t_saidMany t_clauses t_newMany t_rounds t_pinFrom t_pinTimes t_lines t_wasTold t_wasBarred t_goesNow t_jamsNow t_queued t_isKept t_codes g10 t_facts)) rfl ?_
        refine g_iload_n (pc := 86) C dX12_reckonsTo_86 rfl 2 rfl ?_
        refine g_iconst (pc := 87) (v := 1) C dX12_reckonsTo_87 (by decide) ?_
        refine g_iadd (pc := 88) C dX12_reckonsTo_88 ?_
        refine g_nm h (fun v11 h => ?_)
        refine g_istore_n (pc := 89) (lv' := [(3, .int v11), (0, .ref o_t), (2, .int x2), (4, .int x4), (5, .int v7)]) C dX12_reckonsTo_89 rfl (by decide) rfl ?_
        refine g_goto (pc := 90) (tgt := 230) C dX12_reckonsTo_90 (by decide) ?_
        refine g_goto (pc := 230) (tgt := 16) C dX12_reckonsTo_230 (by decide) ?_
        refine g_sub [1, 2, 0, 3, 4] rfl ?_
        exact ih _ h
      refine g_if_ne (pc := 70) (tgt := 78) C dX12_reckonsTo_70 (by decide) h (fun h => ?_) (fun h => ?_)
      · refine g_aload_n (pc := 78) C dX12_reckonsTo_78 rfl 0 rfl ?_
        refine g_get (pc := 79) C fl_X12_83 dX12_reckonsTo_79 0 rfl rfl ?_
        refine g_iload (pc := 82) C dX12_reckonsTo_82 6 rfl ?_
        refine g_iald (pc := 84) C dX12_reckonsTo_84 3 rfl h (fun v12 h => ?_)
        refine g_sub [0, 1, 2, 3, 4] rfl ?_
        exact hj85 _ h
      · refine g_iload (pc := 73) C dX12_reckonsTo_73 6 rfl ?_
        refine g_goto (pc := 75) (tgt := 85) C dX12_reckonsTo_75 (by decide) ?_
        refine g_sub [0, 1, 2, 3, 4] rfl ?_
        exact hj85 _ h
    refine g_if_eq (pc := 54) (tgt := 63) C dX12_reckonsTo_54 (by decide) h (fun h => ?_) (fun h => ?_)
    · refine g_sub [3, 4, 5, 6, 0, 2, 1] rfl ?_
      exact hj63 _ h
    · refine g_iload (pc := 57) C dX12_reckonsTo_57 2 rfl ?_
      refine g_iconst (pc := 59) (v := 1) C dX12_reckonsTo_59 (by decide) ?_
      refine g_icmp_ne (pc := 60) (tgt := 93) C dX12_reckonsTo_60 (by decide) h (fun h => ?_) (fun h => ?_)
      · refine g_iload (pc := 93) C dX12_reckonsTo_93 2 rfl ?_
        refine g_bipush (pc := 95) (v := 10) C dX12_reckonsTo_95 (by decide) ?_
        refine g_icmp_ne (pc := 97) (tgt := 121) C dX12_reckonsTo_97 (by decide) h (fun h => ?_) (fun h => ?_)
        · refine g_iload (pc := 121) C dX12_reckonsTo_121 2 rfl ?_
          refine g_bipush (pc := 123) (v := 11) C dX12_reckonsTo_123 (by decide) ?_
          refine g_jn (fun s13 : Unit => Gx X E 0 0 (W_X12_reckonsTo E o_t a_t t_toldDoors t_barredDoors t_taped t_place0 t_length0 t_fault t_number0 t_open t_codeMany t_waiting t_saidMany t_clauses t_newMany t_rounds t_pinFrom t_pinTimes t_lines t_wasTold t_wasBarred t_goesNow t_jamsNow t_queued t_isKept t_codes s.2.2 t_facts) 135 [(0, .ref o_t), (2, .int x2), (3, .int s.1), (4, .int x4), (5, .int v7), (6, .int v4), (7, .int v6)] []) h (fun s13 h => ?_) (fun j135 hj135 h => ?_)
          · refine g_aload_n (pc := 135) C dX12_reckonsTo_135 rfl 0 rfl ?_
            refine g_get (pc := 136) C fl_X12_80 dX12_reckonsTo_136 0 rfl rfl ?_
            refine g_iload_n (pc := 139) C dX12_reckonsTo_139 rfl 2 rfl ?_
            refine g_iconst (pc := 140) (v := 1) C dX12_reckonsTo_140 (by decide) ?_
            refine g_isub (pc := 141) C dX12_reckonsTo_141 ?_
            refine g_iald (pc := 142) C dX12_reckonsTo_142 2 rfl h (fun v14 h => ?_)
            refine g_iload (pc := 143) C dX12_reckonsTo_143 5 rfl ?_
            refine g_bipush (pc := 145) (v := 12) C dX12_reckonsTo_145 (by decide) ?_
            refine g_jn (fun s15 : Int32 => Gx X E 0 0 (W_X12_reckonsTo E o_t a_t t_toldDoors t_barredDoors t_taped t_place0 t_length0 t_fault t_number0 t_open t_codeMany t_waiting t_saidMany t_clauses t_newMany t_rounds t_pinFrom t_pinTimes t_lines t_wasTold t_wasBarred t_goesNow t_jamsNow t_queued t_isKept t_codes s.2.2 t_facts) 155 [(0, .ref o_t), (2, .int x2), (3, .int s.1), (4, .int x4), (5, .int v7), (7, .int v6)] [.int s15, .int v14]) h (fun s15 h => ?_) (fun j155 hj155 h => ?_)
            · refine g_icmp_ne (pc := 155) (tgt := 168) C dX12_reckonsTo_155 (by decide) h (fun h => ?_) (fun h => ?_)
              · refine g_iload_n (pc := 168) C dX12_reckonsTo_168 rfl 2 rfl ?_
                refine g_iconst (pc := 169) (v := 1) C dX12_reckonsTo_169 (by decide) ?_
                refine g_isub (pc := 170) C dX12_reckonsTo_170 ?_
                refine g_nm h (fun v16 h => ?_)
                refine g_istore_n (pc := 171) (lv' := [(3, .int v16), (0, .ref o_t), (2, .int x2), (4, .int x4), (5, .int v7), (7, .int v6)]) C dX12_reckonsTo_171 rfl (by decide) rfl ?_
                refine g_goto (pc := 172) (tgt := 230) C dX12_reckonsTo_172 (by decide) ?_
                refine g_goto (pc := 230) (tgt := 16) C dX12_reckonsTo_230 (by decide) ?_
                refine g_sub [1, 2, 0, 3, 4] rfl ?_
                exact ih _ h
              · refine g_iload (pc := 158) C dX12_reckonsTo_158 3 rfl ?_
                refine g_iload (pc := 160) C dX12_reckonsTo_160 5 rfl ?_
                refine g_iadd (pc := 162) C dX12_reckonsTo_162 ?_
                refine g_nm h (fun v17 h => ?_)
                refine g_istore (pc := 163) (lv' := [(5, .int v17), (0, .ref o_t), (2, .int x2), (3, .int s.1), (4, .int x4), (7, .int v6)]) C dX12_reckonsTo_163 (by decide) rfl ?_
                refine g_goto (pc := 165) (tgt := 230) C dX12_reckonsTo_165 (by decide) ?_
                refine g_goto (pc := 230) (tgt := 16) C dX12_reckonsTo_230 (by decide) ?_
                refine g_sub [1, 2, 3, 4, 0] rfl ?_
                exact ih _ h
            refine g_icmp_ne (pc := 147) (tgt := 154) C dX12_reckonsTo_147 (by decide) h (fun h => ?_) (fun h => ?_)
            · refine g_iconst (pc := 154) (v := 0) C dX12_reckonsTo_154 (by decide) ?_
              refine g_sub [0, 1, 2, 3, 4, 6] rfl ?_
              exact hj155 _ h
            · refine g_iconst (pc := 150) (v := 1) C dX12_reckonsTo_150 (by decide) ?_
              refine g_goto (pc := 151) (tgt := 155) C dX12_reckonsTo_151 (by decide) ?_
              refine g_sub [0, 1, 2, 3, 4, 6] rfl ?_
              exact hj155 _ h
          refine g_icmp_eq (pc := 125) (tgt := 135) C dX12_reckonsTo_125 (by decide) h (fun h => ?_) (fun h => ?_)
          · refine g_sub [3, 4, 5, 6, 0, 2, 1] rfl ?_
            exact hj135 _ h
          · refine g_iload (pc := 128) C dX12_reckonsTo_128 2 rfl ?_
            refine g_bipush (pc := 130) (v := 12) C dX12_reckonsTo_130 (by decide) ?_
            refine g_icmp_ne (pc := 132) (tgt := 175) C dX12_reckonsTo_132 (by decide) h (fun h => ?_) (fun h => ?_)
            · refine g_iload_n (pc := 175) C dX12_reckonsTo_175 rfl 5 rfl ?_
              refine g_iconst (pc := 176) (v := 1) C dX12_reckonsTo_176 (by decide) ?_
              refine g_isub (pc := 177) C dX12_reckonsTo_177 ?_
              refine g_nm h (fun v18 h => ?_)
              refine g_istore_n (pc := 178) (lv' := [(3, .int v18), (5, .int v7), (7, .int v6), (6, .int v4), (0, .ref o_t), (2, .int x2), (4, .int x4)]) C dX12_reckonsTo_178 rfl (by decide) rfl ?_
              refine g_iload (pc := 179) C dX12_reckonsTo_179 3 rfl ?_
              refine g_iconst (pc := 181) (v := 5) C dX12_reckonsTo_181 (by decide) ?_
              refine g_jn (fun s19 : Unit => Gx X E 0 0 (W_X12_reckonsTo E o_t a_t t_toldDoors t_barredDoors t_taped t_place0 t_length0 t_fault t_number0 t_open t_codeMany t_waiting t_saidMany t_clauses t_newMany t_rounds t_pinFrom t_pinTimes t_lines t_wasTold t_wasBarred t_goesNow t_jamsNow t_queued t_isKept t_codes s.2.2 t_facts) 203 [(0, .ref o_t), (2, .int x2), (3, .int v18), (4, .int x4), (5, .int v7), (6, .int v4)] []) h (fun s19 h => ?_) (fun j203 hj203 h => ?_)
              · refine g_aload_n (pc := 203) C dX12_reckonsTo_203 rfl 0 rfl ?_
                refine g_get (pc := 204) C fl_X12_80 dX12_reckonsTo_204 0 rfl rfl ?_
                refine g_iload_n (pc := 207) C dX12_reckonsTo_207 rfl 2 rfl ?_
                refine g_iconst (pc := 208) (v := 1) C dX12_reckonsTo_208 (by decide) ?_
                refine g_isub (pc := 209) C dX12_reckonsTo_209 ?_
                refine g_iload (pc := 210) C dX12_reckonsTo_210 5 rfl ?_
                refine g_aload_n (pc := 212) C dX12_reckonsTo_212 rfl 0 rfl ?_
                refine g_get (pc := 213) C fl_X12_80 dX12_reckonsTo_213 0 rfl rfl ?_
                refine g_iload_n (pc := 216) C dX12_reckonsTo_216 rfl 2 rfl ?_
                refine g_iconst (pc := 217) (v := 1) C dX12_reckonsTo_217 (by decide) ?_
                refine g_isub (pc := 218) C dX12_reckonsTo_218 ?_
                refine g_iald (pc := 219) C dX12_reckonsTo_219 2 rfl h (fun v20 h => ?_)
                refine g_aload_n (pc := 220) C dX12_reckonsTo_220 rfl 0 rfl ?_
                refine g_get (pc := 221) C fl_X12_80 dX12_reckonsTo_221 0 rfl rfl ?_
                refine g_iload_n (pc := 224) C dX12_reckonsTo_224 rfl 2 rfl ?_
                refine g_iald (pc := 225) C dX12_reckonsTo_225 2 rfl h (fun v21 h => ?_)
                obtain ⟨u22, hu22, h⟩ := bs h
                refine g_callS (pc := 226) (st := [.int (v18 - (1 : Int32)), .ref (a_t 35)]) (st1 := [.int u22, .int (v18 - (1 : Int32)), .ref (a_t 35)]) (ws' := (W_X12_reckonsTo E o_t a_t t_toldDoors t_barredDoors t_taped t_place0 t_length0 t_fault t_number0 t_open t_codeMany t_waiting t_saidMany t_clauses t_newMany t_rounds t_pinFrom t_pinTimes t_lines t_wasTold t_wasBarred t_goesNow t_jamsNow t_queued t_isKept t_codes s.2.2 t_facts)) C mv_X12_reckon ms_X12_reckon ml_X12_242 (c_X12_reckon X.2.1 E v4 v20 v21 u22 hu22) dX12_reckonsTo_226 (by decide) rfl (Nat.le_of_ble_eq_true rfl) [] rfl (by decide) rfl rfl rfl rfl ?_
                refine g_iast (pc := 229) C dX12_reckonsTo_229 2 rfl h (fun g23 h => ?_)
                refine g_ws (ws' := (W_X12_reckonsTo E o_t a_t t_toldDoors t_barredDoors t_taped t_place0 t_length0 t_fault t_number0 t_open t_codeMany t_waiting t_saidMany t_clauses t_newMany t_rounds t_pinFrom t_pinTimes t_lines t_wasTold t_wasBarred t_goesNow t_jamsNow t_queued t_isKept t_codes g23 t_facts)) rfl ?_
                refine g_goto (pc := 230) (tgt := 16) C dX12_reckonsTo_230 (by decide) ?_
                refine g_sub [0, 1, 2, 3, 4] rfl ?_
                exact ih _ h
              refine g_jn (fun s24 : Unit => Gx X E 0 0 (W_X12_reckonsTo E o_t a_t t_toldDoors t_barredDoors t_taped t_place0 t_length0 t_fault t_number0 t_open t_codeMany t_waiting t_saidMany t_clauses t_newMany t_rounds t_pinFrom t_pinTimes t_lines t_wasTold t_wasBarred t_goesNow t_jamsNow t_queued t_isKept t_codes s.2.2 t_facts) 192 [(0, .ref o_t), (2, .int x2), (3, .int v18), (4, .int x4), (5, .int v7), (6, .int v4)] []) h (fun s24 h => ?_) (fun j192 hj192 h => ?_)
              · refine g_aload_n (pc := 192) C dX12_reckonsTo_192 rfl 0 rfl ?_
                refine g_get (pc := 193) C fl_X12_80 dX12_reckonsTo_193 0 rfl rfl ?_
                refine g_iload_n (pc := 196) C dX12_reckonsTo_196 rfl 2 rfl ?_
                refine g_iald (pc := 197) C dX12_reckonsTo_197 2 rfl h (fun v25 h => ?_)
                refine g_if_ne (pc := 198) (tgt := 203) C dX12_reckonsTo_198 (by decide) h (fun h => ?_) (fun h => ?_)
                · exact hj203 _ h
                · refine g_iconst (pc := 201) (v := 0) C dX12_reckonsTo_201 (by decide) ?_
                  cases h
                  exact hret _ _ _ dX12_reckonsTo_202 rfl rfl
              refine g_icmp_eq (pc := 182) (tgt := 192) C dX12_reckonsTo_182 (by decide) h (fun h => ?_) (fun h => ?_)
              · refine g_sub [4, 5, 0, 6, 1, 3] rfl ?_
                exact hj192 _ h
              · refine g_iload (pc := 185) C dX12_reckonsTo_185 3 rfl ?_
                refine g_bipush (pc := 187) (v := 6) C dX12_reckonsTo_187 (by decide) ?_
                refine g_icmp_ne (pc := 189) (tgt := 203) C dX12_reckonsTo_189 (by decide) h (fun h => ?_) (fun h => ?_)
                · refine g_sub [4, 5, 0, 6, 1, 3] rfl ?_
                  exact hj203 _ h
                · refine g_sub [4, 5, 0, 6, 1, 3] rfl ?_
                  exact hj192 _ h
            · refine g_sub [3, 4, 5, 6, 0, 2, 1] rfl ?_
              exact hj135 _ h
        · refine g_aload_n (pc := 100) C dX12_reckonsTo_100 rfl 3 rfl ?_
          refine g_get (pc := 101) C fl_X12_80 dX12_reckonsTo_101 0 rfl rfl ?_
          refine g_iload_n (pc := 104) C dX12_reckonsTo_104 rfl 5 rfl ?_
          refine g_iconst (pc := 105) (v := 1) C dX12_reckonsTo_105 (by decide) ?_
          refine g_isub (pc := 106) C dX12_reckonsTo_106 ?_
          refine g_iconst (pc := 107) (v := 1) C dX12_reckonsTo_107 (by decide) ?_
          refine g_aload_n (pc := 108) C dX12_reckonsTo_108 rfl 3 rfl ?_
          refine g_get (pc := 109) C fl_X12_80 dX12_reckonsTo_109 0 rfl rfl ?_
          refine g_iload_n (pc := 112) C dX12_reckonsTo_112 rfl 5 rfl ?_
          refine g_iconst (pc := 113) (v := 1) C dX12_reckonsTo_113 (by decide) ?_
          refine g_isub (pc := 114) C dX12_reckonsTo_114 ?_
          refine g_iald (pc := 115) C dX12_reckonsTo_115 2 rfl h (fun v26 h => ?_)
          refine g_isub (pc := 116) C dX12_reckonsTo_116 ?_
          refine g_iast (pc := 117) C dX12_reckonsTo_117 2 rfl h (fun g27 h => ?_)
          refine g_ws (ws' := (W_X12_reckonsTo E o_t a_t t_toldDoors t_barredDoors t_taped t_place0 t_length0 t_fault t_number0 t_open t_codeMany t_waiting t_saidMany t_clauses t_newMany t_rounds t_pinFrom t_pinTimes t_lines t_wasTold t_wasBarred t_goesNow t_jamsNow t_queued t_isKept t_codes g27 t_facts)) rfl ?_
          refine g_goto (pc := 118) (tgt := 230) C dX12_reckonsTo_118 (by decide) ?_
          refine g_goto (pc := 230) (tgt := 16) C dX12_reckonsTo_230 (by decide) ?_
          refine g_sub [3, 4, 5, 6, 0] rfl ?_
          exact ih _ h
      · refine g_sub [3, 4, 5, 6, 0, 2, 1] rfl ?_
        exact hj63 _ h
set_option maxHeartbeats 4000000 in
set_option maxRecDepth 100000 in
theorem c_X12_reckonsTo (l : Launch) (E : GE) (o_t : Nat) (a_t : Nat → Nat) (t_toldDoors : Int32) (t_barredDoors : Int32) (t_taped : Int32) (t_place0 : Int32) (t_length0 : Int32) (t_fault : Int32) (t_number0 : Int32) (t_open : Int32) (t_codeMany : Int32) (t_waiting : Int32) (t_saidMany : Int32) (t_clauses : Int32) (t_newMany : Int32) (t_rounds : Int32) (t_pinFrom : Int32) (t_pinTimes : Int32) (t_lines : Int32) (t_wasTold : Int32) (t_wasBarred : Int32) (t_goesNow : Int32) (t_jamsNow : Int32) (t_queued : Int32) (t_isKept : Int32) (t_codes : (Nat → Int32)) (t_stack : (Nat → Int32)) (t_facts : (Nat → Int32)) (x1 : Int32) (x2 : Int32) (r : Int32 × (Nat → Int32)) (h : f_X12_reckonsTo t_codes t_stack t_facts x1 x2 = some r) : Cn l E yX12_reckonsTo cX12_reckonsTo 8 (some .int) 2 0 0 [.ref o_t, .int x1, .int x2] (W_X12_reckonsTo E o_t a_t t_toldDoors t_barredDoors t_taped t_place0 t_length0 t_fault t_number0 t_open t_codeMany t_waiting t_saidMany t_clauses t_newMany t_rounds t_pinFrom t_pinTimes t_lines t_wasTold t_wasBarred t_goesNow t_jamsNow t_queued t_isKept t_codes t_stack t_facts) (fun w => w = (W_X12_reckonsTo E o_t a_t t_toldDoors t_barredDoors t_taped t_place0 t_length0 t_fault t_number0 t_open t_codeMany t_waiting t_saidMany t_clauses t_newMany t_rounds t_pinFrom t_pinTimes t_lines t_wasTold t_wasBarred t_goesNow t_jamsNow t_queued t_isKept t_codes r.2 t_facts)) (some (.int r.1)) := by
  refine Cn.ofI (by decide +kernel) (Nat.le_of_ble_eq_true rfl) (fun X hX hR C hret => ?_)
  subst hX
  show Gx X E 0 0 (W_X12_reckonsTo E o_t a_t t_toldDoors t_barredDoors t_taped t_place0 t_length0 t_fault t_number0 t_open t_codeMany t_waiting t_saidMany t_clauses t_newMany t_rounds t_pinFrom t_pinTimes t_lines t_wasTold t_wasBarred t_goesNow t_jamsNow t_queued t_isKept t_codes t_stack t_facts) 0 [(0, .ref o_t), (1, .int x1), (2, .int x2)] []
  unfold f_X12_reckonsTo at h
  refine g_iconst (pc := 0) (v := 0) C dX12_reckonsTo_0 (by decide) ?_
  refine g_istore_n (pc := 1) (lv' := [(3, .int (0 : Int32)), (0, .ref o_t), (1, .int x1), (2, .int x2)]) C dX12_reckonsTo_1 rfl (by decide) rfl ?_
  refine g_sipush (pc := 2) (v := 260) C dX12_reckonsTo_2 (by decide) ?_
  refine g_iload_n (pc := 5) C dX12_reckonsTo_5 rfl 2 rfl ?_
  refine g_sipush (pc := 6) (v := 260) C dX12_reckonsTo_6 (by decide) ?_
  refine g_idiv (pc := 9) C dX12_reckonsTo_9 h (fun v1 h => ?_)
  refine g_imul (pc := 10) C dX12_reckonsTo_10 ?_
  refine g_nm h (fun v2 h => ?_)
  refine g_istore (pc := 11) (lv' := [(4, .int v2), (3, .int (0 : Int32)), (0, .ref o_t), (1, .int x1), (2, .int x2)]) C dX12_reckonsTo_11 (by decide) rfl ?_
  refine g_iload_n (pc := 13) C dX12_reckonsTo_13 rfl 3 rfl ?_
  refine g_istore (pc := 14) (lv' := [(5, .int x1), (4, .int v2), (3, .int (0 : Int32)), (0, .ref o_t), (1, .int x1), (2, .int x2)]) C dX12_reckonsTo_14 (by decide) rfl ?_
  refine g_sub [3, 5, 2, 1, 0] rfl ?_
  refine kL_X12_reckonsTo_16 C o_t a_t t_toldDoors t_barredDoors t_taped t_place0 t_length0 t_fault t_number0 t_open t_codeMany t_waiting t_saidMany t_clauses t_newMany t_rounds t_pinFrom t_pinTimes t_lines t_wasTold t_wasBarred t_goesNow t_jamsNow t_queued t_isKept t_codes t_facts x2 v2 _ hret (fun s28 h => ?_) _ _ h
  refine g_aload_n (pc := 233) C dX12_reckonsTo_233 rfl 0 rfl ?_
  refine g_get (pc := 234) C fl_X12_80 dX12_reckonsTo_234 0 rfl rfl ?_
  refine g_iconst (pc := 237) (v := 0) C dX12_reckonsTo_237 (by decide) ?_
  refine g_iald (pc := 238) C dX12_reckonsTo_238 2 rfl h (fun v29 h => ?_)
  cases h
  exact hret _ _ _ dX12_reckonsTo_239 rfl rfl
abbrev W_X12_repeats (E : GE) (O_t : Nat) (a_t : Nat → Nat) (t_toldDoors : Int32) (t_barredDoors : Int32) (t_taped : Int32) (t_place0 : Int32) (t_length0 : Int32) (t_fault : Int32) (t_number0 : Int32) (t_open : Int32) (t_codeMany : Int32) (t_waiting : Int32) (t_saidMany : Int32) (t_clauses : Int32) (t_newMany : Int32) (t_rounds : Int32) (t_pinFrom : Int32) (t_pinTimes : Int32) (t_lines : Int32) (t_wasTold : Int32) (t_wasBarred : Int32) (t_goesNow : Int32) (t_jamsNow : Int32) (t_queued : Int32) (t_isKept : Int32) (t_newPins : (Nat → Int32)) : va_W := [(O_t, ob_X12 a_t t_toldDoors t_barredDoors t_taped t_place0 t_length0 t_fault t_number0 t_open t_codeMany t_waiting t_saidMany t_clauses t_newMany t_rounds t_pinFrom t_pinTimes t_lines t_wasTold t_wasBarred t_goesNow t_jamsNow t_queued t_isKept), (a_t 37, .inl (E.2.1, 60, .inl t_newPins))]
def L_X12_repeats_31 (t_fault : Int32) (t_newMany : Int32) (x1 : Int32) (x2 : Int32) (x4 : Int32) : Nat → Int32 × (Nat → Int32) → Option (Int32 × Int32 × Int32 × (Nat → Int32)) := lp fun go s => if (x4 * x2) ≤ s.1 then (nm (x1 + (x4 * x2)) fun v2 => some ((1 : Int32), t_fault, v2, s.2)) else rd s.2 60 ((x1 + s.1) - x4) fun v3 => wr s.2 60 (x1 + s.1) v3 fun g4 => nm (s.1 + (1 : Int32)) fun v5 => go (v5, g4)
def f_X12_repeats (t_fault : Int32) (t_newMany : Int32) (t_newPins : (Nat → Int32)) (x1 : Int32) (x2 : Int32) (x3 : Int32) : Option (Int32 × Int32 × Int32 × (Nat → Int32)) := nm (t_newMany - x1) fun v1 => if (x1 + (v1 * x2)) ≤ (60 : Int32) then (L_X12_repeats_31 t_fault t_newMany x1 x2 v1 fu (v1, t_newPins)) else (f_X12_wrongAt t_fault (6 : Int32) x3).bind fun u6 => gb u6.1 <| some (u6.1, u6.2, t_newMany, t_newPins)
theorem dX12_repeats_0 : decode cX12_repeats 0 = .ok (.aload_n 0, 1) := by decide +kernel
theorem dX12_repeats_1 : decode cX12_repeats 1 = .ok (.getfield 256, 3) := by decide +kernel
theorem dX12_repeats_4 : decode cX12_repeats 4 = .ok (.iload_n 1, 1) := by decide +kernel
theorem dX12_repeats_5 : decode cX12_repeats 5 = .ok (.isub, 1) := by decide +kernel
theorem dX12_repeats_6 : decode cX12_repeats 6 = .ok (.istore 4, 2) := by decide +kernel
theorem dX12_repeats_8 : decode cX12_repeats 8 = .ok (.iload_n 1, 1) := by decide +kernel
theorem dX12_repeats_9 : decode cX12_repeats 9 = .ok (.iload 4, 2) := by decide +kernel
theorem dX12_repeats_11 : decode cX12_repeats 11 = .ok (.iload_n 2, 1) := by decide +kernel
theorem dX12_repeats_12 : decode cX12_repeats 12 = .ok (.imul, 1) := by decide +kernel
theorem dX12_repeats_13 : decode cX12_repeats 13 = .ok (.iadd, 1) := by decide +kernel
theorem dX12_repeats_14 : decode cX12_repeats 14 = .ok (.bipush 60, 2) := by decide +kernel
theorem dX12_repeats_16 : decode cX12_repeats 16 = .ok (.if_icmp .le 11, 3) := by decide +kernel
theorem dX12_repeats_19 : decode cX12_repeats 19 = .ok (.aload_n 0, 1) := by decide +kernel
theorem dX12_repeats_20 : decode cX12_repeats 20 = .ok (.bipush 6, 2) := by decide +kernel
theorem dX12_repeats_22 : decode cX12_repeats 22 = .ok (.iload_n 3, 1) := by decide +kernel
theorem dX12_repeats_23 : decode cX12_repeats 23 = .ok (.invokevirtual 159, 3) := by decide +kernel
theorem dX12_repeats_26 : decode cX12_repeats 26 = .ok (.ireturn, 1) := by decide +kernel
theorem dX12_repeats_27 : decode cX12_repeats 27 = .ok (.iload 4, 2) := by decide +kernel
theorem dX12_repeats_29 : decode cX12_repeats 29 = .ok (.istore 5, 2) := by decide +kernel
theorem dX12_repeats_31 : decode cX12_repeats 31 = .ok (.iload 5, 2) := by decide +kernel
theorem dX12_repeats_33 : decode cX12_repeats 33 = .ok (.iload 4, 2) := by decide +kernel
theorem dX12_repeats_35 : decode cX12_repeats 35 = .ok (.iload_n 2, 1) := by decide +kernel
theorem dX12_repeats_36 : decode cX12_repeats 36 = .ok (.imul, 1) := by decide +kernel
theorem dX12_repeats_37 : decode cX12_repeats 37 = .ok (.if_icmp .ge 30, 3) := by decide +kernel
theorem dX12_repeats_40 : decode cX12_repeats 40 = .ok (.aload_n 0, 1) := by decide +kernel
theorem dX12_repeats_41 : decode cX12_repeats 41 = .ok (.getfield 86, 3) := by decide +kernel
theorem dX12_repeats_44 : decode cX12_repeats 44 = .ok (.iload_n 1, 1) := by decide +kernel
theorem dX12_repeats_45 : decode cX12_repeats 45 = .ok (.iload 5, 2) := by decide +kernel
theorem dX12_repeats_47 : decode cX12_repeats 47 = .ok (.iadd, 1) := by decide +kernel
theorem dX12_repeats_48 : decode cX12_repeats 48 = .ok (.aload_n 0, 1) := by decide +kernel
theorem dX12_repeats_49 : decode cX12_repeats 49 = .ok (.getfield 86, 3) := by decide +kernel
theorem dX12_repeats_52 : decode cX12_repeats 52 = .ok (.iload_n 1, 1) := by decide +kernel
theorem dX12_repeats_53 : decode cX12_repeats 53 = .ok (.iload 5, 2) := by decide +kernel
theorem dX12_repeats_55 : decode cX12_repeats 55 = .ok (.iadd, 1) := by decide +kernel
theorem dX12_repeats_56 : decode cX12_repeats 56 = .ok (.iload 4, 2) := by decide +kernel
theorem dX12_repeats_58 : decode cX12_repeats 58 = .ok (.isub, 1) := by decide +kernel
theorem dX12_repeats_59 : decode cX12_repeats 59 = .ok (.iaload, 1) := by decide +kernel
theorem dX12_repeats_60 : decode cX12_repeats 60 = .ok (.iastore, 1) := by decide +kernel
theorem dX12_repeats_61 : decode cX12_repeats 61 = .ok (.iinc 5 1, 3) := by decide +kernel
theorem dX12_repeats_64 : decode cX12_repeats 64 = .ok (.goto (-33), 3) := by decide +kernel
theorem dX12_repeats_67 : decode cX12_repeats 67 = .ok (.aload_n 0, 1) := by decide +kernel
theorem dX12_repeats_68 : decode cX12_repeats 68 = .ok (.iload_n 1, 1) := by decide +kernel
theorem dX12_repeats_69 : decode cX12_repeats 69 = .ok (.iload 4, 2) := by decide +kernel
theorem dX12_repeats_71 : decode cX12_repeats 71 = .ok (.iload_n 2, 1) := by decide +kernel
theorem dX12_repeats_72 : decode cX12_repeats 72 = .ok (.imul, 1) := by decide +kernel
theorem dX12_repeats_73 : decode cX12_repeats 73 = .ok (.iadd, 1) := by decide +kernel
theorem dX12_repeats_74 : decode cX12_repeats 74 = .ok (.putfield 256, 3) := by decide +kernel
theorem dX12_repeats_77 : decode cX12_repeats 77 = .ok (.iconst 1, 1) := by decide +kernel
theorem dX12_repeats_78 : decode cX12_repeats 78 = .ok (.ireturn, 1) := by decide +kernel
set_option maxHeartbeats 4000000 in
set_option maxRecDepth 100000 in
theorem kL_X12_repeats_31 {X : GC} {E : GE} (C : Cx X E cX12_repeats RX12 2 6) (o_t : Nat) (a_t : Nat → Nat) (t_toldDoors : Int32) (t_barredDoors : Int32) (t_taped : Int32) (t_place0 : Int32) (t_length0 : Int32) (t_number0 : Int32) (t_open : Int32) (t_codeMany : Int32) (t_waiting : Int32) (t_saidMany : Int32) (t_clauses : Int32) (t_rounds : Int32) (t_pinFrom : Int32) (t_pinTimes : Int32) (t_lines : Int32) (t_wasTold : Int32) (t_wasBarred : Int32) (t_goesNow : Int32) (t_jamsNow : Int32) (t_queued : Int32) (t_isKept : Int32) (t_fault : Int32) (t_newMany : Int32) (x1 : Int32) (x2 : Int32) (x4 : Int32) {r : Int32 × Int32 × Int32 × (Nat → Int32)} (hret : RtI X E cX12_repeats .boolean 0 0 (fun w => w = (W_X12_repeats E o_t a_t t_toldDoors t_barredDoors t_taped t_place0 t_length0 r.2.1 t_number0 t_open t_codeMany t_waiting t_saidMany t_clauses r.2.2.1 t_rounds t_pinFrom t_pinTimes t_lines t_wasTold t_wasBarred t_goesNow t_jamsNow t_queued t_isKept r.2.2.2)) r.1) : ∀ (n : Nat) (s : Int32 × (Nat → Int32)), L_X12_repeats_31 t_fault t_newMany x1 x2 x4 n s = some r → Gx X E 0 0 (W_X12_repeats E o_t a_t t_toldDoors t_barredDoors t_taped t_place0 t_length0 t_fault t_number0 t_open t_codeMany t_waiting t_saidMany t_clauses t_newMany t_rounds t_pinFrom t_pinTimes t_lines t_wasTold t_wasBarred t_goesNow t_jamsNow t_queued t_isKept s.2) 31 [(0, .ref o_t), (1, .int x1), (2, .int x2), (4, .int x4), (5, .int s.1)] [] := by
  unfold L_X12_repeats_31
  refine lp_ind _ (fun go ih s h => ?_)
  refine g_iload (pc := 31) C dX12_repeats_31 4 rfl ?_
  refine g_iload (pc := 33) C dX12_repeats_33 3 rfl ?_
  refine g_iload_n (pc := 35) C dX12_repeats_35 rfl 2 rfl ?_
  refine g_imul (pc := 36) C dX12_repeats_36 ?_
  refine g_icmp_ge (pc := 37) (tgt := 67) C dX12_repeats_37 (by decide) h (fun h => ?_) (fun h => ?_)
  · refine g_aload_n (pc := 67) C dX12_repeats_67 rfl 0 rfl ?_
    refine g_iload_n (pc := 68) C dX12_repeats_68 rfl 1 rfl ?_
    refine g_iload (pc := 69) C dX12_repeats_69 3 rfl ?_
    refine g_iload_n (pc := 71) C dX12_repeats_71 rfl 2 rfl ?_
    refine g_imul (pc := 72) C dX12_repeats_72 ?_
    refine g_iadd (pc := 73) C dX12_repeats_73 ?_
    refine g_nm h (fun v2 h => ?_)
    refine g_put (pc := 74) (ws' := (W_X12_repeats E o_t a_t t_toldDoors t_barredDoors t_taped t_place0 t_length0 t_fault t_number0 t_open t_codeMany t_waiting t_saidMany t_clauses v2 t_rounds t_pinFrom t_pinTimes t_lines t_wasTold t_wasBarred t_goesNow t_jamsNow t_queued t_isKept s.2)) C .int fl_X12_256 dX12_repeats_74 0 rfl (by decide +kernel) rfl rfl (Nat.le_of_ble_eq_true rfl) rfl ?_
    refine g_iconst (pc := 77) (v := 1) C dX12_repeats_77 (by decide) ?_
    cases h
    exact hret _ _ _ dX12_repeats_78 nb1 rfl
  · refine g_aload_n (pc := 40) C dX12_repeats_40 rfl 0 rfl ?_
    refine g_get (pc := 41) C fl_X12_86 dX12_repeats_41 0 rfl rfl ?_
    refine g_iload_n (pc := 44) C dX12_repeats_44 rfl 1 rfl ?_
    refine g_iload (pc := 45) C dX12_repeats_45 4 rfl ?_
    refine g_iadd (pc := 47) C dX12_repeats_47 ?_
    refine g_aload_n (pc := 48) C dX12_repeats_48 rfl 0 rfl ?_
    refine g_get (pc := 49) C fl_X12_86 dX12_repeats_49 0 rfl rfl ?_
    refine g_iload_n (pc := 52) C dX12_repeats_52 rfl 1 rfl ?_
    refine g_iload (pc := 53) C dX12_repeats_53 4 rfl ?_
    refine g_iadd (pc := 55) C dX12_repeats_55 ?_
    refine g_iload (pc := 56) C dX12_repeats_56 3 rfl ?_
    refine g_isub (pc := 58) C dX12_repeats_58 ?_
    refine g_iald (pc := 59) C dX12_repeats_59 1 rfl h (fun v3 h => ?_)
    refine g_iast (pc := 60) C dX12_repeats_60 1 rfl h (fun g4 h => ?_)
    refine g_ws (ws' := (W_X12_repeats E o_t a_t t_toldDoors t_barredDoors t_taped t_place0 t_length0 t_fault t_number0 t_open t_codeMany t_waiting t_saidMany t_clauses t_newMany t_rounds t_pinFrom t_pinTimes t_lines t_wasTold t_wasBarred t_goesNow t_jamsNow t_queued t_isKept g4)) rfl ?_
    refine g_iincn (pc := 61) (j := 4) (d := 1) (lv' := fun v5 => [(5, .int v5), (0, .ref o_t), (1, .int x1), (2, .int x2), (4, .int x4)]) C dX12_repeats_61 rfl (by decide) (by decide) (fun _ => rfl) h (fun v5 h => ?_)
    refine g_goto (pc := 64) (tgt := 31) C dX12_repeats_64 (by decide) ?_
    refine g_sub [1, 2, 3, 4, 0] rfl ?_
    exact ih _ h
set_option maxHeartbeats 4000000 in
set_option maxRecDepth 100000 in
theorem c_X12_repeats (l : Launch) (E : GE) (o_t : Nat) (a_t : Nat → Nat) (t_toldDoors : Int32) (t_barredDoors : Int32) (t_taped : Int32) (t_place0 : Int32) (t_length0 : Int32) (t_fault : Int32) (t_number0 : Int32) (t_open : Int32) (t_codeMany : Int32) (t_waiting : Int32) (t_saidMany : Int32) (t_clauses : Int32) (t_newMany : Int32) (t_rounds : Int32) (t_pinFrom : Int32) (t_pinTimes : Int32) (t_lines : Int32) (t_wasTold : Int32) (t_wasBarred : Int32) (t_goesNow : Int32) (t_jamsNow : Int32) (t_queued : Int32) (t_isKept : Int32) (t_newPins : (Nat → Int32)) (x1 : Int32) (x2 : Int32) (x3 : Int32) (r : Int32 × Int32 × Int32 × (Nat → Int32)) (h : f_X12_repeats t_fault t_newMany t_newPins x1 x2 x3 = some r) : Cn l E yX12_repeats cX12_repeats 6 (some .boolean) 2 0 0 [.ref o_t, .int x1, .int x2, .int x3] (W_X12_repeats E o_t a_t t_toldDoors t_barredDoors t_taped t_place0 t_length0 t_fault t_number0 t_open t_codeMany t_waiting t_saidMany t_clauses t_newMany t_rounds t_pinFrom t_pinTimes t_lines t_wasTold t_wasBarred t_goesNow t_jamsNow t_queued t_isKept t_newPins) (fun w => w = (W_X12_repeats E o_t a_t t_toldDoors t_barredDoors t_taped t_place0 t_length0 r.2.1 t_number0 t_open t_codeMany t_waiting t_saidMany t_clauses r.2.2.1 t_rounds t_pinFrom t_pinTimes t_lines t_wasTold t_wasBarred t_goesNow t_jamsNow t_queued t_isKept r.2.2.2)) (some (.int r.1)) := by
  refine Cn.ofI (by decide +kernel) (Nat.le_of_ble_eq_true rfl) (fun X hX hR C hret => ?_)
  subst hX
  show Gx X E 0 0 (W_X12_repeats E o_t a_t t_toldDoors t_barredDoors t_taped t_place0 t_length0 t_fault t_number0 t_open t_codeMany t_waiting t_saidMany t_clauses t_newMany t_rounds t_pinFrom t_pinTimes t_lines t_wasTold t_wasBarred t_goesNow t_jamsNow t_queued t_isKept t_newPins) 0 [(0, .ref o_t), (1, .int x1), (2, .int x2), (3, .int x3)] []
  unfold f_X12_repeats at h
  refine g_aload_n (pc := 0) C dX12_repeats_0 rfl 0 rfl ?_
  refine g_get (pc := 1) C fl_X12_256 dX12_repeats_1 0 rfl rfl ?_
  refine g_iload_n (pc := 4) C dX12_repeats_4 rfl 1 rfl ?_
  refine g_isub (pc := 5) C dX12_repeats_5 ?_
  refine g_nm h (fun v1 h => ?_)
  refine g_istore (pc := 6) (lv' := [(4, .int v1), (0, .ref o_t), (1, .int x1), (2, .int x2), (3, .int x3)]) C dX12_repeats_6 (by decide) rfl ?_
  refine g_iload_n (pc := 8) C dX12_repeats_8 rfl 2 rfl ?_
  refine g_iload (pc := 9) C dX12_repeats_9 0 rfl ?_
  refine g_iload_n (pc := 11) C dX12_repeats_11 rfl 3 rfl ?_
  refine g_imul (pc := 12) C dX12_repeats_12 ?_
  refine g_iadd (pc := 13) C dX12_repeats_13 ?_
  refine g_bipush (pc := 14) (v := 60) C dX12_repeats_14 (by decide) ?_
  refine g_icmp_le (pc := 16) (tgt := 27) C dX12_repeats_16 (by decide) h (fun h => ?_) (fun h => ?_)
  · refine g_iload (pc := 27) C dX12_repeats_27 0 rfl ?_
    refine g_istore (pc := 29) (lv' := [(5, .int v1), (4, .int v1), (0, .ref o_t), (1, .int x1), (2, .int x2), (3, .int x3)]) C dX12_repeats_29 (by decide) rfl ?_
    refine g_sub [2, 3, 4, 1, 0] rfl ?_
    refine kL_X12_repeats_31 C o_t a_t t_toldDoors t_barredDoors t_taped t_place0 t_length0 t_number0 t_open t_codeMany t_waiting t_saidMany t_clauses t_rounds t_pinFrom t_pinTimes t_lines t_wasTold t_wasBarred t_goesNow t_jamsNow t_queued t_isKept t_fault t_newMany x1 x2 v1 hret  _ _ h
  · refine g_aload_n (pc := 19) C dX12_repeats_19 rfl 1 rfl ?_
    refine g_bipush (pc := 20) (v := 6) C dX12_repeats_20 (by decide) ?_
    refine g_iload_n (pc := 22) C dX12_repeats_22 rfl 4 rfl ?_
    obtain ⟨u6, hu6, h⟩ := bs h
    refine g_callV (pc := 23) (st := []) (st1 := [.int u6.1]) (ws' := (W_X12_repeats E o_t a_t t_toldDoors t_barredDoors t_taped t_place0 t_length0 u6.2 t_number0 t_open t_codeMany t_waiting t_saidMany t_clauses t_newMany t_rounds t_pinFrom t_pinTimes t_lines t_wasTold t_wasBarred t_goesNow t_jamsNow t_queued t_isKept t_newPins)) C mv_X12_wrongAt mi_X12_wrongAt ml_X12_159 (c_X12_wrongAt X.2.1 E o_t a_t t_toldDoors t_barredDoors t_taped t_place0 t_length0 t_fault t_number0 t_open t_codeMany t_waiting t_saidMany t_clauses t_newMany t_rounds t_pinFrom t_pinTimes t_lines t_wasTold t_wasBarred t_goesNow t_jamsNow t_queued t_isKept (6 : Int32) x3 u6 hu6) dX12_repeats_23 (by decide) rfl (Nat.le_of_ble_eq_true rfl) 0 11 rfl rfl [0] rfl (by decide) rfl rfl rfl rfl ?_
    obtain ⟨hgb, h⟩ := gb_is h
    cases h
    exact hret _ _ _ dX12_repeats_26 hgb rfl
abbrev W_X12_rings (E : GE) : va_W := []
def L_X12_rings_27 (x1 : Int32) (x2 : Int32) (k0 : Int32 → Option (Int32)) : Nat → Int32 × Int32 → Option (Int32) := lp fun go s => if (12 : Int32) ≤ s.2 then (k0 s.1) else nm (s.1 ^^^ (x1 >>> (s.2 &&& 31))) fun v3 => nm (s.2 + (1 : Int32)) fun v4 => go (v3, v4)
def L_X12_rings_63 (x3 : Int32) : Nat → Int32 → Option (Int32) := lp fun go s => (f_X12_has x3 s).bind fun u6 => if u6 = 0 then (nm (s + (1 : Int32)) fun v7 => go v7) else some s
def f_X12_rings (x1 : Int32) (x2 : Int32) : Option (Int32) := (f_X12_in x1 (0 : Int32) (4095 : Int32)).bind fun u1 => if u1 = 0 then (some (-1 : Int32)) else (f_X12_in x2 (0 : Int32) (1 : Int32)).bind fun u2 => if u2 = 0 then (some (-1 : Int32)) else L_X12_rings_27 x1 x2 (fun s5 => if x2 = 0 then (some s5) else if s5 = 0 then (some (-2 : Int32)) else L_X12_rings_63 s5 fu (0 : Int32)) fu ((0 : Int32), (0 : Int32))
theorem dX12_rings_0 : decode cX12_rings 0 = .ok (.iload_n 1, 1) := by decide +kernel
theorem dX12_rings_1 : decode cX12_rings 1 = .ok (.iconst 0, 1) := by decide +kernel
theorem dX12_rings_2 : decode cX12_rings 2 = .ok (.sipush 4095, 3) := by decide +kernel
theorem dX12_rings_5 : decode cX12_rings 5 = .ok (.invokestatic 117, 3) := by decide +kernel
theorem dX12_rings_8 : decode cX12_rings 8 = .ok (.ifCond .eq 12, 3) := by decide +kernel
theorem dX12_rings_11 : decode cX12_rings 11 = .ok (.iload_n 2, 1) := by decide +kernel
theorem dX12_rings_12 : decode cX12_rings 12 = .ok (.iconst 0, 1) := by decide +kernel
theorem dX12_rings_13 : decode cX12_rings 13 = .ok (.iconst 1, 1) := by decide +kernel
theorem dX12_rings_14 : decode cX12_rings 14 = .ok (.invokestatic 117, 3) := by decide +kernel
theorem dX12_rings_17 : decode cX12_rings 17 = .ok (.ifCond .ne 5, 3) := by decide +kernel
theorem dX12_rings_20 : decode cX12_rings 20 = .ok (.iconst (-1), 1) := by decide +kernel
theorem dX12_rings_21 : decode cX12_rings 21 = .ok (.ireturn, 1) := by decide +kernel
theorem dX12_rings_22 : decode cX12_rings 22 = .ok (.iconst 0, 1) := by decide +kernel
theorem dX12_rings_23 : decode cX12_rings 23 = .ok (.istore_n 3, 1) := by decide +kernel
theorem dX12_rings_24 : decode cX12_rings 24 = .ok (.iconst 0, 1) := by decide +kernel
theorem dX12_rings_25 : decode cX12_rings 25 = .ok (.istore 4, 2) := by decide +kernel
theorem dX12_rings_27 : decode cX12_rings 27 = .ok (.iload 4, 2) := by decide +kernel
theorem dX12_rings_29 : decode cX12_rings 29 = .ok (.bipush 12, 2) := by decide +kernel
theorem dX12_rings_31 : decode cX12_rings 31 = .ok (.if_icmp .ge 16, 3) := by decide +kernel
theorem dX12_rings_34 : decode cX12_rings 34 = .ok (.iload_n 3, 1) := by decide +kernel
theorem dX12_rings_35 : decode cX12_rings 35 = .ok (.iload_n 1, 1) := by decide +kernel
theorem dX12_rings_36 : decode cX12_rings 36 = .ok (.iload 4, 2) := by decide +kernel
theorem dX12_rings_38 : decode cX12_rings 38 = .ok (.ishr, 1) := by decide +kernel
theorem dX12_rings_39 : decode cX12_rings 39 = .ok (.ixor, 1) := by decide +kernel
theorem dX12_rings_40 : decode cX12_rings 40 = .ok (.istore_n 3, 1) := by decide +kernel
theorem dX12_rings_41 : decode cX12_rings 41 = .ok (.iinc 4 1, 3) := by decide +kernel
theorem dX12_rings_44 : decode cX12_rings 44 = .ok (.goto (-17), 3) := by decide +kernel
theorem dX12_rings_47 : decode cX12_rings 47 = .ok (.iload_n 2, 1) := by decide +kernel
theorem dX12_rings_48 : decode cX12_rings 48 = .ok (.ifCond .ne 5, 3) := by decide +kernel
theorem dX12_rings_51 : decode cX12_rings 51 = .ok (.iload_n 3, 1) := by decide +kernel
theorem dX12_rings_52 : decode cX12_rings 52 = .ok (.ireturn, 1) := by decide +kernel
theorem dX12_rings_53 : decode cX12_rings 53 = .ok (.iload_n 3, 1) := by decide +kernel
theorem dX12_rings_54 : decode cX12_rings 54 = .ok (.ifCond .ne 6, 3) := by decide +kernel
theorem dX12_rings_57 : decode cX12_rings 57 = .ok (.bipush (-2), 2) := by decide +kernel
theorem dX12_rings_59 : decode cX12_rings 59 = .ok (.ireturn, 1) := by decide +kernel
theorem dX12_rings_60 : decode cX12_rings 60 = .ok (.iconst 0, 1) := by decide +kernel
theorem dX12_rings_61 : decode cX12_rings 61 = .ok (.istore 4, 2) := by decide +kernel
theorem dX12_rings_63 : decode cX12_rings 63 = .ok (.iload_n 3, 1) := by decide +kernel
theorem dX12_rings_64 : decode cX12_rings 64 = .ok (.iload 4, 2) := by decide +kernel
theorem dX12_rings_66 : decode cX12_rings 66 = .ok (.invokestatic 125, 3) := by decide +kernel
theorem dX12_rings_69 : decode cX12_rings 69 = .ok (.ifCond .ne 12, 3) := by decide +kernel
theorem dX12_rings_72 : decode cX12_rings 72 = .ok (.iload 4, 2) := by decide +kernel
theorem dX12_rings_74 : decode cX12_rings 74 = .ok (.iconst 1, 1) := by decide +kernel
theorem dX12_rings_75 : decode cX12_rings 75 = .ok (.iadd, 1) := by decide +kernel
theorem dX12_rings_76 : decode cX12_rings 76 = .ok (.istore 4, 2) := by decide +kernel
theorem dX12_rings_78 : decode cX12_rings 78 = .ok (.goto (-15), 3) := by decide +kernel
theorem dX12_rings_81 : decode cX12_rings 81 = .ok (.iload 4, 2) := by decide +kernel
theorem dX12_rings_83 : decode cX12_rings 83 = .ok (.ireturn, 1) := by decide +kernel
set_option maxHeartbeats 4000000 in
set_option maxRecDepth 100000 in
theorem kL_X12_rings_27 {X : GC} {E : GE} (C : Cx X E cX12_rings RX12 2 5) (o_t : Nat) (x1 : Int32) (x2 : Int32) (k0 : Int32 → Option (Int32)) {r : Int32} (hret : RtI X E cX12_rings .int 0 0 (fun w => w = (W_X12_rings E)) r) (hk0 : ∀ u, k0 u = some r → Gx X E 0 0 (W_X12_rings E) 47 [(2, .int x2), (3, .int u)] []) : ∀ (n : Nat) (s : Int32 × Int32), L_X12_rings_27 x1 x2 k0 n s = some r → Gx X E 0 0 (W_X12_rings E) 27 [(1, .int x1), (2, .int x2), (3, .int s.1), (4, .int s.2)] [] := by
  unfold L_X12_rings_27
  refine lp_ind _ (fun go ih s h => ?_)
  refine g_iload (pc := 27) C dX12_rings_27 3 rfl ?_
  refine g_bipush (pc := 29) (v := 12) C dX12_rings_29 (by decide) ?_
  refine g_icmp_ge (pc := 31) (tgt := 47) C dX12_rings_31 (by decide) h (fun h => ?_) (fun h => ?_)
  · refine g_sub [1, 2] rfl ?_
    exact hk0 _ h
  · refine g_iload_n (pc := 34) C dX12_rings_34 rfl 2 rfl ?_
    refine g_iload_n (pc := 35) C dX12_rings_35 rfl 0 rfl ?_
    refine g_iload (pc := 36) C dX12_rings_36 3 rfl ?_
    refine g_ishr (pc := 38) C dX12_rings_38 ?_
    refine g_ixor (pc := 39) C dX12_rings_39 ?_
    refine g_nm h (fun v3 h => ?_)
    refine g_istore_n (pc := 40) (lv' := [(3, .int v3), (1, .int x1), (2, .int x2), (4, .int s.2)]) C dX12_rings_40 rfl (by decide) rfl ?_
    refine g_iincn (pc := 41) (j := 3) (d := 1) (lv' := fun v4 => [(4, .int v4), (3, .int v3), (1, .int x1), (2, .int x2)]) C dX12_rings_41 rfl (by decide) (by decide) (fun _ => rfl) h (fun v4 h => ?_)
    refine g_goto (pc := 44) (tgt := 27) C dX12_rings_44 (by decide) ?_
    refine g_sub [2, 3, 1, 0] rfl ?_
    exact ih _ h
set_option maxHeartbeats 4000000 in
set_option maxRecDepth 100000 in
theorem kL_X12_rings_63 {X : GC} {E : GE} (C : Cx X E cX12_rings RX12 2 5) (o_t : Nat) (x3 : Int32) {r : Int32} (hret : RtI X E cX12_rings .int 0 0 (fun w => w = (W_X12_rings E)) r) : ∀ (n : Nat) (s : Int32), L_X12_rings_63 x3 n s = some r → Gx X E 0 0 (W_X12_rings E) 63 [(3, .int x3), (4, .int s)] [] := by
  unfold L_X12_rings_63
  refine lp_ind _ (fun go ih s h => ?_)
  refine g_iload_n (pc := 63) C dX12_rings_63 rfl 0 rfl ?_
  refine g_iload (pc := 64) C dX12_rings_64 1 rfl ?_
  obtain ⟨u6, hu6, h⟩ := bs h
  refine g_callS (pc := 66) (st := []) (st1 := [.int u6]) (ws' := (W_X12_rings E)) C mv_X12_has ms_X12_has ml_X12_125 (c_X12_has X.2.1 E x3 s u6 hu6) dX12_rings_66 (by decide) rfl (Nat.le_of_ble_eq_true rfl) [] rfl (by decide) rfl rfl rfl rfl ?_
  refine g_if_ne (pc := 69) (tgt := 81) C dX12_rings_69 (by decide) h (fun h => ?_) (fun h => ?_)
  · refine g_iload (pc := 81) C dX12_rings_81 1 rfl ?_
    cases h
    exact hret _ _ _ dX12_rings_83 rfl rfl
  · refine g_iload (pc := 72) C dX12_rings_72 1 rfl ?_
    refine g_iconst (pc := 74) (v := 1) C dX12_rings_74 (by decide) ?_
    refine g_iadd (pc := 75) C dX12_rings_75 ?_
    refine g_nm h (fun v7 h => ?_)
    refine g_istore (pc := 76) (lv' := [(4, .int v7), (3, .int x3)]) C dX12_rings_76 (by decide) rfl ?_
    refine g_goto (pc := 78) (tgt := 63) C dX12_rings_78 (by decide) ?_
    refine g_sub [1, 0] rfl ?_
    exact ih _ h
set_option maxHeartbeats 4000000 in
set_option maxRecDepth 100000 in
theorem c_X12_rings (l : Launch) (E : GE) (o_t : Nat) (x1 : Int32) (x2 : Int32) (r : Int32) (h : f_X12_rings x1 x2 = some r) : Cn l E yX12_rings cX12_rings 5 (some .int) 2 0 0 [.ref o_t, .int x1, .int x2] (W_X12_rings E) (fun w => w = (W_X12_rings E)) (some (.int r)) := by
  refine Cn.ofI (by decide +kernel) (Nat.le_of_ble_eq_true rfl) (fun X hX hR C hret => ?_)
  subst hX
  show Gx X E 0 0 (W_X12_rings E) 0 [(0, .ref o_t), (1, .int x1), (2, .int x2)] []
  unfold f_X12_rings at h
  refine g_iload_n (pc := 0) C dX12_rings_0 rfl 1 rfl ?_
  refine g_iconst (pc := 1) (v := 0) C dX12_rings_1 (by decide) ?_
  refine g_sipush (pc := 2) (v := 4095) C dX12_rings_2 (by decide) ?_
  obtain ⟨u1, hu1, h⟩ := bs h
  refine g_callS (pc := 5) (st := []) (st1 := [.int u1]) (ws' := (W_X12_rings E)) C mv_X12_in ms_X12_in ml_X12_117 (c_X12_in X.2.1 E x1 (0 : Int32) (4095 : Int32) u1 hu1) dX12_rings_5 (by decide) rfl (Nat.le_of_ble_eq_true rfl) [] rfl (by decide) rfl rfl rfl rfl ?_
  refine g_if_eq (pc := 8) (tgt := 20) C dX12_rings_8 (by decide) h (fun h => ?_) (fun h => ?_)
  · refine g_iconst (pc := 20) (v := -1) C dX12_rings_20 (by decide) ?_
    cases h
    exact hret _ _ _ dX12_rings_21 rfl rfl
  · refine g_iload_n (pc := 11) C dX12_rings_11 rfl 2 rfl ?_
    refine g_iconst (pc := 12) (v := 0) C dX12_rings_12 (by decide) ?_
    refine g_iconst (pc := 13) (v := 1) C dX12_rings_13 (by decide) ?_
    obtain ⟨u2, hu2, h⟩ := bs h
    refine g_callS (pc := 14) (st := []) (st1 := [.int u2]) (ws' := (W_X12_rings E)) C mv_X12_in ms_X12_in ml_X12_117 (c_X12_in X.2.1 E x2 (0 : Int32) (1 : Int32) u2 hu2) dX12_rings_14 (by decide) rfl (Nat.le_of_ble_eq_true rfl) [] rfl (by decide) rfl rfl rfl rfl ?_
    refine g_if_ne (pc := 17) (tgt := 22) C dX12_rings_17 (by decide) h (fun h => ?_) (fun h => ?_)
    · refine g_iconst (pc := 22) (v := 0) C dX12_rings_22 (by decide) ?_
      refine g_istore_n (pc := 23) (lv' := [(3, .int (0 : Int32)), (0, .ref o_t), (1, .int x1), (2, .int x2)]) C dX12_rings_23 rfl (by decide) rfl ?_
      refine g_iconst (pc := 24) (v := 0) C dX12_rings_24 (by decide) ?_
      refine g_istore (pc := 25) (lv' := [(4, .int (0 : Int32)), (3, .int (0 : Int32)), (0, .ref o_t), (1, .int x1), (2, .int x2)]) C dX12_rings_25 (by decide) rfl ?_
      refine g_sub [3, 4, 1, 0] rfl ?_
      refine kL_X12_rings_27 C o_t x1 x2 _ hret (fun s5 h => ?_) _ _ h
      refine g_iload_n (pc := 47) C dX12_rings_47 rfl 0 rfl ?_
      refine g_if_ne (pc := 48) (tgt := 53) C dX12_rings_48 (by decide) h (fun h => ?_) (fun h => ?_)
      · refine g_iload_n (pc := 53) C dX12_rings_53 rfl 1 rfl ?_
        refine g_if_ne (pc := 54) (tgt := 60) C dX12_rings_54 (by decide) h (fun h => ?_) (fun h => ?_)
        · refine g_iconst (pc := 60) (v := 0) C dX12_rings_60 (by decide) ?_
          refine g_istore (pc := 61) (lv' := [(4, .int (0 : Int32)), (2, .int x2), (3, .int s5)]) C dX12_rings_61 (by decide) rfl ?_
          refine g_sub [2, 0] rfl ?_
          refine kL_X12_rings_63 C o_t s5 hret  _ _ h
        · refine g_bipush (pc := 57) (v := -2) C dX12_rings_57 (by decide) ?_
          cases h
          exact hret _ _ _ dX12_rings_59 rfl rfl
      · refine g_iload_n (pc := 51) C dX12_rings_51 rfl 1 rfl ?_
        cases h
        exact hret _ _ _ dX12_rings_52 rfl rfl
    · refine g_iconst (pc := 20) (v := -1) C dX12_rings_20 (by decide) ?_
      cases h
      exact hret _ _ _ dX12_rings_21 rfl rfl
