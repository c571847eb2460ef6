abbrev W_X12_beginsText (E : GE) (O_t : Nat) (a_t : Nat → Nat) (t_toldDoors : Int32) (t_barredDoors : Int32) (t_taped : Int32) (t_place0 : Int32) (t_length0 : Int32) (t_fault : Int32) (t_number0 : Int32) (t_open : Int32) (t_codeMany : Int32) (t_waiting : Int32) (t_saidMany : Int32) (t_clauses : Int32) (t_newMany : Int32) (t_rounds : Int32) (t_pinFrom : Int32) (t_pinTimes : Int32) (t_lines : Int32) (t_wasTold : Int32) (t_wasBarred : Int32) (t_goesNow : Int32) (t_jamsNow : Int32) (t_queued : Int32) (t_isKept : Int32) : va_W := [(O_t, ob_X12 a_t t_toldDoors t_barredDoors t_taped t_place0 t_length0 t_fault t_number0 t_open t_codeMany t_waiting t_saidMany t_clauses t_newMany t_rounds t_pinFrom t_pinTimes t_lines t_wasTold t_wasBarred t_goesNow t_jamsNow t_queued t_isKept)]
def f_X12_beginsText (t_place0 : Int32) (t_length0 : Int32) (t_codeMany : Int32) (t_saidMany : Int32) (x1 : Int32) : Option (Int32 × Int32 × Int32 × Int32) := some ((0 : Int32), x1, (0 : Int32), (0 : Int32))
theorem dX12_beginsText_0 : decode cX12_beginsText 0 = .ok (.aload_n 0, 1) := by decide +kernel
theorem dX12_beginsText_1 : decode cX12_beginsText 1 = .ok (.iconst 0, 1) := by decide +kernel
theorem dX12_beginsText_2 : decode cX12_beginsText 2 = .ok (.putfield 146, 3) := by decide +kernel
theorem dX12_beginsText_5 : decode cX12_beginsText 5 = .ok (.aload_n 0, 1) := by decide +kernel
theorem dX12_beginsText_6 : decode cX12_beginsText 6 = .ok (.iload_n 1, 1) := by decide +kernel
theorem dX12_beginsText_7 : decode cX12_beginsText 7 = .ok (.putfield 149, 3) := by decide +kernel
theorem dX12_beginsText_10 : decode cX12_beginsText 10 = .ok (.aload_n 0, 1) := by decide +kernel
theorem dX12_beginsText_11 : decode cX12_beginsText 11 = .ok (.iconst 0, 1) := by decide +kernel
theorem dX12_beginsText_12 : decode cX12_beginsText 12 = .ok (.putfield 169, 3) := by decide +kernel
theorem dX12_beginsText_15 : decode cX12_beginsText 15 = .ok (.aload_n 0, 1) := by decide +kernel
theorem dX12_beginsText_16 : decode cX12_beginsText 16 = .ok (.iconst 0, 1) := by decide +kernel
theorem dX12_beginsText_17 : decode cX12_beginsText 17 = .ok (.putfield 224, 3) := by decide +kernel
theorem dX12_beginsText_20 : decode cX12_beginsText 20 = .ok (.return_, 1) := by decide +kernel
set_option maxHeartbeats 4000000 in
set_option maxRecDepth 100000 in
theorem c_X12_beginsText (l : Launch) (E : GE) (o_t : Nat) (a_t : Nat → Nat) (t_toldDoors : Int32) (t_barredDoors : Int32) (t_taped : Int32) (t_place0 : Int32) (t_length0 : Int32) (t_fault : Int32) (t_number0 : Int32) (t_open : Int32) (t_codeMany : Int32) (t_waiting : Int32) (t_saidMany : Int32) (t_clauses : Int32) (t_newMany : Int32) (t_rounds : Int32) (t_pinFrom : Int32) (t_pinTimes : Int32) (t_lines : Int32) (t_wasTold : Int32) (t_wasBarred : Int32) (t_goesNow : Int32) (t_jamsNow : Int32) (t_queued : Int32) (t_isKept : Int32) (x1 : Int32) (r : Int32 × Int32 × Int32 × Int32) (h : f_X12_beginsText t_place0 t_length0 t_codeMany t_saidMany x1 = some r) : Cn l E yX12_beginsText cX12_beginsText 2 none 1 0 0 [.ref o_t, .int x1] (W_X12_beginsText E o_t a_t t_toldDoors t_barredDoors t_taped t_place0 t_length0 t_fault t_number0 t_open t_codeMany t_waiting t_saidMany t_clauses t_newMany t_rounds t_pinFrom t_pinTimes t_lines t_wasTold t_wasBarred t_goesNow t_jamsNow t_queued t_isKept) (fun w => w = (W_X12_beginsText E o_t a_t t_toldDoors t_barredDoors t_taped r.1 r.2.1 t_fault t_number0 t_open r.2.2.1 t_waiting r.2.2.2 t_clauses t_newMany t_rounds t_pinFrom t_pinTimes t_lines t_wasTold t_wasBarred t_goesNow t_jamsNow t_queued t_isKept)) none := by
  refine Cn.ofV (by decide +kernel) (Nat.le_of_ble_eq_true rfl) (fun X hX hR C hret => ?_)
  subst hX
  show Gx X E 0 0 (W_X12_beginsText E o_t a_t t_toldDoors t_barredDoors t_taped t_place0 t_length0 t_fault t_number0 t_open t_codeMany t_waiting t_saidMany t_clauses t_newMany t_rounds t_pinFrom t_pinTimes t_lines t_wasTold t_wasBarred t_goesNow t_jamsNow t_queued t_isKept) 0 [(0, .ref o_t), (1, .int x1)] []
  unfold f_X12_beginsText at h
  refine g_aload_n (pc := 0) C dX12_beginsText_0 rfl 0 rfl ?_
  refine g_iconst (pc := 1) (v := 0) C dX12_beginsText_1 (by decide) ?_
  refine g_put (pc := 2) (ws' := (W_X12_beginsText E o_t a_t t_toldDoors t_barredDoors t_taped (0 : Int32) t_length0 t_fault t_number0 t_open t_codeMany t_waiting t_saidMany t_clauses t_newMany t_rounds t_pinFrom t_pinTimes t_lines t_wasTold t_wasBarred t_goesNow t_jamsNow t_queued t_isKept)) C .int fl_X12_146 dX12_beginsText_2 0 rfl (by decide +kernel) rfl rfl (Nat.le_of_ble_eq_true rfl) rfl ?_
  refine g_aload_n (pc := 5) C dX12_beginsText_5 rfl 0 rfl ?_
  refine g_iload_n (pc := 6) C dX12_beginsText_6 rfl 1 rfl ?_
  refine g_put (pc := 7) (ws' := (W_X12_beginsText E o_t a_t t_toldDoors t_barredDoors t_taped (0 : Int32) x1 t_fault t_number0 t_open t_codeMany t_waiting t_saidMany t_clauses t_newMany t_rounds t_pinFrom t_pinTimes t_lines t_wasTold t_wasBarred t_goesNow t_jamsNow t_queued t_isKept)) C .int fl_X12_149 dX12_beginsText_7 0 rfl (by decide +kernel) rfl rfl (Nat.le_of_ble_eq_true rfl) rfl ?_
  refine g_aload_n (pc := 10) C dX12_beginsText_10 rfl 0 rfl ?_
  refine g_iconst (pc := 11) (v := 0) C dX12_beginsText_11 (by decide) ?_
  refine g_put (pc := 12) (ws' := (W_X12_beginsText E o_t a_t t_toldDoors t_barredDoors t_taped (0 : Int32) x1 t_fault t_number0 t_open (0 : Int32) t_waiting t_saidMany t_clauses t_newMany t_rounds t_pinFrom t_pinTimes t_lines t_wasTold t_wasBarred t_goesNow t_jamsNow t_queued t_isKept)) C .int fl_X12_169 dX12_beginsText_12 0 rfl (by decide +kernel) rfl rfl (Nat.le_of_ble_eq_true rfl) rfl ?_
  refine g_aload_n (pc := 15) C dX12_beginsText_15 rfl 0 rfl ?_
  refine g_iconst (pc := 16) (v := 0) C dX12_beginsText_16 (by decide) ?_
  refine g_put (pc := 17) (ws' := (W_X12_beginsText E o_t a_t t_toldDoors t_barredDoors t_taped (0 : Int32) x1 t_fault t_number0 t_open (0 : Int32) t_waiting (0 : Int32) t_clauses t_newMany t_rounds t_pinFrom t_pinTimes t_lines t_wasTold t_wasBarred t_goesNow t_jamsNow t_queued t_isKept)) C .int fl_X12_224 dX12_beginsText_17 0 rfl (by decide +kernel) rfl rfl (Nat.le_of_ble_eq_true rfl) rfl ?_
  cases h
  exact hret _ _ _ dX12_beginsText_20 rfl
abbrev W_X12_behind (E : GE) (O_t : Nat) (a_t : Nat → Nat) (t_toldDoors : Int32) (t_barredDoors : Int32) (t_taped : Int32) (t_place0 : Int32) (t_length0 : Int32) (t_fault : Int32) (t_number0 : Int32) (t_open : Int32) (t_codeMany : Int32) (t_waiting : Int32) (t_saidMany : Int32) (t_clauses : Int32) (t_newMany : Int32) (t_rounds : Int32) (t_pinFrom : Int32) (t_pinTimes : Int32) (t_lines : Int32) (t_wasTold : Int32) (t_wasBarred : Int32) (t_goesNow : Int32) (t_jamsNow : Int32) (t_queued : Int32) (t_isKept : Int32) (t_oneOf : (Nat → Int32)) (t_otherOf : (Nat → Int32)) : va_W := [(O_t, ob_X12 a_t t_toldDoors t_barredDoors t_taped t_place0 t_length0 t_fault t_number0 t_open t_codeMany t_waiting t_saidMany t_clauses t_newMany t_rounds t_pinFrom t_pinTimes t_lines t_wasTold t_wasBarred t_goesNow t_jamsNow t_queued t_isKept), (a_t 4, .inl (E.2.1, 24, .inl t_oneOf)), (a_t 5, .inl (E.2.1, 24, .inl t_otherOf))]
def f_X12_behind (t_oneOf : (Nat → Int32)) (t_otherOf : (Nat → Int32)) (x1 : Int32) (x2 : Int32) : Option (Int32) := rd t_oneOf 24 x1 fun v1 => if v1 = x2 then (rd t_otherOf 24 x1 fun v4 => some v4) else rd t_otherOf 24 x1 fun v2 => if v2 = x2 then (rd t_oneOf 24 x1 fun v3 => some v3) else some (-1 : Int32)
theorem dX12_behind_0 : decode cX12_behind 0 = .ok (.aload_n 0, 1) := by decide +kernel
theorem dX12_behind_1 : decode cX12_behind 1 = .ok (.getfield 22, 3) := by decide +kernel
theorem dX12_behind_4 : decode cX12_behind 4 = .ok (.iload_n 1, 1) := by decide +kernel
theorem dX12_behind_5 : decode cX12_behind 5 = .ok (.iaload, 1) := by decide +kernel
theorem dX12_behind_6 : decode cX12_behind 6 = .ok (.iload_n 2, 1) := by decide +kernel
theorem dX12_behind_7 : decode cX12_behind 7 = .ok (.if_icmp .ne 12, 3) := by decide +kernel
theorem dX12_behind_10 : decode cX12_behind 10 = .ok (.aload_n 0, 1) := by decide +kernel
theorem dX12_behind_11 : decode cX12_behind 11 = .ok (.getfield 25, 3) := by decide +kernel
theorem dX12_behind_14 : decode cX12_behind 14 = .ok (.iload_n 1, 1) := by decide +kernel
theorem dX12_behind_15 : decode cX12_behind 15 = .ok (.iaload, 1) := by decide +kernel
theorem dX12_behind_16 : decode cX12_behind 16 = .ok (.goto 23, 3) := by decide +kernel
theorem dX12_behind_19 : decode cX12_behind 19 = .ok (.aload_n 0, 1) := by decide +kernel
theorem dX12_behind_20 : decode cX12_behind 20 = .ok (.getfield 25, 3) := by decide +kernel
theorem dX12_behind_23 : decode cX12_behind 23 = .ok (.iload_n 1, 1) := by decide +kernel
theorem dX12_behind_24 : decode cX12_behind 24 = .ok (.iaload, 1) := by decide +kernel
theorem dX12_behind_25 : decode cX12_behind 25 = .ok (.iload_n 2, 1) := by decide +kernel
theorem dX12_behind_26 : decode cX12_behind 26 = .ok (.if_icmp .ne 12, 3) := by decide +kernel
theorem dX12_behind_29 : decode cX12_behind 29 = .ok (.aload_n 0, 1) := by decide +kernel
theorem dX12_behind_30 : decode cX12_behind 30 = .ok (.getfield 22, 3) := by decide +kernel
theorem dX12_behind_33 : decode cX12_behind 33 = .ok (.iload_n 1, 1) := by decide +kernel
theorem dX12_behind_34 : decode cX12_behind 34 = .ok (.iaload, 1) := by decide +kernel
theorem dX12_behind_35 : decode cX12_behind 35 = .ok (.goto 4, 3) := by decide +kernel
theorem dX12_behind_38 : decode cX12_behind 38 = .ok (.iconst (-1), 1) := by decide +kernel
theorem dX12_behind_39 : decode cX12_behind 39 = .ok (.ireturn, 1) := by decide +kernel
set_option maxHeartbeats 4000000 in
set_option maxRecDepth 100000 in
theorem c_X12_behind (l : Launch) (E : GE) (o_t : Nat) (a_t : Nat → Nat) (t_toldDoors : Int32) (t_barredDoors : Int32) (t_taped : Int32) (t_place0 : Int32) (t_length0 : Int32) (t_fault : Int32) (t_number0 : Int32) (t_open : Int32) (t_codeMany : Int32) (t_waiting : Int32) (t_saidMany : Int32) (t_clauses : Int32) (t_newMany : Int32) (t_rounds : Int32) (t_pinFrom : Int32) (t_pinTimes : Int32) (t_lines : Int32) (t_wasTold : Int32) (t_wasBarred : Int32) (t_goesNow : Int32) (t_jamsNow : Int32) (t_queued : Int32) (t_isKept : Int32) (t_oneOf : (Nat → Int32)) (t_otherOf : (Nat → Int32)) (x1 : Int32) (x2 : Int32) (r : Int32) (h : f_X12_behind t_oneOf t_otherOf x1 x2 = some r) : Cn l E yX12_behind cX12_behind 3 (some .int) 1 0 0 [.ref o_t, .int x1, .int x2] (W_X12_behind E o_t a_t t_toldDoors t_barredDoors t_taped t_place0 t_length0 t_fault t_number0 t_open t_codeMany t_waiting t_saidMany t_clauses t_newMany t_rounds t_pinFrom t_pinTimes t_lines t_wasTold t_wasBarred t_goesNow t_jamsNow t_queued t_isKept t_oneOf t_otherOf) (fun w => w = (W_X12_behind E o_t a_t t_toldDoors t_barredDoors t_taped t_place0 t_length0 t_fault t_number0 t_open t_codeMany t_waiting t_saidMany t_clauses t_newMany t_rounds t_pinFrom t_pinTimes t_lines t_wasTold t_wasBarred t_goesNow t_jamsNow t_queued t_isKept t_oneOf t_otherOf)) (some (.int r)) := by
  refine Cn.ofI (by decide +kernel) (Nat.le_of_ble_eq_true rfl) (fun X hX hR C hret => ?_)
  subst hX
  show Gx X E 0 0 (W_X12_behind E o_t a_t t_toldDoors t_barredDoors t_taped t_place0 t_length0 t_fault t_number0 t_open t_codeMany t_waiting t_saidMany t_clauses t_newMany t_rounds t_pinFrom t_pinTimes t_lines t_wasTold t_wasBarred t_goesNow t_jamsNow t_queued t_isKept t_oneOf t_otherOf) 0 [(0, .ref o_t), (1, .int x1), (2, .int x2)] []
  unfold f_X12_behind at h
  refine g_aload_n (pc := 0) C dX12_behind_0 rfl 0 rfl ?_
  refine g_get (pc := 1) C fl_X12_22 dX12_behind_1 0 rfl rfl ?_
  refine g_iload_n (pc := 4) C dX12_behind_4 rfl 1 rfl ?_
  refine g_iald (pc := 5) C dX12_behind_5 1 rfl h (fun v1 h => ?_)
  refine g_iload_n (pc := 6) C dX12_behind_6 rfl 2 rfl ?_
  refine g_icmp_ne (pc := 7) (tgt := 19) C dX12_behind_7 (by decide) h (fun h => ?_) (fun h => ?_)
  · refine g_aload_n (pc := 19) C dX12_behind_19 rfl 0 rfl ?_
    refine g_get (pc := 20) C fl_X12_25 dX12_behind_20 0 rfl rfl ?_
    refine g_iload_n (pc := 23) C dX12_behind_23 rfl 1 rfl ?_
    refine g_iald (pc := 24) C dX12_behind_24 2 rfl h (fun v2 h => ?_)
    refine g_iload_n (pc := 25) C dX12_behind_25 rfl 2 rfl ?_
    refine g_icmp_ne (pc := 26) (tgt := 38) C dX12_behind_26 (by decide) h (fun h => ?_) (fun h => ?_)
    · refine g_iconst (pc := 38) (v := -1) C dX12_behind_38 (by decide) ?_
      cases h
      exact hret _ _ _ dX12_behind_39 rfl rfl
    · refine g_aload_n (pc := 29) C dX12_behind_29 rfl 0 rfl ?_
      refine g_get (pc := 30) C fl_X12_22 dX12_behind_30 0 rfl rfl ?_
      refine g_iload_n (pc := 33) C dX12_behind_33 rfl 1 rfl ?_
      refine g_iald (pc := 34) C dX12_behind_34 1 rfl h (fun v3 h => ?_)
      refine g_goto (pc := 35) (tgt := 39) C dX12_behind_35 (by decide) ?_
      cases h
      exact hret _ _ _ dX12_behind_39 rfl rfl
  · refine g_aload_n (pc := 10) C dX12_behind_10 rfl 0 rfl ?_
    refine g_get (pc := 11) C fl_X12_25 dX12_behind_11 0 rfl rfl ?_
    refine g_iload_n (pc := 14) C dX12_behind_14 rfl 1 rfl ?_
    refine g_iald (pc := 15) C dX12_behind_15 2 rfl h (fun v4 h => ?_)
    refine g_goto (pc := 16) (tgt := 39) C dX12_behind_16 (by decide) ?_
    cases h
    exact hret _ _ _ dX12_behind_39 rfl rfl
abbrev W_X12_bits (E : GE) : va_W := []
def L_X12_bits_4 (x0 : Int32) : Nat → Int32 × Int32 → Option (Int32) := lp fun go s => if (24 : Int32) ≤ s.2 then (some s.1) else nm (s.1 + ((x0 >>> (s.2 &&& 31)) &&& (1 : Int32))) fun v1 => nm (s.2 + (1 : Int32)) fun v2 => go (v1, v2)
def f_X12_bits (x0 : Int32) : Option (Int32) := L_X12_bits_4 x0 fu ((0 : Int32), (0 : Int32))
theorem dX12_bits_0 : decode cX12_bits 0 = .ok (.iconst 0, 1) := by decide +kernel
theorem dX12_bits_1 : decode cX12_bits 1 = .ok (.istore_n 1, 1) := by decide +kernel
theorem dX12_bits_2 : decode cX12_bits 2 = .ok (.iconst 0, 1) := by decide +kernel
theorem dX12_bits_3 : decode cX12_bits 3 = .ok (.istore_n 2, 1) := by decide +kernel
theorem dX12_bits_4 : decode cX12_bits 4 = .ok (.iload_n 2, 1) := by decide +kernel
theorem dX12_bits_5 : decode cX12_bits 5 = .ok (.bipush 24, 2) := by decide +kernel
theorem dX12_bits_7 : decode cX12_bits 7 = .ok (.if_icmp .ge 17, 3) := by decide +kernel
theorem dX12_bits_10 : decode cX12_bits 10 = .ok (.iload_n 1, 1) := by decide +kernel
theorem dX12_bits_11 : decode cX12_bits 11 = .ok (.iload_n 0, 1) := by decide +kernel
theorem dX12_bits_12 : decode cX12_bits 12 = .ok (.iload_n 2, 1) := by decide +kernel
theorem dX12_bits_13 : decode cX12_bits 13 = .ok (.ishr, 1) := by decide +kernel
theorem dX12_bits_14 : decode cX12_bits 14 = .ok (.iconst 1, 1) := by decide +kernel
theorem dX12_bits_15 : decode cX12_bits 15 = .ok (.iand, 1) := by decide +kernel
theorem dX12_bits_16 : decode cX12_bits 16 = .ok (.iadd, 1) := by decide +kernel
theorem dX12_bits_17 : decode cX12_bits 17 = .ok (.istore_n 1, 1) := by decide +kernel
theorem dX12_bits_18 : decode cX12_bits 18 = .ok (.iinc 2 1, 3) := by decide +kernel
theorem dX12_bits_21 : decode cX12_bits 21 = .ok (.goto (-17), 3) := by decide +kernel
theorem dX12_bits_24 : decode cX12_bits 24 = .ok (.iload_n 1, 1) := by decide +kernel
theorem dX12_bits_25 : decode cX12_bits 25 = .ok (.ireturn, 1) := by decide +kernel
set_option maxHeartbeats 4000000 in
set_option maxRecDepth 100000 in
theorem kL_X12_bits_4 {X : GC} {E : GE} (C : Cx X E cX12_bits RX12 1 3) (x0 : Int32) {r : Int32} (hret : RtI X E cX12_bits .int 0 0 (fun w => w = (W_X12_bits E)) r) : ∀ (n : Nat) (s : Int32 × Int32), L_X12_bits_4 x0 n s = some r → Gx X E 0 0 (W_X12_bits E) 4 [(0, .int x0), (1, .int s.1), (2, .int s.2)] [] := by
  unfold L_X12_bits_4
  refine lp_ind _ (fun go ih s h => ?_)
  refine g_iload_n (pc := 4) C dX12_bits_4 rfl 2 rfl ?_
  refine g_bipush (pc := 5) (v := 24) C dX12_bits_5 (by decide) ?_
  refine g_icmp_ge (pc := 7) (tgt := 24) C dX12_bits_7 (by decide) h (fun h => ?_) (fun h => ?_)
  · refine g_iload_n (pc := 24) C dX12_bits_24 rfl 1 rfl ?_
    cases h
    exact hret _ _ _ dX12_bits_25 rfl rfl
  · refine g_iload_n (pc := 10) C dX12_bits_10 rfl 1 rfl ?_
    refine g_iload_n (pc := 11) C dX12_bits_11 rfl 0 rfl ?_
    refine g_iload_n (pc := 12) C dX12_bits_12 rfl 2 rfl ?_
    refine g_ishr (pc := 13) C dX12_bits_13 ?_
    refine g_iconst (pc := 14) (v := 1) C dX12_bits_14 (by decide) ?_
    refine g_iand (pc := 15) C dX12_bits_15 ?_
    refine g_iadd (pc := 16) C dX12_bits_16 ?_
    refine g_nm h (fun v1 h => ?_)
    refine g_istore_n (pc := 17) (lv' := [(1, .int v1), (0, .int x0), (2, .int s.2)]) C dX12_bits_17 rfl (by decide) rfl ?_
    refine g_iincn (pc := 18) (j := 2) (d := 1) (lv' := fun v2 => [(2, .int v2), (1, .int v1), (0, .int x0)]) C dX12_bits_18 rfl (by decide) (by decide) (fun _ => rfl) h (fun v2 h => ?_)
    refine g_goto (pc := 21) (tgt := 4) C dX12_bits_21 (by decide) ?_
    refine g_sub [2, 1, 0] rfl ?_
    exact ih _ h
set_option maxHeartbeats 4000000 in
set_option maxRecDepth 100000 in
theorem c_X12_bits (l : Launch) (E : GE) (x0 : Int32) (r : Int32) (h : f_X12_bits x0 = some r) : Cn l E yX12_bits cX12_bits 3 (some .int) 1 0 0 [.int x0] (W_X12_bits E) (fun w => w = (W_X12_bits E)) (some (.int r)) := by
  refine Cn.ofI (by decide +kernel) (Nat.le_of_ble_eq_true rfl) (fun X hX hR C hret => ?_)
  subst hX
  show Gx X E 0 0 (W_X12_bits E) 0 [(0, .int x0)] []
  unfold f_X12_bits at h
  refine g_iconst (pc := 0) (v := 0) C dX12_bits_0 (by decide) ?_
  refine g_istore_n (pc := 1) (lv' := [(1, .int (0 : Int32)), (0, .int x0)]) C dX12_bits_1 rfl (by decide) rfl ?_
  refine g_iconst (pc := 2) (v := 0) C dX12_bits_2 (by decide) ?_
  refine g_istore_n (pc := 3) (lv' := [(2, .int (0 : Int32)), (1, .int (0 : Int32)), (0, .int x0)]) C dX12_bits_3 rfl (by decide) rfl ?_
  refine g_sub [2, 1, 0] rfl ?_
  refine kL_X12_bits_4 C x0 hret  _ _ h
abbrev W_X12_clearsWays (E : GE) (O_t : Nat) (a_t : Nat → Nat) (t_toldDoors : Int32) (t_barredDoors : Int32) (t_taped : Int32) (t_place0 : Int32) (t_length0 : Int32) (t_fault : Int32) (t_number0 : Int32) (t_open : Int32) (t_codeMany : Int32) (t_waiting : Int32) (t_saidMany : Int32) (t_clauses : Int32) (t_newMany : Int32) (t_rounds : Int32) (t_pinFrom : Int32) (t_pinTimes : Int32) (t_lines : Int32) (t_wasTold : Int32) (t_wasBarred : Int32) (t_goesNow : Int32) (t_jamsNow : Int32) (t_queued : Int32) (t_isKept : Int32) (t_stepsTo : (Nat → Int32)) (t_queue : (Nat → Int32)) : va_W := [(O_t, ob_X12 a_t t_toldDoors t_barredDoors t_taped t_place0 t_length0 t_fault t_number0 t_open t_codeMany t_waiting t_saidMany t_clauses t_newMany t_rounds t_pinFrom t_pinTimes t_lines t_wasTold t_wasBarred t_goesNow t_jamsNow t_queued t_isKept), (a_t 50, .inl (E.2.2.1, 1882384, .inl t_stepsTo)), (a_t 52, .inl (E.2.1, 15000, .inl t_queue))]
def L_X12_clearsWays_2 (t_queued : Int32) (t_queue : (Nat → Int32)) : Nat → Int32 × (Nat → Int32) → Option ((Nat → Int32)) := lp fun go s => if t_queued ≤ s.1 then (some s.2) else rd t_queue 15000 s.1 fun v1 => wr s.2 1882384 v1 (vp_nar .byte (0 : Int32)) fun g2 => nm (s.1 + (1 : Int32)) fun v3 => go (v3, g2)
def f_X12_clearsWays (t_queued : Int32) (t_stepsTo : (Nat → Int32)) (t_queue : (Nat → Int32)) : Option ((Nat → Int32)) := L_X12_clearsWays_2 t_queued t_queue fu ((0 : Int32), t_stepsTo)
theorem dX12_clearsWays_0 : decode cX12_clearsWays 0 = .ok (.iconst 0, 1) := by decide +kernel
theorem dX12_clearsWays_1 : decode cX12_clearsWays 1 = .ok (.istore_n 1, 1) := by decide +kernel
theorem dX12_clearsWays_2 : decode cX12_clearsWays 2 = .ok (.iload_n 1, 1) := by decide +kernel
theorem dX12_clearsWays_3 : decode cX12_clearsWays 3 = .ok (.aload_n 0, 1) := by decide +kernel
theorem dX12_clearsWays_4 : decode cX12_clearsWays 4 = .ok (.getfield 367, 3) := by decide +kernel
theorem dX12_clearsWays_7 : decode cX12_clearsWays 7 = .ok (.if_icmp .ge 21, 3) := by decide +kernel
theorem dX12_clearsWays_10 : decode cX12_clearsWays 10 = .ok (.aload_n 0, 1) := by decide +kernel
theorem dX12_clearsWays_11 : decode cX12_clearsWays 11 = .ok (.getfield 99, 3) := by decide +kernel
theorem dX12_clearsWays_14 : decode cX12_clearsWays 14 = .ok (.aload_n 0, 1) := by decide +kernel
theorem dX12_clearsWays_15 : decode cX12_clearsWays 15 = .ok (.getfield 105, 3) := by decide +kernel
theorem dX12_clearsWays_18 : decode cX12_clearsWays 18 = .ok (.iload_n 1, 1) := by decide +kernel
theorem dX12_clearsWays_19 : decode cX12_clearsWays 19 = .ok (.iaload, 1) := by decide +kernel
theorem dX12_clearsWays_20 : decode cX12_clearsWays 20 = .ok (.iconst 0, 1) := by decide +kernel
theorem dX12_clearsWays_21 : decode cX12_clearsWays 21 = .ok (.bastore, 1) := by decide +kernel
theorem dX12_clearsWays_22 : decode cX12_clearsWays 22 = .ok (.iinc 1 1, 3) := by decide +kernel
theorem dX12_clearsWays_25 : decode cX12_clearsWays 25 = .ok (.goto (-23), 3) := by decide +kernel
theorem dX12_clearsWays_28 : decode cX12_clearsWays 28 = .ok (.return_, 1) := by decide +kernel
set_option maxHeartbeats 4000000 in
set_option maxRecDepth 100000 in
theorem kL_X12_clearsWays_2 {X : GC} {E : GE} (C : Cx X E cX12_clearsWays RX12 1 2) (o_t : Nat) (a_t : Nat → Nat) (t_toldDoors : Int32) (t_barredDoors : Int32) (t_taped : Int32) (t_place0 : Int32) (t_length0 : Int32) (t_fault : Int32) (t_number0 : Int32) (t_open : Int32) (t_codeMany : Int32) (t_waiting : Int32) (t_saidMany : Int32) (t_clauses : Int32) (t_newMany : Int32) (t_rounds : Int32) (t_pinFrom : Int32) (t_pinTimes : Int32) (t_lines : Int32) (t_wasTold : Int32) (t_wasBarred : Int32) (t_goesNow : Int32) (t_jamsNow : Int32) (t_isKept : Int32) (t_queued : Int32) (t_queue : (Nat → Int32)) {r : (Nat → Int32)} (hret : RtV X E cX12_clearsWays 0 0 (fun w => w = (W_X12_clearsWays E o_t a_t t_toldDoors t_barredDoors t_taped t_place0 t_length0 t_fault t_number0 t_open t_codeMany t_waiting t_saidMany t_clauses t_newMany t_rounds t_pinFrom t_pinTimes t_lines t_wasTold t_wasBarred t_goesNow t_jamsNow t_queued t_isKept r t_queue))) : ∀ (n : Nat) (s : Int32 × (Nat → Int32)), L_X12_clearsWays_2 t_queued t_queue n s = some r → Gx X E 0 0 (W_X12_clearsWays E o_t a_t t_toldDoors t_barredDoors t_taped t_place0 t_length0 t_fault t_number0 t_open t_codeMany t_waiting t_saidMany t_clauses t_newMany t_rounds t_pinFrom t_pinTimes t_lines t_wasTold t_wasBarred t_goesNow t_jamsNow t_queued t_isKept s.2 t_queue) 2 [(0, .ref o_t), (1, .int s.1)] [] := by
  unfold L_X12_clearsWays_2
  refine lp_ind _ (fun go ih s h => ?_)
  refine g_iload_n (pc := 2) C dX12_clearsWays_2 rfl 1 rfl ?_
  refine g_aload_n (pc := 3) C dX12_clearsWays_3 rfl 0 rfl ?_
  refine g_get (pc := 4) C fl_X12_367 dX12_clearsWays_4 0 rfl rfl ?_
  refine g_icmp_ge (pc := 7) (tgt := 28) C dX12_clearsWays_7 (by decide) h (fun h => ?_) (fun h => ?_)
  · cases h
    exact hret _ _ _ dX12_clearsWays_28 rfl
  · refine g_aload_n (pc := 10) C dX12_clearsWays_10 rfl 0 rfl ?_
    refine g_get (pc := 11) C fl_X12_99 dX12_clearsWays_11 0 rfl rfl ?_
    refine g_aload_n (pc := 14) C dX12_clearsWays_14 rfl 0 rfl ?_
    refine g_get (pc := 15) C fl_X12_105 dX12_clearsWays_15 0 rfl rfl ?_
    refine g_iload_n (pc := 18) C dX12_clearsWays_18 rfl 1 rfl ?_
    refine g_iald (pc := 19) C dX12_clearsWays_19 2 rfl h (fun v1 h => ?_)
    refine g_iconst (pc := 20) (v := 0) C dX12_clearsWays_20 (by decide) ?_
    refine g_bast (pc := 21) C dX12_clearsWays_21 1 rfl h (fun g2 h => ?_)
    refine g_ws (ws' := (W_X12_clearsWays E o_t a_t t_toldDoors t_barredDoors t_taped t_place0 t_length0 t_fault t_number0 t_open t_codeMany t_waiting t_saidMany t_clauses t_newMany t_rounds t_pinFrom t_pinTimes t_lines t_wasTold t_wasBarred t_goesNow t_jamsNow t_queued t_isKept g2 t_queue)) rfl ?_
    refine g_iincn (pc := 22) (j := 1) (d := 1) (lv' := fun v3 => [(1, .int v3), (0, .ref o_t)]) C dX12_clearsWays_22 rfl (by decide) (by decide) (fun _ => rfl) h (fun v3 h => ?_)
    refine g_goto (pc := 25) (tgt := 2) C dX12_clearsWays_25 (by decide) ?_
    refine g_sub [1, 0] rfl ?_
    exact ih _ h
set_option maxHeartbeats 4000000 in
set_option maxRecDepth 100000 in
theorem c_X12_clearsWays (l : Launch) (E : GE) (o_t : Nat) (a_t : Nat → Nat) (t_toldDoors : Int32) (t_barredDoors : Int32) (t_taped : Int32) (t_place0 : Int32) (t_length0 : Int32) (t_fault : Int32) (t_number0 : Int32) (t_open : Int32) (t_codeMany : Int32) (t_waiting : Int32) (t_saidMany : Int32) (t_clauses : Int32) (t_newMany : Int32) (t_rounds : Int32) (t_pinFrom : Int32) (t_pinTimes : Int32) (t_lines : Int32) (t_wasTold : Int32) (t_wasBarred : Int32) (t_goesNow : Int32) (t_jamsNow : Int32) (t_queued : Int32) (t_isKept : Int32) (t_stepsTo : (Nat → Int32)) (t_queue : (Nat → Int32)) (r : (Nat → Int32)) (h : f_X12_clearsWays t_queued t_stepsTo t_queue = some r) : Cn l E yX12_clearsWays cX12_clearsWays 2 none 1 0 0 [.ref o_t] (W_X12_clearsWays E o_t a_t t_toldDoors t_barredDoors t_taped t_place0 t_length0 t_fault t_number0 t_open t_codeMany t_waiting t_saidMany t_clauses t_newMany t_rounds t_pinFrom t_pinTimes t_lines t_wasTold t_wasBarred t_goesNow t_jamsNow t_queued t_isKept t_stepsTo t_queue) (fun w => w = (W_X12_clearsWays E o_t a_t t_toldDoors t_barredDoors t_taped t_place0 t_length0 t_fault t_number0 t_open t_codeMany t_waiting t_saidMany t_clauses t_newMany t_rounds t_pinFrom t_pinTimes t_lines t_wasTold t_wasBarred t_goesNow t_jamsNow t_queued t_isKept r t_queue)) none := by
  refine Cn.ofV (by decide +kernel) (Nat.le_of_ble_eq_true rfl) (fun X hX hR C hret => ?_)
  subst hX
  show Gx X E 0 0 (W_X12_clearsWays E o_t a_t t_toldDoors t_barredDoors t_taped t_place0 t_length0 t_fault t_number0 t_open t_codeMany t_waiting t_saidMany t_clauses t_newMany t_rounds t_pinFrom t_pinTimes t_lines t_wasTold t_wasBarred t_goesNow t_jamsNow t_queued t_isKept t_stepsTo t_queue) 0 [(0, .ref o_t)] []
  unfold f_X12_clearsWays at h
  refine g_iconst (pc := 0) (v := 0) C dX12_clearsWays_0 (by decide) ?_
  refine g_istore_n (pc := 1) (lv' := [(1, .int (0 : Int32)), (0, .ref o_t)]) C dX12_clearsWays_1 rfl (by decide) rfl ?_
  refine g_sub [1, 0] rfl ?_
  refine kL_X12_clearsWays_2 C o_t a_t t_toldDoors t_barredDoors t_taped t_place0 t_length0 t_fault t_number0 t_open t_codeMany t_waiting t_saidMany t_clauses t_newMany t_rounds t_pinFrom t_pinTimes t_lines t_wasTold t_wasBarred t_goesNow t_jamsNow t_isKept t_queued t_queue hret  _ _ h
abbrev W_X12_copies (E : GE) (q0 : Nat) (n0 : Nat) (q1 : Nat) (n1 : Nat) (f0 : (Nat → Int32)) (f1 : (Nat → Int32)) : va_W := [(q0, .inl (E.2.1, n0, .inl f0)), (q1, .inl (E.2.1, n1, .inl f1))]
def L_X12_copies_2 (n0 : Nat) (n1 : Nat) (f0 : (Nat → Int32)) : Nat → Int32 × (Nat → Int32) → Option ((Nat → Int32)) := lp fun go s => if (166 : Int32) ≤ s.1 then (some s.2) else rd f0 n0 s.1 fun v1 => wr s.2 n1 s.1 v1 fun g2 => nm (s.1 + (1 : Int32)) fun v3 => go (v3, g2)
def f_X12_copies (n0 : Nat) (n1 : Nat) (f0 : (Nat → Int32)) (f1 : (Nat → Int32)) : Option ((Nat → Int32)) := L_X12_copies_2 n0 n1 f0 fu ((0 : Int32), f1)
theorem dX12_copies_0 : decode cX12_copies 0 = .ok (.iconst 0, 1) := by decide +kernel
theorem dX12_copies_1 : decode cX12_copies 1 = .ok (.istore_n 2, 1) := by decide +kernel
theorem dX12_copies_2 : decode cX12_copies 2 = .ok (.iload_n 2, 1) := by decide +kernel
theorem dX12_copies_3 : decode cX12_copies 3 = .ok (.sipush 166, 3) := by decide +kernel
theorem dX12_copies_6 : decode cX12_copies 6 = .ok (.if_icmp .ge 15, 3) := by decide +kernel
theorem dX12_copies_9 : decode cX12_copies 9 = .ok (.aload_n 1, 1) := by decide +kernel
theorem dX12_copies_10 : decode cX12_copies 10 = .ok (.iload_n 2, 1) := by decide +kernel
theorem dX12_copies_11 : decode cX12_copies 11 = .ok (.aload_n 0, 1) := by decide +kernel
theorem dX12_copies_12 : decode cX12_copies 12 = .ok (.iload_n 2, 1) := by decide +kernel
theorem dX12_copies_13 : decode cX12_copies 13 = .ok (.iaload, 1) := by decide +kernel
theorem dX12_copies_14 : decode cX12_copies 14 = .ok (.iastore, 1) := by decide +kernel
theorem dX12_copies_15 : decode cX12_copies 15 = .ok (.iinc 2 1, 3) := by decide +kernel
theorem dX12_copies_18 : decode cX12_copies 18 = .ok (.goto (-16), 3) := by decide +kernel
theorem dX12_copies_21 : decode cX12_copies 21 = .ok (.return_, 1) := by decide +kernel
set_option maxHeartbeats 4000000 in
set_option maxRecDepth 100000 in
theorem kL_X12_copies_2 {X : GC} {E : GE} (C : Cx X E cX12_copies RX12 1 3) (q0 : Nat) (q1 : Nat) (n0 : Nat) (n1 : Nat) (f0 : (Nat → Int32)) {r : (Nat → Int32)} (hret : RtV X E cX12_copies 0 0 (fun w => w = (W_X12_copies E q0 n0 q1 n1 f0 r))) : ∀ (n : Nat) (s : Int32 × (Nat → Int32)), L_X12_copies_2 n0 n1 f0 n s = some r → Gx X E 0 0 (W_X12_copies E q0 n0 q1 n1 f0 s.2) 2 [(0, .ref q0), (1, .ref q1), (2, .int s.1)] [] := by
  unfold L_X12_copies_2
  refine lp_ind _ (fun go ih s h => ?_)
  refine g_iload_n (pc := 2) C dX12_copies_2 rfl 2 rfl ?_
  refine g_sipush (pc := 3) (v := 166) C dX12_copies_3 (by decide) ?_
  refine g_icmp_ge (pc := 6) (tgt := 21) C dX12_copies_6 (by decide) h (fun h => ?_) (fun h => ?_)
  · cases h
    exact hret _ _ _ dX12_copies_21 rfl
  · refine g_aload_n (pc := 9) C dX12_copies_9 rfl 1 rfl ?_
    refine g_iload_n (pc := 10) C dX12_copies_10 rfl 2 rfl ?_
    refine g_aload_n (pc := 11) C dX12_copies_11 rfl 0 rfl ?_
    refine g_iload_n (pc := 12) C dX12_copies_12 rfl 2 rfl ?_
    refine g_iald (pc := 13) C dX12_copies_13 0 rfl h (fun v1 h => ?_)
    refine g_iast (pc := 14) C dX12_copies_14 1 rfl h (fun g2 h => ?_)
    refine g_ws (ws' := (W_X12_copies E q0 n0 q1 n1 f0 g2)) rfl ?_
    refine g_iincn (pc := 15) (j := 2) (d := 1) (lv' := fun v3 => [(2, .int v3), (0, .ref q0), (1, .ref q1)]) C dX12_copies_15 rfl (by decide) (by decide) (fun _ => rfl) h (fun v3 h => ?_)
    refine g_goto (pc := 18) (tgt := 2) C dX12_copies_18 (by decide) ?_
    refine g_sub [1, 2, 0] rfl ?_
    exact ih _ h
set_option maxHeartbeats 4000000 in
set_option maxRecDepth 100000 in
theorem c_X12_copies (l : Launch) (E : GE) (q0 : Nat) (n0 : Nat) (q1 : Nat) (n1 : Nat) (f0 : (Nat → Int32)) (f1 : (Nat → Int32)) (r : (Nat → Int32)) (h : f_X12_copies n0 n1 f0 f1 = some r) : Cn l E yX12_copies cX12_copies 3 none 1 0 0 [.ref q0, .ref q1] (W_X12_copies E q0 n0 q1 n1 f0 f1) (fun w => w = (W_X12_copies E q0 n0 q1 n1 f0 r)) none := by
  refine Cn.ofV (by decide +kernel) (Nat.le_of_ble_eq_true rfl) (fun X hX hR C hret => ?_)
  subst hX
  show Gx X E 0 0 (W_X12_copies E q0 n0 q1 n1 f0 f1) 0 [(0, .ref q0), (1, .ref q1)] []
  unfold f_X12_copies at h
  refine g_iconst (pc := 0) (v := 0) C dX12_copies_0 (by decide) ?_
  refine g_istore_n (pc := 1) (lv' := [(2, .int (0 : Int32)), (0, .ref q0), (1, .ref q1)]) C dX12_copies_1 rfl (by decide) rfl ?_
  refine g_sub [1, 2, 0] rfl ?_
  refine kL_X12_copies_2 C q0 q1 n0 n1 f0 hret  _ _ h
abbrev W_X12_curlOf (E : GE) : va_W := []
def f_X12_curlOf (x0 : Int32) (x1 : Int32) : Option (Int32) := if x1 = 0 then (dv x0 (216 : Int32) fun v6 => some v6) else if x1 = (1 : Int32) then (dv x0 (36 : Int32) fun v4 => rm v4 (6 : Int32) fun v5 => some v5) else if x1 = (2 : Int32) then (dv x0 (6 : Int32) fun v2 => rm v2 (6 : Int32) fun v3 => some v3) else rm x0 (6 : Int32) fun v1 => some v1
theorem dX12_curlOf_0 : decode cX12_curlOf 0 = .ok (.iload_n 1, 1) := by decide +kernel
theorem dX12_curlOf_1 : decode cX12_curlOf 1 = .ok (.ifCond .ne 11, 3) := by decide +kernel
theorem dX12_curlOf_4 : decode cX12_curlOf 4 = .ok (.iload_n 0, 1) := by decide +kernel
theorem dX12_curlOf_5 : decode cX12_curlOf 5 = .ok (.sipush 216, 3) := by decide +kernel
theorem dX12_curlOf_8 : decode cX12_curlOf 8 = .ok (.idiv, 1) := by decide +kernel
theorem dX12_curlOf_9 : decode cX12_curlOf 9 = .ok (.goto 37, 3) := by decide +kernel
theorem dX12_curlOf_12 : decode cX12_curlOf 12 = .ok (.iload_n 1, 1) := by decide +kernel
theorem dX12_curlOf_13 : decode cX12_curlOf 13 = .ok (.iconst 1, 1) := by decide +kernel
theorem dX12_curlOf_14 : decode cX12_curlOf 14 = .ok (.if_icmp .ne 13, 3) := by decide +kernel
theorem dX12_curlOf_17 : decode cX12_curlOf 17 = .ok (.iload_n 0, 1) := by decide +kernel
theorem dX12_curlOf_18 : decode cX12_curlOf 18 = .ok (.bipush 36, 2) := by decide +kernel
theorem dX12_curlOf_20 : decode cX12_curlOf 20 = .ok (.idiv, 1) := by decide +kernel
theorem dX12_curlOf_21 : decode cX12_curlOf 21 = .ok (.bipush 6, 2) := by decide +kernel
theorem dX12_curlOf_23 : decode cX12_curlOf 23 = .ok (.irem, 1) := by decide +kernel
theorem dX12_curlOf_24 : decode cX12_curlOf 24 = .ok (.goto 22, 3) := by decide +kernel
theorem dX12_curlOf_27 : decode cX12_curlOf 27 = .ok (.iload_n 1, 1) := by decide +kernel
theorem dX12_curlOf_28 : decode cX12_curlOf 28 = .ok (.iconst 2, 1) := by decide +kernel
theorem dX12_curlOf_29 : decode cX12_curlOf 29 = .ok (.if_icmp .ne 13, 3) := by decide +kernel
theorem dX12_curlOf_32 : decode cX12_curlOf 32 = .ok (.iload_n 0, 1) := by decide +kernel
theorem dX12_curlOf_33 : decode cX12_curlOf 33 = .ok (.bipush 6, 2) := by decide +kernel
theorem dX12_curlOf_35 : decode cX12_curlOf 35 = .ok (.idiv, 1) := by decide +kernel
theorem dX12_curlOf_36 : decode cX12_curlOf 36 = .ok (.bipush 6, 2) := by decide +kernel
theorem dX12_curlOf_38 : decode cX12_curlOf 38 = .ok (.irem, 1) := by decide +kernel
theorem dX12_curlOf_39 : decode cX12_curlOf 39 = .ok (.goto 7, 3) := by decide +kernel
theorem dX12_curlOf_42 : decode cX12_curlOf 42 = .ok (.iload_n 0, 1) := by decide +kernel
theorem dX12_curlOf_43 : decode cX12_curlOf 43 = .ok (.bipush 6, 2) := by decide +kernel
theorem dX12_curlOf_45 : decode cX12_curlOf 45 = .ok (.irem, 1) := by decide +kernel
theorem dX12_curlOf_46 : decode cX12_curlOf 46 = .ok (.ireturn, 1) := by decide +kernel
set_option maxHeartbeats 4000000 in
set_option maxRecDepth 100000 in
theorem c_X12_curlOf (l : Launch) (E : GE) (x0 : Int32) (x1 : Int32) (r : Int32) (h : f_X12_curlOf x0 x1 = some r) : Cn l E yX12_curlOf cX12_curlOf 2 (some .int) 1 0 0 [.int x0, .int x1] (W_X12_curlOf E) (fun w => w = (W_X12_curlOf E)) (some (.int r)) := by
  refine Cn.ofI (by decide +kernel) (Nat.le_of_ble_eq_true rfl) (fun X hX hR C hret => ?_)
  subst hX
  show Gx X E 0 0 (W_X12_curlOf E) 0 [(0, .int x0), (1, .int x1)] []
  unfold f_X12_curlOf at h
  refine g_iload_n (pc := 0) C dX12_curlOf_0 rfl 1 rfl ?_
  refine g_if_ne (pc := 1) (tgt := 12) C dX12_curlOf_1 (by decide) h (fun h => ?_) (fun h => ?_)
  · refine g_iload_n (pc := 12) C dX12_curlOf_12 rfl 1 rfl ?_
    refine g_iconst (pc := 13) (v := 1) C dX12_curlOf_13 (by decide) ?_
    refine g_icmp_ne (pc := 14) (tgt := 27) C dX12_curlOf_14 (by decide) h (fun h => ?_) (fun h => ?_)
    · refine g_iload_n (pc := 27) C dX12_curlOf_27 rfl 1 rfl ?_
      refine g_iconst (pc := 28) (v := 2) C dX12_curlOf_28 (by decide) ?_
      refine g_icmp_ne (pc := 29) (tgt := 42) C dX12_curlOf_29 (by decide) h (fun h => ?_) (fun h => ?_)
      · refine g_iload_n (pc := 42) C dX12_curlOf_42 rfl 0 rfl ?_
        refine g_bipush (pc := 43) (v := 6) C dX12_curlOf_43 (by decide) ?_
        refine g_irem (pc := 45) C dX12_curlOf_45 h (fun v1 h => ?_)
        cases h
        exact hret _ _ _ dX12_curlOf_46 rfl rfl
      · refine g_iload_n (pc := 32) C dX12_curlOf_32 rfl 0 rfl ?_
        refine g_bipush (pc := 33) (v := 6) C dX12_curlOf_33 (by decide) ?_
        refine g_idiv (pc := 35) C dX12_curlOf_35 h (fun v2 h => ?_)
        refine g_bipush (pc := 36) (v := 6) C dX12_curlOf_36 (by decide) ?_
        refine g_irem (pc := 38) C dX12_curlOf_38 h (fun v3 h => ?_)
        refine g_goto (pc := 39) (tgt := 46) C dX12_curlOf_39 (by decide) ?_
        cases h
        exact hret _ _ _ dX12_curlOf_46 rfl rfl
    · refine g_iload_n (pc := 17) C dX12_curlOf_17 rfl 0 rfl ?_
      refine g_bipush (pc := 18) (v := 36) C dX12_curlOf_18 (by decide) ?_
      refine g_idiv (pc := 20) C dX12_curlOf_20 h (fun v4 h => ?_)
      refine g_bipush (pc := 21) (v := 6) C dX12_curlOf_21 (by decide) ?_
      refine g_irem (pc := 23) C dX12_curlOf_23 h (fun v5 h => ?_)
      refine g_goto (pc := 24) (tgt := 46) C dX12_curlOf_24 (by decide) ?_
      cases h
      exact hret _ _ _ dX12_curlOf_46 rfl rfl
  · refine g_iload_n (pc := 4) C dX12_curlOf_4 rfl 0 rfl ?_
    refine g_sipush (pc := 5) (v := 216) C dX12_curlOf_5 (by decide) ?_
    refine g_idiv (pc := 8) C dX12_curlOf_8 h (fun v6 h => ?_)
    refine g_goto (pc := 9) (tgt := 46) C dX12_curlOf_9 (by decide) ?_
    cases h
    exact hret _ _ _ dX12_curlOf_46 rfl rfl
abbrev W_X12_factOf (E : GE) : va_W := []
def f_X12_factOf (x0 : Int32) : Option (Int32) := if x0 = (99 : Int32) then (some (8 : Int32)) else if x0 = (100 : Int32) then (some (2 : Int32)) else if x0 = (101 : Int32) then (some (-1 : Int32)) else if x0 = (102 : Int32) then (some (-1 : Int32)) else if x0 = (103 : Int32) then (some (-1 : Int32)) else if x0 = (104 : Int32) then (some (-1 : Int32)) else if x0 = (105 : Int32) then (some (-1 : Int32)) else if x0 = (106 : Int32) then (some (-1 : Int32)) else if x0 = (107 : Int32) then (some (5 : Int32)) else if x0 = (108 : Int32) then (some (-1 : Int32)) else if x0 = (109 : Int32) then (some (-1 : Int32)) else if x0 = (110 : Int32) then (some (6 : Int32)) else if x0 = (111 : Int32) then (some (3 : Int32)) else if x0 = (112 : Int32) then (some (7 : Int32)) else if x0 = (113 : Int32) then (some (-1 : Int32)) else if x0 = (114 : Int32) then (some (1 : Int32)) else if x0 = (115 : Int32) then (some (-1 : Int32)) else if x0 = (116 : Int32) then (some (9 : Int32)) else if x0 = (117 : Int32) then (some (4 : Int32)) else if x0 = (118 : Int32) then (some (-1 : Int32)) else if x0 = (119 : Int32) then (some (0 : Int32)) else some (-1 : Int32)
theorem dX12_factOf_0 : decode cX12_factOf 0 = .ok (.iload_n 0, 1) := by decide +kernel
theorem dX12_factOf_1 : decode cX12_factOf 1 = .ok (.tableswitch 123 99 119 #[117, 103, 123, 123, 123, 123, 123, 123, 109, 123, 123, 111, 105, 114, 123, 101, 123, 120, 107, 123, 99], 99) := by decide +kernel
theorem dX12_factOf_100 : decode cX12_factOf 100 = .ok (.iconst 0, 1) := by decide +kernel
theorem dX12_factOf_101 : decode cX12_factOf 101 = .ok (.ireturn, 1) := by decide +kernel
theorem dX12_factOf_102 : decode cX12_factOf 102 = .ok (.iconst 1, 1) := by decide +kernel
theorem dX12_factOf_103 : decode cX12_factOf 103 = .ok (.ireturn, 1) := by decide +kernel
theorem dX12_factOf_104 : decode cX12_factOf 104 = .ok (.iconst 2, 1) := by decide +kernel
theorem dX12_factOf_105 : decode cX12_factOf 105 = .ok (.ireturn, 1) := by decide +kernel
theorem dX12_factOf_106 : decode cX12_factOf 106 = .ok (.iconst 3, 1) := by decide +kernel
theorem dX12_factOf_107 : decode cX12_factOf 107 = .ok (.ireturn, 1) := by decide +kernel
theorem dX12_factOf_108 : decode cX12_factOf 108 = .ok (.iconst 4, 1) := by decide +kernel
theorem dX12_factOf_109 : decode cX12_factOf 109 = .ok (.ireturn, 1) := by decide +kernel
theorem dX12_factOf_110 : decode cX12_factOf 110 = .ok (.iconst 5, 1) := by decide +kernel
theorem dX12_factOf_111 : decode cX12_factOf 111 = .ok (.ireturn, 1) := by decide +kernel
theorem dX12_factOf_112 : decode cX12_factOf 112 = .ok (.bipush 6, 2) := by decide +kernel
theorem dX12_factOf_114 : decode cX12_factOf 114 = .ok (.ireturn, 1) := by decide +kernel
theorem dX12_factOf_115 : decode cX12_factOf 115 = .ok (.bipush 7, 2) := by decide +kernel
theorem dX12_factOf_117 : decode cX12_factOf 117 = .ok (.ireturn, 1) := by decide +kernel
theorem dX12_factOf_118 : decode cX12_factOf 118 = .ok (.bipush 8, 2) := by decide +kernel
theorem dX12_factOf_120 : decode cX12_factOf 120 = .ok (.ireturn, 1) := by decide +kernel
theorem dX12_factOf_121 : decode cX12_factOf 121 = .ok (.bipush 9, 2) := by decide +kernel
theorem dX12_factOf_123 : decode cX12_factOf 123 = .ok (.ireturn, 1) := by decide +kernel
theorem dX12_factOf_124 : decode cX12_factOf 124 = .ok (.iconst (-1), 1) := by decide +kernel
theorem dX12_factOf_125 : decode cX12_factOf 125 = .ok (.ireturn, 1) := by decide +kernel
set_option maxHeartbeats 4000000 in
set_option maxRecDepth 100000 in
theorem c_X12_factOf (l : Launch) (E : GE) (x0 : Int32) (r : Int32) (h : f_X12_factOf x0 = some r) : Cn l E yX12_factOf cX12_factOf 1 (some .int) 1 0 0 [.int x0] (W_X12_factOf E) (fun w => w = (W_X12_factOf E)) (some (.int r)) := by
  refine Cn.ofI (by decide +kernel) (Nat.le_of_ble_eq_true rfl) (fun X hX hR C hret => ?_)
  subst hX
  show Gx X E 0 0 (W_X12_factOf E) 0 [(0, .int x0)] []
  unfold f_X12_factOf at h
  refine g_iload_n (pc := 0) C dX12_factOf_0 rfl 0 rfl ?_
  rcases ite_cs h with ⟨c1, h⟩ | ⟨c1, h⟩
  · refine g_tabHit (pc := 1) (tgt := 118) C 99 c1 dX12_factOf_1 (by decide) (by decide) rfl (by decide) ?_
    refine g_bipush (pc := 118) (v := 8) C dX12_factOf_118 (by decide) ?_
    cases h
    exact hret _ _ _ dX12_factOf_120 rfl rfl
  rcases ite_cs h with ⟨c2, h⟩ | ⟨c2, h⟩
  · refine g_tabHit (pc := 1) (tgt := 104) C 100 c2 dX12_factOf_1 (by decide) (by decide) rfl (by decide) ?_
    refine g_iconst (pc := 104) (v := 2) C dX12_factOf_104 (by decide) ?_
    cases h
    exact hret _ _ _ dX12_factOf_105 rfl rfl
  rcases ite_cs h with ⟨c3, h⟩ | ⟨c3, h⟩
  · refine g_tabHit (pc := 1) (tgt := 124) C 101 c3 dX12_factOf_1 (by decide) (by decide) rfl (by decide) ?_
    refine g_iconst (pc := 124) (v := -1) C dX12_factOf_124 (by decide) ?_
    cases h
    exact hret _ _ _ dX12_factOf_125 rfl rfl
  rcases ite_cs h with ⟨c4, h⟩ | ⟨c4, h⟩
  · refine g_tabHit (pc := 1) (tgt := 124) C 102 c4 dX12_factOf_1 (by decide) (by decide) rfl (by decide) ?_
    refine g_iconst (pc := 124) (v := -1) C dX12_factOf_124 (by decide) ?_
    cases h
    exact hret _ _ _ dX12_factOf_125 rfl rfl
  rcases ite_cs h with ⟨c5, h⟩ | ⟨c5, h⟩
  · refine g_tabHit (pc := 1) (tgt := 124) C 103 c5 dX12_factOf_1 (by decide) (by decide) rfl (by decide) ?_
    refine g_iconst (pc := 124) (v := -1) C dX12_factOf_124 (by decide) ?_
    cases h
    exact hret _ _ _ dX12_factOf_125 rfl rfl
  rcases ite_cs h with ⟨c6, h⟩ | ⟨c6, h⟩
  · refine g_tabHit (pc := 1) (tgt := 124) C 104 c6 dX12_factOf_1 (by decide) (by decide) rfl (by decide) ?_
    refine g_iconst (pc := 124) (v := -1) C dX12_factOf_124 (by decide) ?_
    cases h
    exact hret _ _ _ dX12_factOf_125 rfl rfl
  rcases ite_cs h with ⟨c7, h⟩ | ⟨c7, h⟩
  · refine g_tabHit (pc := 1) (tgt := 124) C 105 c7 dX12_factOf_1 (by decide) (by decide) rfl (by decide) ?_
    refine g_iconst (pc := 124) (v := -1) C dX12_factOf_124 (by decide) ?_
    cases h
    exact hret _ _ _ dX12_factOf_125 rfl rfl
  rcases ite_cs h with ⟨c8, h⟩ | ⟨c8, h⟩
  · refine g_tabHit (pc := 1) (tgt := 124) C 106 c8 dX12_factOf_1 (by decide) (by decide) rfl (by decide) ?_
    refine g_iconst (pc := 124) (v := -1) C dX12_factOf_124 (by decide) ?_
    cases h
    exact hret _ _ _ dX12_factOf_125 rfl rfl
  rcases ite_cs h with ⟨c9, h⟩ | ⟨c9, h⟩
  · refine g_tabHit (pc := 1) (tgt := 110) C 107 c9 dX12_factOf_1 (by decide) (by decide) rfl (by decide) ?_
    refine g_iconst (pc := 110) (v := 5) C dX12_factOf_110 (by decide) ?_
    cases h
    exact hret _ _ _ dX12_factOf_111 rfl rfl
  rcases ite_cs h with ⟨c10, h⟩ | ⟨c10, h⟩
  · refine g_tabHit (pc := 1) (tgt := 124) C 108 c10 dX12_factOf_1 (by decide) (by decide) rfl (by decide) ?_
    refine g_iconst (pc := 124) (v := -1) C dX12_factOf_124 (by decide) ?_
    cases h
    exact hret _ _ _ dX12_factOf_125 rfl rfl
  rcases ite_cs h with ⟨c11, h⟩ | ⟨c11, h⟩
  · refine g_tabHit (pc := 1) (tgt := 124) C 109 c11 dX12_factOf_1 (by decide) (by decide) rfl (by decide) ?_
    refine g_iconst (pc := 124) (v := -1) C dX12_factOf_124 (by decide) ?_
    cases h
    exact hret _ _ _ dX12_factOf_125 rfl rfl
  rcases ite_cs h with ⟨c12, h⟩ | ⟨c12, h⟩
  · refine g_tabHit (pc := 1) (tgt := 112) C 110 c12 dX12_factOf_1 (by decide) (by decide) rfl (by decide) ?_
    refine g_bipush (pc := 112) (v := 6) C dX12_factOf_112 (by decide) ?_
    cases h
    exact hret _ _ _ dX12_factOf_114 rfl rfl
  rcases ite_cs h with ⟨c13, h⟩ | ⟨c13, h⟩
  · refine g_tabHit (pc := 1) (tgt := 106) C 111 c13 dX12_factOf_1 (by decide) (by decide) rfl (by decide) ?_
    refine g_iconst (pc := 106) (v := 3) C dX12_factOf_106 (by decide) ?_
    cases h
    exact hret _ _ _ dX12_factOf_107 rfl rfl
  rcases ite_cs h with ⟨c14, h⟩ | ⟨c14, h⟩
  · refine g_tabHit (pc := 1) (tgt := 115) C 112 c14 dX12_factOf_1 (by decide) (by decide) rfl (by decide) ?_
    refine g_bipush (pc := 115) (v := 7) C dX12_factOf_115 (by decide) ?_
    cases h
    exact hret _ _ _ dX12_factOf_117 rfl rfl
  rcases ite_cs h with ⟨c15, h⟩ | ⟨c15, h⟩
  · refine g_tabHit (pc := 1) (tgt := 124) C 113 c15 dX12_factOf_1 (by decide) (by decide) rfl (by decide) ?_
    refine g_iconst (pc := 124) (v := -1) C dX12_factOf_124 (by decide) ?_
    cases h
    exact hret _ _ _ dX12_factOf_125 rfl rfl
  rcases ite_cs h with ⟨c16, h⟩ | ⟨c16, h⟩
  · refine g_tabHit (pc := 1) (tgt := 102) C 114 c16 dX12_factOf_1 (by decide) (by decide) rfl (by decide) ?_
    refine g_iconst (pc := 102) (v := 1) C dX12_factOf_102 (by decide) ?_
    cases h
    exact hret _ _ _ dX12_factOf_103 rfl rfl
  rcases ite_cs h with ⟨c17, h⟩ | ⟨c17, h⟩
  · refine g_tabHit (pc := 1) (tgt := 124) C 115 c17 dX12_factOf_1 (by decide) (by decide) rfl (by decide) ?_
    refine g_iconst (pc := 124) (v := -1) C dX12_factOf_124 (by decide) ?_
    cases h
    exact hret _ _ _ dX12_factOf_125 rfl rfl
  rcases ite_cs h with ⟨c18, h⟩ | ⟨c18, h⟩
  · refine g_tabHit (pc := 1) (tgt := 121) C 116 c18 dX12_factOf_1 (by decide) (by decide) rfl (by decide) ?_
    refine g_bipush (pc := 121) (v := 9) C dX12_factOf_121 (by decide) ?_
    cases h
    exact hret _ _ _ dX12_factOf_123 rfl rfl
  rcases ite_cs h with ⟨c19, h⟩ | ⟨c19, h⟩
  · refine g_tabHit (pc := 1) (tgt := 108) C 117 c19 dX12_factOf_1 (by decide) (by decide) rfl (by decide) ?_
    refine g_iconst (pc := 108) (v := 4) C dX12_factOf_108 (by decide) ?_
    cases h
    exact hret _ _ _ dX12_factOf_109 rfl rfl
  rcases ite_cs h with ⟨c20, h⟩ | ⟨c20, h⟩
  · refine g_tabHit (pc := 1) (tgt := 124) C 118 c20 dX12_factOf_1 (by decide) (by decide) rfl (by decide) ?_
    refine g_iconst (pc := 124) (v := -1) C dX12_factOf_124 (by decide) ?_
    cases h
    exact hret _ _ _ dX12_factOf_125 rfl rfl
  rcases ite_cs h with ⟨c21, h⟩ | ⟨c21, h⟩
  · refine g_tabHit (pc := 1) (tgt := 100) C 119 c21 dX12_factOf_1 (by decide) (by decide) rfl (by decide) ?_
    refine g_iconst (pc := 100) (v := 0) C dX12_factOf_100 (by decide) ?_
    cases h
    exact hret _ _ _ dX12_factOf_101 rfl rfl
  have nc1 := lv_neT c1 (a := 99) rfl
  have nc2 := lv_neT c2 (a := 100) rfl
  have nc3 := lv_neT c3 (a := 101) rfl
  have nc4 := lv_neT c4 (a := 102) rfl
  have nc5 := lv_neT c5 (a := 103) rfl
  have nc6 := lv_neT c6 (a := 104) rfl
  have nc7 := lv_neT c7 (a := 105) rfl
  have nc8 := lv_neT c8 (a := 106) rfl
  have nc9 := lv_neT c9 (a := 107) rfl
  have nc10 := lv_neT c10 (a := 108) rfl
  have nc11 := lv_neT c11 (a := 109) rfl
  have nc12 := lv_neT c12 (a := 110) rfl
  have nc13 := lv_neT c13 (a := 111) rfl
  have nc14 := lv_neT c14 (a := 112) rfl
  have nc15 := lv_neT c15 (a := 113) rfl
  have nc16 := lv_neT c16 (a := 114) rfl
  have nc17 := lv_neT c17 (a := 115) rfl
  have nc18 := lv_neT c18 (a := 116) rfl
  have nc19 := lv_neT c19 (a := 117) rfl
  have nc20 := lv_neT c20 (a := 118) rfl
  have nc21 := lv_neT c21 (a := 119) rfl
  refine g_tabMiss (pc := 1) (tgt := 124) C dX12_factOf_1 (by omega) (by decide) ?_
  refine g_iconst (pc := 124) (v := -1) C dX12_factOf_124 (by decide) ?_
  cases h
  exact hret _ _ _ dX12_factOf_125 rfl rfl
abbrev W_X12_fits (E : GE) (O_t : Nat) (a_t : Nat → Nat) (t_toldDoors : Int32) (t_barredDoors : Int32) (t_taped : Int32) (t_place0 : Int32) (t_length0 : Int32) (t_fault : Int32) (t_number0 : Int32) (t_open : Int32) (t_codeMany : Int32) (t_waiting : Int32) (t_saidMany : Int32) (t_clauses : Int32) (t_newMany : Int32) (t_rounds : Int32) (t_pinFrom : Int32) (t_pinTimes : Int32) (t_lines : Int32) (t_wasTold : Int32) (t_wasBarred : Int32) (t_goesNow : Int32) (t_jamsNow : Int32) (t_queued : Int32) (t_isKept : Int32) (t_prongsOf : (Nat → Int32)) (t_wardsOf : (Nat → Int32)) : va_W := [(O_t, ob_X12 a_t t_toldDoors t_barredDoors t_taped t_place0 t_length0 t_fault t_number0 t_open t_codeMany t_waiting t_saidMany t_clauses t_newMany t_rounds t_pinFrom t_pinTimes t_lines t_wasTold t_wasBarred t_goesNow t_jamsNow t_queued t_isKept), (a_t 3, .inl (E.2.1, 6, .inl t_prongsOf)), (a_t 6, .inl (E.2.1, 24, .inl t_wardsOf))]
def f_X12_fits (t_prongsOf : (Nat → Int32)) (t_wardsOf : (Nat → Int32)) (x1 : Int32) (x2 : Int32) : Option (Int32) := rd t_wardsOf 24 x2 fun v1 => rd t_prongsOf 6 x1 fun v2 => if (v1 &&& (v2 ^^^ (-1 : Int32))) = 0 then (some (1 : Int32)) else some (0 : Int32)
theorem dX12_fits_0 : decode cX12_fits 0 = .ok (.aload_n 0, 1) := by decide +kernel
theorem dX12_fits_1 : decode cX12_fits 1 = .ok (.getfield 28, 3) := by decide +kernel
theorem dX12_fits_4 : decode cX12_fits 4 = .ok (.iload_n 2, 1) := by decide +kernel
theorem dX12_fits_5 : decode cX12_fits 5 = .ok (.iaload, 1) := by decide +kernel
theorem dX12_fits_6 : decode cX12_fits 6 = .ok (.aload_n 0, 1) := by decide +kernel
theorem dX12_fits_7 : decode cX12_fits 7 = .ok (.getfield 19, 3) := by decide +kernel
theorem dX12_fits_10 : decode cX12_fits 10 = .ok (.iload_n 1, 1) := by decide +kernel
theorem dX12_fits_11 : decode cX12_fits 11 = .ok (.iaload, 1) := by decide +kernel
theorem dX12_fits_12 : decode cX12_fits 12 = .ok (.iconst (-1), 1) := by decide +kernel
theorem dX12_fits_13 : decode cX12_fits 13 = .ok (.ixor, 1) := by decide +kernel
theorem dX12_fits_14 : decode cX12_fits 14 = .ok (.iand, 1) := by decide +kernel
theorem dX12_fits_15 : decode cX12_fits 15 = .ok (.ifCond .ne 7, 3) := by decide +kernel
theorem dX12_fits_18 : decode cX12_fits 18 = .ok (.iconst 1, 1) := by decide +kernel
theorem dX12_fits_19 : decode cX12_fits 19 = .ok (.goto 4, 3) := by decide +kernel
theorem dX12_fits_22 : decode cX12_fits 22 = .ok (.iconst 0, 1) := by decide +kernel
theorem dX12_fits_23 : decode cX12_fits 23 = .ok (.ireturn, 1) := by decide +kernel
set_option maxHeartbeats 4000000 in
set_option maxRecDepth 100000 in
theorem c_X12_fits (l : Launch) (E : GE) (o_t : Nat) (a_t : Nat → Nat) (t_toldDoors : Int32) (t_barredDoors : Int32) (t_taped : Int32) (t_place0 : Int32) (t_length0 : Int32) (t_fault : Int32) (t_number0 : Int32) (t_open : Int32) (t_codeMany : Int32) (t_waiting : Int32) (t_saidMany : Int32) (t_clauses : Int32) (t_newMany : Int32) (t_rounds : Int32) (t_pinFrom : Int32) (t_pinTimes : Int32) (t_lines : Int32) (t_wasTold : Int32) (t_wasBarred : Int32) (t_goesNow : Int32) (t_jamsNow : Int32) (t_queued : Int32) (t_isKept : Int32) (t_prongsOf : (Nat → Int32)) (t_wardsOf : (Nat → Int32)) (x1 : Int32) (x2 : Int32) (r : Int32) (h : f_X12_fits t_prongsOf t_wardsOf x1 x2 = some r) : Cn l E yX12_fits cX12_fits 3 (some .boolean) 1 0 0 [.ref o_t, .int x1, .int x2] (W_X12_fits E o_t a_t t_toldDoors t_barredDoors t_taped t_place0 t_length0 t_fault t_number0 t_open t_codeMany t_waiting t_saidMany t_clauses t_newMany t_rounds t_pinFrom t_pinTimes t_lines t_wasTold t_wasBarred t_goesNow t_jamsNow t_queued t_isKept t_prongsOf t_wardsOf) (fun w => w = (W_X12_fits E o_t a_t t_toldDoors t_barredDoors t_taped t_place0 t_length0 t_fault t_number0 t_open t_codeMany t_waiting t_saidMany t_clauses t_newMany t_rounds t_pinFrom t_pinTimes t_lines t_wasTold t_wasBarred t_goesNow t_jamsNow t_queued t_isKept t_prongsOf t_wardsOf)) (some (.int r)) := by
  refine Cn.ofI (by decide +kernel) (Nat.le_of_ble_eq_true rfl) (fun X hX hR C hret => ?_)
  subst hX
  show Gx X E 0 0 (W_X12_fits E o_t a_t t_toldDoors t_barredDoors t_taped t_place0 t_length0 t_fault t_number0 t_open t_codeMany t_waiting t_saidMany t_clauses t_newMany t_rounds t_pinFrom t_pinTimes t_lines t_wasTold t_wasBarred t_goesNow t_jamsNow t_queued t_isKept t_prongsOf t_wardsOf) 0 [(0, .ref o_t), (1, .int x1), (2, .int x2)] []
  unfold f_X12_fits at h
  refine g_aload_n (pc := 0) C dX12_fits_0 rfl 0 rfl ?_
  refine g_get (pc := 1) C fl_X12_28 dX12_fits_1 0 rfl rfl ?_
  refine g_iload_n (pc := 4) C dX12_fits_4 rfl 2 rfl ?_
  refine g_iald (pc := 5) C dX12_fits_5 2 rfl h (fun v1 h => ?_)
  refine g_aload_n (pc := 6) C dX12_fits_6 rfl 0 rfl ?_
  refine g_get (pc := 7) C fl_X12_19 dX12_fits_7 0 rfl rfl ?_
  refine g_iload_n (pc := 10) C dX12_fits_10 rfl 1 rfl ?_
  refine g_iald (pc := 11) C dX12_fits_11 1 rfl h (fun v2 h => ?_)
  refine g_iconst (pc := 12) (v := -1) C dX12_fits_12 (by decide) ?_
  refine g_ixor (pc := 13) C dX12_fits_13 ?_
  refine g_iand (pc := 14) C dX12_fits_14 ?_
  refine g_if_ne (pc := 15) (tgt := 22) C dX12_fits_15 (by decide) h (fun h => ?_) (fun h => ?_)
  · refine g_iconst (pc := 22) (v := 0) C dX12_fits_22 (by decide) ?_
    cases h
    exact hret _ _ _ dX12_fits_23 nb0 rfl
  · refine g_iconst (pc := 18) (v := 1) C dX12_fits_18 (by decide) ?_
    refine g_goto (pc := 19) (tgt := 23) C dX12_fits_19 (by decide) ?_
    cases h
    exact hret _ _ _ dX12_fits_23 nb1 rfl
abbrev W_X12_goneOf (E : GE) : va_W := []
def L_X12_goneOf_8 (x1 : Int32) (k0 : Int32 → Option (Int32)) : Nat → Int32 × Int32 → Option (Int32) := lp fun go s => if x1 ≤ s.2 then (k0 s.1) else dv s.1 (7 : Int32) fun v2 => nm (s.2 + (1 : Int32)) fun v3 => go (v2, v3)
def f_X12_goneOf (x0 : Int32) (x1 : Int32) : Option (Int32) := rm x0 (117649 : Int32) fun v1 => L_X12_goneOf_8 x1 (fun s4 => rm s4 (7 : Int32) fun v5 => some v5) fu (v1, (0 : Int32))
theorem dX12_goneOf_0 : decode cX12_goneOf 0 = .ok (.iload_n 0, 1) := by decide +kernel
theorem dX12_goneOf_1 : decode cX12_goneOf 1 = .ok (.ldc_w 363, 3) := by decide +kernel
theorem dX12_goneOf_4 : decode cX12_goneOf 4 = .ok (.irem, 1) := by decide +kernel
theorem dX12_goneOf_5 : decode cX12_goneOf 5 = .ok (.istore_n 2, 1) := by decide +kernel
theorem dX12_goneOf_6 : decode cX12_goneOf 6 = .ok (.iconst 0, 1) := by decide +kernel
theorem dX12_goneOf_7 : decode cX12_goneOf 7 = .ok (.istore_n 3, 1) := by decide +kernel
theorem dX12_goneOf_8 : decode cX12_goneOf 8 = .ok (.iload_n 3, 1) := by decide +kernel
theorem dX12_goneOf_9 : decode cX12_goneOf 9 = .ok (.iload_n 1, 1) := by decide +kernel
theorem dX12_goneOf_10 : decode cX12_goneOf 10 = .ok (.if_icmp .ge 14, 3) := by decide +kernel
theorem dX12_goneOf_13 : decode cX12_goneOf 13 = .ok (.iload_n 2, 1) := by decide +kernel
theorem dX12_goneOf_14 : decode cX12_goneOf 14 = .ok (.bipush 7, 2) := by decide +kernel
theorem dX12_goneOf_16 : decode cX12_goneOf 16 = .ok (.idiv, 1) := by decide +kernel
theorem dX12_goneOf_17 : decode cX12_goneOf 17 = .ok (.istore_n 2, 1) := by decide +kernel
theorem dX12_goneOf_18 : decode cX12_goneOf 18 = .ok (.iinc 3 1, 3) := by decide +kernel
theorem dX12_goneOf_21 : decode cX12_goneOf 21 = .ok (.goto (-13), 3) := by decide +kernel
theorem dX12_goneOf_24 : decode cX12_goneOf 24 = .ok (.iload_n 2, 1) := by decide +kernel
theorem dX12_goneOf_25 : decode cX12_goneOf 25 = .ok (.bipush 7, 2) := by decide +kernel
theorem dX12_goneOf_27 : decode cX12_goneOf 27 = .ok (.irem, 1) := by decide +kernel
theorem dX12_goneOf_28 : decode cX12_goneOf 28 = .ok (.ireturn, 1) := by decide +kernel
set_option maxHeartbeats 4000000 in
set_option maxRecDepth 100000 in
theorem kL_X12_goneOf_8 {X : GC} {E : GE} (C : Cx X E cX12_goneOf RX12 1 4) (x1 : Int32) (k0 : Int32 → Option (Int32)) {r : Int32} (hret : RtI X E cX12_goneOf .int 0 0 (fun w => w = (W_X12_goneOf E)) r) (hk0 : ∀ u, k0 u = some r → Gx X E 0 0 (W_X12_goneOf E) 24 [(2, .int u)] []) : ∀ (n : Nat) (s : Int32 × Int32), L_X12_goneOf_8 x1 k0 n s = some r → Gx X E 0 0 (W_X12_goneOf E) 8 [(1, .int x1), (2, .int s.1), (3, .int s.2)] [] := by
  unfold L_X12_goneOf_8
  refine lp_ind _ (fun go ih s h => ?_)
  refine g_iload_n (pc := 8) C dX12_goneOf_8 rfl 2 rfl ?_
  refine g_iload_n (pc := 9) C dX12_goneOf_9 rfl 0 rfl ?_
  refine g_icmp_ge (pc := 10) (tgt := 24) C dX12_goneOf_10 (by decide) h (fun h => ?_) (fun h => ?_)
  · refine g_sub [1] rfl ?_
    exact hk0 _ h
  · refine g_iload_n (pc := 13) C dX12_goneOf_13 rfl 1 rfl ?_
    refine g_bipush (pc := 14) (v := 7) C dX12_goneOf_14 (by decide) ?_
    refine g_idiv (pc := 16) C dX12_goneOf_16 h (fun v2 h => ?_)
    refine g_istore_n (pc := 17) (lv' := [(2, .int v2), (1, .int x1), (3, .int s.2)]) C dX12_goneOf_17 rfl (by decide) rfl ?_
    refine g_iincn (pc := 18) (j := 2) (d := 1) (lv' := fun v3 => [(3, .int v3), (2, .int v2), (1, .int x1)]) C dX12_goneOf_18 rfl (by decide) (by decide) (fun _ => rfl) h (fun v3 h => ?_)
    refine g_goto (pc := 21) (tgt := 8) C dX12_goneOf_21 (by decide) ?_
    refine g_sub [2, 1, 0] rfl ?_
    exact ih _ h
set_option maxHeartbeats 4000000 in
set_option maxRecDepth 100000 in
theorem c_X12_goneOf (l : Launch) (E : GE) (x0 : Int32) (x1 : Int32) (r : Int32) (h : f_X12_goneOf x0 x1 = some r) : Cn l E yX12_goneOf cX12_goneOf 4 (some .int) 1 0 0 [.int x0, .int x1] (W_X12_goneOf E) (fun w => w = (W_X12_goneOf E)) (some (.int r)) := by
  refine Cn.ofI (by decide +kernel) (Nat.le_of_ble_eq_true rfl) (fun X hX hR C hret => ?_)
  subst hX
  show Gx X E 0 0 (W_X12_goneOf E) 0 [(0, .int x0), (1, .int x1)] []
  unfold f_X12_goneOf at h
  refine g_iload_n (pc := 0) C dX12_goneOf_0 rfl 0 rfl ?_
  refine g_ldcw (pc := 1) C dX12_goneOf_1 ct_X12_363 ?_
  refine g_irem (pc := 4) C dX12_goneOf_4 h (fun v1 h => ?_)
  refine g_istore_n (pc := 5) (lv' := [(2, .int v1), (0, .int x0), (1, .int x1)]) C dX12_goneOf_5 rfl (by decide) rfl ?_
  refine g_iconst (pc := 6) (v := 0) C dX12_goneOf_6 (by decide) ?_
  refine g_istore_n (pc := 7) (lv' := [(3, .int (0 : Int32)), (2, .int v1), (0, .int x0), (1, .int x1)]) C dX12_goneOf_7 rfl (by decide) rfl ?_
  refine g_sub [3, 1, 0] rfl ?_
  refine kL_X12_goneOf_8 C x1 _ hret (fun s4 h => ?_) _ _ h
  refine g_iload_n (pc := 24) C dX12_goneOf_24 rfl 0 rfl ?_
  refine g_bipush (pc := 25) (v := 7) C dX12_goneOf_25 (by decide) ?_
  refine g_irem (pc := 27) C dX12_goneOf_27 h (fun v5 h => ?_)
  cases h
  exact hret _ _ _ dX12_goneOf_28 rfl rfl
abbrev W_X12_has (E : GE) : va_W := []
def f_X12_has (x0 : Int32) (x1 : Int32) : Option (Int32) := if ((x0 >>> (x1 &&& 31)) &&& (1 : Int32)) = (1 : Int32) then (some (1 : Int32)) else some (0 : Int32)
theorem dX12_has_0 : decode cX12_has 0 = .ok (.iload_n 0, 1) := by decide +kernel
theorem dX12_has_1 : decode cX12_has 1 = .ok (.iload_n 1, 1) := by decide +kernel
theorem dX12_has_2 : decode cX12_has 2 = .ok (.ishr, 1) := by decide +kernel
theorem dX12_has_3 : decode cX12_has 3 = .ok (.iconst 1, 1) := by decide +kernel
theorem dX12_has_4 : decode cX12_has 4 = .ok (.iand, 1) := by decide +kernel
theorem dX12_has_5 : decode cX12_has 5 = .ok (.iconst 1, 1) := by decide +kernel
theorem dX12_has_6 : decode cX12_has 6 = .ok (.if_icmp .ne 7, 3) := by decide +kernel
theorem dX12_has_9 : decode cX12_has 9 = .ok (.iconst 1, 1) := by decide +kernel
theorem dX12_has_10 : decode cX12_has 10 = .ok (.goto 4, 3) := by decide +kernel
theorem dX12_has_13 : decode cX12_has 13 = .ok (.iconst 0, 1) := by decide +kernel
theorem dX12_has_14 : decode cX12_has 14 = .ok (.ireturn, 1) := by decide +kernel
set_option maxHeartbeats 4000000 in
set_option maxRecDepth 100000 in
theorem c_X12_has (l : Launch) (E : GE) (x0 : Int32) (x1 : Int32) (r : Int32) (h : f_X12_has x0 x1 = some r) : Cn l E yX12_has cX12_has 2 (some .boolean) 1 0 0 [.int x0, .int x1] (W_X12_has E) (fun w => w = (W_X12_has E)) (some (.int r)) := by
  refine Cn.ofI (by decide +kernel) (Nat.le_of_ble_eq_true rfl) (fun X hX hR C hret => ?_)
  subst hX
  show Gx X E 0 0 (W_X12_has E) 0 [(0, .int x0), (1, .int x1)] []
  unfold f_X12_has at h
  refine g_iload_n (pc := 0) C dX12_has_0 rfl 0 rfl ?_
  refine g_iload_n (pc := 1) C dX12_has_1 rfl 1 rfl ?_
  refine g_ishr (pc := 2) C dX12_has_2 ?_
  refine g_iconst (pc := 3) (v := 1) C dX12_has_3 (by decide) ?_
  refine g_iand (pc := 4) C dX12_has_4 ?_
  refine g_iconst (pc := 5) (v := 1) C dX12_has_5 (by decide) ?_
  refine g_icmp_ne (pc := 6) (tgt := 13) C dX12_has_6 (by decide) h (fun h => ?_) (fun h => ?_)
  · refine g_iconst (pc := 13) (v := 0) C dX12_has_13 (by decide) ?_
    cases h
    exact hret _ _ _ dX12_has_14 nb0 rfl
  · refine g_iconst (pc := 9) (v := 1) C dX12_has_9 (by decide) ?_
    refine g_goto (pc := 10) (tgt := 14) C dX12_has_10 (by decide) ?_
    cases h
    exact hret _ _ _ dX12_has_14 nb1 rfl
abbrev W_X12_hasOpenSum (E : GE) (O_t : Nat) (a_t : Nat → Nat) (t_toldDoors : Int32) (t_barredDoors : Int32) (t_taped : Int32) (t_place0 : Int32) (t_length0 : Int32) (t_fault : Int32) (t_number0 : Int32) (t_open : Int32) (t_codeMany : Int32) (t_waiting : Int32) (t_saidMany : Int32) (t_clauses : Int32) (t_newMany : Int32) (t_rounds : Int32) (t_pinFrom : Int32) (t_pinTimes : Int32) (t_lines : Int32) (t_wasTold : Int32) (t_wasBarred : Int32) (t_goesNow : Int32) (t_jamsNow : Int32) (t_queued : Int32) (t_isKept : Int32) (t_waitsAt : (Nat → Int32)) : va_W := [(O_t, ob_X12 a_t t_toldDoors t_barredDoors t_taped t_place0 t_length0 t_fault t_number0 t_open t_codeMany t_waiting t_saidMany t_clauses t_newMany t_rounds t_pinFrom t_pinTimes t_lines t_wasTold t_wasBarred t_goesNow t_jamsNow t_queued t_isKept), (a_t 25, .inl (E.2.1, 260, .inl t_waitsAt))]
def L_X12_hasOpenSum_2 (t_waiting : Int32) (t_waitsAt : (Nat → Int32)) : Nat → Int32 → Option (Int32) := lp fun go s => if t_waiting ≤ s then (some (0 : Int32)) else rd t_waitsAt 260 s fun v1 => dv v1 (1048576 : Int32) fun v2 => if v2 = (14 : Int32) then (some (1 : Int32)) else nm (s + (1 : Int32)) fun v3 => go v3
def f_X12_hasOpenSum (t_waiting : Int32) (t_waitsAt : (Nat → Int32)) (x1 : Int32) : Option (Int32) := L_X12_hasOpenSum_2 t_waiting t_waitsAt fu x1
theorem dX12_hasOpenSum_0 : decode cX12_hasOpenSum 0 = .ok (.iload_n 1, 1) := by decide +kernel
theorem dX12_hasOpenSum_1 : decode cX12_hasOpenSum 1 = .ok (.istore_n 2, 1) := by decide +kernel
theorem dX12_hasOpenSum_2 : decode cX12_hasOpenSum 2 = .ok (.iload_n 2, 1) := by decide +kernel
theorem dX12_hasOpenSum_3 : decode cX12_hasOpenSum 3 = .ok (.aload_n 0, 1) := by decide +kernel
theorem dX12_hasOpenSum_4 : decode cX12_hasOpenSum 4 = .ok (.getfield 176, 3) := by decide +kernel
theorem dX12_hasOpenSum_7 : decode cX12_hasOpenSum 7 = .ok (.if_icmp .ge 25, 3) := by decide +kernel
theorem dX12_hasOpenSum_10 : decode cX12_hasOpenSum 10 = .ok (.aload_n 0, 1) := by decide +kernel
theorem dX12_hasOpenSum_11 : decode cX12_hasOpenSum 11 = .ok (.getfield 50, 3) := by decide +kernel
theorem dX12_hasOpenSum_14 : decode cX12_hasOpenSum 14 = .ok (.iload_n 2, 1) := by decide +kernel
theorem dX12_hasOpenSum_15 : decode cX12_hasOpenSum 15 = .ok (.iaload, 1) := by decide +kernel
theorem dX12_hasOpenSum_16 : decode cX12_hasOpenSum 16 = .ok (.ldc 172, 2) := by decide +kernel
theorem dX12_hasOpenSum_18 : decode cX12_hasOpenSum 18 = .ok (.idiv, 1) := by decide +kernel
theorem dX12_hasOpenSum_19 : decode cX12_hasOpenSum 19 = .ok (.bipush 14, 2) := by decide +kernel
theorem dX12_hasOpenSum_21 : decode cX12_hasOpenSum 21 = .ok (.if_icmp .ne 5, 3) := by decide +kernel
theorem dX12_hasOpenSum_24 : decode cX12_hasOpenSum 24 = .ok (.iconst 1, 1) := by decide +kernel
theorem dX12_hasOpenSum_25 : decode cX12_hasOpenSum 25 = .ok (.ireturn, 1) := by decide +kernel
theorem dX12_hasOpenSum_26 : decode cX12_hasOpenSum 26 = .ok (.iinc 2 1, 3) := by decide +kernel
theorem dX12_hasOpenSum_29 : decode cX12_hasOpenSum 29 = .ok (.goto (-27), 3) := by decide +kernel
theorem dX12_hasOpenSum_32 : decode cX12_hasOpenSum 32 = .ok (.iconst 0, 1) := by decide +kernel
theorem dX12_hasOpenSum_33 : decode cX12_hasOpenSum 33 = .ok (.ireturn, 1) := by decide +kernel
set_option maxHeartbeats 4000000 in
set_option maxRecDepth 100000 in
theorem kL_X12_hasOpenSum_2 {X : GC} {E : GE} (C : Cx X E cX12_hasOpenSum RX12 1 3) (o_t : Nat) (a_t : Nat → Nat) (t_toldDoors : Int32) (t_barredDoors : Int32) (t_taped : Int32) (t_place0 : Int32) (t_length0 : Int32) (t_fault : Int32) (t_number0 : Int32) (t_open : Int32) (t_codeMany : Int32) (t_saidMany : Int32) (t_clauses : Int32) (t_newMany : Int32) (t_rounds : Int32) (t_pinFrom : Int32) (t_pinTimes : Int32) (t_lines : Int32) (t_wasTold : Int32) (t_wasBarred : Int32) (t_goesNow : Int32) (t_jamsNow : Int32) (t_queued : Int32) (t_isKept : Int32) (t_waiting : Int32) (t_waitsAt : (Nat → Int32)) {r : Int32} (hret : RtI X E cX12_hasOpenSum .boolean 0 0 (fun w => w = (W_X12_hasOpenSum E o_t a_t t_toldDoors t_barredDoors t_taped t_place0 t_length0 t_fault t_number0 t_open t_codeMany t_waiting t_saidMany t_clauses t_newMany t_rounds t_pinFrom t_pinTimes t_lines t_wasTold t_wasBarred t_goesNow t_jamsNow t_queued t_isKept t_waitsAt)) r) : ∀ (n : Nat) (s : Int32), L_X12_hasOpenSum_2 t_waiting t_waitsAt n s = some r → Gx X E 0 0 (W_X12_hasOpenSum E o_t a_t t_toldDoors t_barredDoors t_taped t_place0 t_length0 t_fault t_number0 t_open t_codeMany t_waiting t_saidMany t_clauses t_newMany t_rounds t_pinFrom t_pinTimes t_lines t_wasTold t_wasBarred t_goesNow t_jamsNow t_queued t_isKept t_waitsAt) 2 [(0, .ref o_t), (2, .int s)] [] := by
  unfold L_X12_hasOpenSum_2
  refine lp_ind _ (fun go ih s h => ?_)
  refine g_iload_n (pc := 2) C dX12_hasOpenSum_2 rfl 1 rfl ?_
  refine g_aload_n (pc := 3) C dX12_hasOpenSum_3 rfl 0 rfl ?_
  refine g_get (pc := 4) C fl_X12_176 dX12_hasOpenSum_4 0 rfl rfl ?_
  refine g_icmp_ge (pc := 7) (tgt := 32) C dX12_hasOpenSum_7 (by decide) h (fun h => ?_) (fun h => ?_)
  · refine g_iconst (pc := 32) (v := 0) C dX12_hasOpenSum_32 (by decide) ?_
    cases h
    exact hret _ _ _ dX12_hasOpenSum_33 nb0 rfl
  · refine g_aload_n (pc := 10) C dX12_hasOpenSum_10 rfl 0 rfl ?_
    refine g_get (pc := 11) C fl_X12_50 dX12_hasOpenSum_11 0 rfl rfl ?_
    refine g_iload_n (pc := 14) C dX12_hasOpenSum_14 rfl 1 rfl ?_
    refine g_iald (pc := 15) C dX12_hasOpenSum_15 1 rfl h (fun v1 h => ?_)
    refine g_ldc (pc := 16) C dX12_hasOpenSum_16 ct_X12_172 ?_
    refine g_idiv (pc := 18) C dX12_hasOpenSum_18 h (fun v2 h => ?_)
    refine g_bipush (pc := 19) (v := 14) C dX12_hasOpenSum_19 (by decide) ?_
    refine g_icmp_ne (pc := 21) (tgt := 26) C dX12_hasOpenSum_21 (by decide) h (fun h => ?_) (fun h => ?_)
    · refine g_iincn (pc := 26) (j := 1) (d := 1) (lv' := fun v3 => [(2, .int v3), (0, .ref o_t)]) C dX12_hasOpenSum_26 rfl (by decide) (by decide) (fun _ => rfl) h (fun v3 h => ?_)
      refine g_goto (pc := 29) (tgt := 2) C dX12_hasOpenSum_29 (by decide) ?_
      refine g_sub [1, 0] rfl ?_
      exact ih _ h
    · refine g_iconst (pc := 24) (v := 1) C dX12_hasOpenSum_24 (by decide) ?_
      cases h
      exact hret _ _ _ dX12_hasOpenSum_25 nb1 rfl
set_option maxHeartbeats 4000000 in
set_option maxRecDepth 100000 in
theorem c_X12_hasOpenSum (l : Launch) (E : GE) (o_t : Nat) (a_t : Nat → Nat) (t_toldDoors : Int32) (t_barredDoors : Int32) (t_taped : Int32) (t_place0 : Int32) (t_length0 : Int32) (t_fault : Int32) (t_number0 : Int32) (t_open : Int32) (t_codeMany : Int32) (t_waiting : Int32) (t_saidMany : Int32) (t_clauses : Int32) (t_newMany : Int32) (t_rounds : Int32) (t_pinFrom : Int32) (t_pinTimes : Int32) (t_lines : Int32) (t_wasTold : Int32) (t_wasBarred : Int32) (t_goesNow : Int32) (t_jamsNow : Int32) (t_queued : Int32) (t_isKept : Int32) (t_waitsAt : (Nat → Int32)) (x1 : Int32) (r : Int32) (h : f_X12_hasOpenSum t_waiting t_waitsAt x1 = some r) : Cn l E yX12_hasOpenSum cX12_hasOpenSum 3 (some .boolean) 1 0 0 [.ref o_t, .int x1] (W_X12_hasOpenSum E o_t a_t t_toldDoors t_barredDoors t_taped t_place0 t_length0 t_fault t_number0 t_open t_codeMany t_waiting t_saidMany t_clauses t_newMany t_rounds t_pinFrom t_pinTimes t_lines t_wasTold t_wasBarred t_goesNow t_jamsNow t_queued t_isKept t_waitsAt) (fun w => w = (W_X12_hasOpenSum E o_t a_t t_toldDoors t_barredDoors t_taped t_place0 t_length0 t_fault t_number0 t_open t_codeMany t_waiting t_saidMany t_clauses t_newMany t_rounds t_pinFrom t_pinTimes t_lines t_wasTold t_wasBarred t_goesNow t_jamsNow t_queued t_isKept t_waitsAt)) (some (.int r)) := by
  refine Cn.ofI (by decide +kernel) (Nat.le_of_ble_eq_true rfl) (fun X hX hR C hret => ?_)
  subst hX
  show Gx X E 0 0 (W_X12_hasOpenSum E o_t a_t t_toldDoors t_barredDoors t_taped t_place0 t_length0 t_fault t_number0 t_open t_codeMany t_waiting t_saidMany t_clauses t_newMany t_rounds t_pinFrom t_pinTimes t_lines t_wasTold t_wasBarred t_goesNow t_jamsNow t_queued t_isKept t_waitsAt) 0 [(0, .ref o_t), (1, .int x1)] []
  unfold f_X12_hasOpenSum at h
  refine g_iload_n (pc := 0) C dX12_hasOpenSum_0 rfl 1 rfl ?_
  refine g_istore_n (pc := 1) (lv' := [(2, .int x1), (0, .ref o_t), (1, .int x1)]) C dX12_hasOpenSum_1 rfl (by decide) rfl ?_
  refine g_sub [1, 0] rfl ?_
  refine kL_X12_hasOpenSum_2 C o_t a_t t_toldDoors t_barredDoors t_taped t_place0 t_length0 t_fault t_number0 t_open t_codeMany t_saidMany t_clauses t_newMany t_rounds t_pinFrom t_pinTimes t_lines t_wasTold t_wasBarred t_goesNow t_jamsNow t_queued t_isKept t_waiting t_waitsAt hret  _ _ h
abbrev W_X12_here (E : GE) (O_t : Nat) (a_t : Nat → Nat) (t_toldDoors : Int32) (t_barredDoors : Int32) (t_taped : Int32) (t_place0 : Int32) (t_length0 : Int32) (t_fault : Int32) (t_number0 : Int32) (t_open : Int32) (t_codeMany : Int32) (t_waiting : Int32) (t_saidMany : Int32) (t_clauses : Int32) (t_newMany : Int32) (t_rounds : Int32) (t_pinFrom : Int32) (t_pinTimes : Int32) (t_lines : Int32) (t_wasTold : Int32) (t_wasBarred : Int32) (t_goesNow : Int32) (t_jamsNow : Int32) (t_queued : Int32) (t_isKept : Int32) (t_tape : (Nat → Int32)) : va_W := [(O_t, ob_X12 a_t t_toldDoors t_barredDoors t_taped t_place0 t_length0 t_fault t_number0 t_open t_codeMany t_waiting t_saidMany t_clauses t_newMany t_rounds t_pinFrom t_pinTimes t_lines t_wasTold t_wasBarred t_goesNow t_jamsNow t_queued t_isKept), (a_t 13, .inl (E.2.2.1, 260, .inl t_tape))]
def f_X12_here (t_place0 : Int32) (t_length0 : Int32) (t_tape : (Nat → Int32)) : Option (Int32) := if t_length0 ≤ t_place0 then (some (-1 : Int32)) else rd t_tape 260 t_place0 fun v1 => some (v1 &&& (255 : Int32))
theorem dX12_here_0 : decode cX12_here 0 = .ok (.aload_n 0, 1) := by decide +kernel
theorem dX12_here_1 : decode cX12_here 1 = .ok (.getfield 146, 3) := by decide +kernel
theorem dX12_here_4 : decode cX12_here 4 = .ok (.aload_n 0, 1) := by decide +kernel
theorem dX12_here_5 : decode cX12_here 5 = .ok (.getfield 149, 3) := by decide +kernel
theorem dX12_here_8 : decode cX12_here 8 = .ok (.if_icmp .ge 19, 3) := by decide +kernel
theorem dX12_here_11 : decode cX12_here 11 = .ok (.aload_n 0, 1) := by decide +kernel
theorem dX12_here_12 : decode cX12_here 12 = .ok (.getfield 43, 3) := by decide +kernel
theorem dX12_here_15 : decode cX12_here 15 = .ok (.aload_n 0, 1) := by decide +kernel
theorem dX12_here_16 : decode cX12_here 16 = .ok (.getfield 146, 3) := by decide +kernel
theorem dX12_here_19 : decode cX12_here 19 = .ok (.baload, 1) := by decide +kernel
theorem dX12_here_20 : decode cX12_here 20 = .ok (.sipush 255, 3) := by decide +kernel
theorem dX12_here_23 : decode cX12_here 23 = .ok (.iand, 1) := by decide +kernel
theorem dX12_here_24 : decode cX12_here 24 = .ok (.goto 4, 3) := by decide +kernel
theorem dX12_here_27 : decode cX12_here 27 = .ok (.iconst (-1), 1) := by decide +kernel
theorem dX12_here_28 : decode cX12_here 28 = .ok (.ireturn, 1) := by decide +kernel
set_option maxHeartbeats 4000000 in
set_option maxRecDepth 100000 in
theorem c_X12_here (l : Launch) (E : GE) (o_t : Nat) (a_t : Nat → Nat) (t_toldDoors : Int32) (t_barredDoors : Int32) (t_taped : Int32) (t_place0 : Int32) (t_length0 : Int32) (t_fault : Int32) (t_number0 : Int32) (t_open : Int32) (t_codeMany : Int32) (t_waiting : Int32) (t_saidMany : Int32) (t_clauses : Int32) (t_newMany : Int32) (t_rounds : Int32) (t_pinFrom : Int32) (t_pinTimes : Int32) (t_lines : Int32) (t_wasTold : Int32) (t_wasBarred : Int32) (t_goesNow : Int32) (t_jamsNow : Int32) (t_queued : Int32) (t_isKept : Int32) (t_tape : (Nat → Int32)) (r : Int32) (h : f_X12_here t_place0 t_length0 t_tape = some r) : Cn l E yX12_here cX12_here 1 (some .int) 1 0 0 [.ref o_t] (W_X12_here E o_t a_t t_toldDoors t_barredDoors t_taped t_place0 t_length0 t_fault t_number0 t_open t_codeMany t_waiting t_saidMany t_clauses t_newMany t_rounds t_pinFrom t_pinTimes t_lines t_wasTold t_wasBarred t_goesNow t_jamsNow t_queued t_isKept t_tape) (fun w => w = (W_X12_here E o_t a_t t_toldDoors t_barredDoors t_taped t_place0 t_length0 t_fault t_number0 t_open t_codeMany t_waiting t_saidMany t_clauses t_newMany t_rounds t_pinFrom t_pinTimes t_lines t_wasTold t_wasBarred t_goesNow t_jamsNow t_queued t_isKept t_tape)) (some (.int r)) := by
  refine Cn.ofI (by decide +kernel) (Nat.le_of_ble_eq_true rfl) (fun X hX hR C hret => ?_)
  subst hX
  show Gx X E 0 0 (W_X12_here E o_t a_t t_toldDoors t_barredDoors t_taped t_place0 t_length0 t_fault t_number0 t_open t_codeMany t_waiting t_saidMany t_clauses t_newMany t_rounds t_pinFrom t_pinTimes t_lines t_wasTold t_wasBarred t_goesNow t_jamsNow t_queued t_isKept t_tape) 0 [(0, .ref o_t)] []
  unfold f_X12_here at h
  refine g_aload_n (pc := 0) C dX12_here_0 rfl 0 rfl ?_
  refine g_get (pc := 1) C fl_X12_146 dX12_here_1 0 rfl rfl ?_
  refine g_aload_n (pc := 4) C dX12_here_4 rfl 0 rfl ?_
  refine g_get (pc := 5) C fl_X12_149 dX12_here_5 0 rfl rfl ?_
  refine g_icmp_ge (pc := 8) (tgt := 27) C dX12_here_8 (by decide) h (fun h => ?_) (fun h => ?_)
  · refine g_iconst (pc := 27) (v := -1) C dX12_here_27 (by decide) ?_
    cases h
    exact hret _ _ _ dX12_here_28 rfl rfl
  · refine g_aload_n (pc := 11) C dX12_here_11 rfl 0 rfl ?_
    refine g_get (pc := 12) C fl_X12_43 dX12_here_12 0 rfl rfl ?_
    refine g_aload_n (pc := 15) C dX12_here_15 rfl 0 rfl ?_
    refine g_get (pc := 16) C fl_X12_146 dX12_here_16 0 rfl rfl ?_
    refine g_bald (pc := 19) C dX12_here_19 1 rfl h (fun v1 h => ?_)
    refine g_sipush (pc := 20) (v := 255) C dX12_here_20 (by decide) ?_
    refine g_iand (pc := 23) C dX12_here_23 ?_
    refine g_goto (pc := 24) (tgt := 28) C dX12_here_24 (by decide) ?_
    cases h
    exact hret _ _ _ dX12_here_28 rfl rfl
abbrev W_X12_in (E : GE) : va_W := []
def f_X12_in (x0 : Int32) (x1 : Int32) (x2 : Int32) : Option (Int32) := if x0 < x1 then (some (0 : Int32)) else if x2 < x0 then (some (0 : Int32)) else some (1 : Int32)
theorem dX12_in_0 : decode cX12_in 0 = .ok (.iload_n 0, 1) := by decide +kernel
theorem dX12_in_1 : decode cX12_in 1 = .ok (.iload_n 1, 1) := by decide +kernel
theorem dX12_in_2 : decode cX12_in 2 = .ok (.if_icmp .lt 12, 3) := by decide +kernel
theorem dX12_in_5 : decode cX12_in 5 = .ok (.iload_n 0, 1) := by decide +kernel
theorem dX12_in_6 : decode cX12_in 6 = .ok (.iload_n 2, 1) := by decide +kernel
theorem dX12_in_7 : decode cX12_in 7 = .ok (.if_icmp .gt 7, 3) := by decide +kernel
theorem dX12_in_10 : decode cX12_in 10 = .ok (.iconst 1, 1) := by decide +kernel
theorem dX12_in_11 : decode cX12_in 11 = .ok (.goto 4, 3) := by decide +kernel
theorem dX12_in_14 : decode cX12_in 14 = .ok (.iconst 0, 1) := by decide +kernel
theorem dX12_in_15 : decode cX12_in 15 = .ok (.ireturn, 1) := by decide +kernel
set_option maxHeartbeats 4000000 in
set_option maxRecDepth 100000 in
theorem c_X12_in (l : Launch) (E : GE) (x0 : Int32) (x1 : Int32) (x2 : Int32) (r : Int32) (h : f_X12_in x0 x1 x2 = some r) : Cn l E yX12_in cX12_in 3 (some .boolean) 1 0 0 [.int x0, .int x1, .int x2] (W_X12_in E) (fun w => w = (W_X12_in E)) (some (.int r)) := by
  refine Cn.ofI (by decide +kernel) (Nat.le_of_ble_eq_true rfl) (fun X hX hR C hret => ?_)
  subst hX
  show Gx X E 0 0 (W_X12_in E) 0 [(0, .int x0), (1, .int x1), (2, .int x2)] []
  unfold f_X12_in at h
  refine g_iload_n (pc := 0) C dX12_in_0 rfl 0 rfl ?_
  refine g_iload_n (pc := 1) C dX12_in_1 rfl 1 rfl ?_
  refine g_icmp_lt (pc := 2) (tgt := 14) C dX12_in_2 (by decide) h (fun h => ?_) (fun h => ?_)
  · refine g_iconst (pc := 14) (v := 0) C dX12_in_14 (by decide) ?_
    cases h
    exact hret _ _ _ dX12_in_15 nb0 rfl
  · refine g_iload_n (pc := 5) C dX12_in_5 rfl 0 rfl ?_
    refine g_iload_n (pc := 6) C dX12_in_6 rfl 2 rfl ?_
    refine g_icmp_gt (pc := 7) (tgt := 14) C dX12_in_7 (by decide) h (fun h => ?_) (fun h => ?_)
    · refine g_iconst (pc := 14) (v := 0) C dX12_in_14 (by decide) ?_
      cases h
      exact hret _ _ _ dX12_in_15 nb0 rfl
    · refine g_iconst (pc := 10) (v := 1) C dX12_in_10 (by decide) ?_
      refine g_goto (pc := 11) (tgt := 15) C dX12_in_11 (by decide) ?_
      cases h
      exact hret _ _ _ dX12_in_15 nb1 rfl
abbrev W_X12_min (E : GE) : va_W := []
def f_X12_min (x0 : Int32) (x1 : Int32) : Option (Int32) := if x1 ≤ x0 then (some x1) else some x0
theorem dX12_min_0 : decode cX12_min 0 = .ok (.iload_n 0, 1) := by decide +kernel
theorem dX12_min_1 : decode cX12_min 1 = .ok (.iload_n 1, 1) := by decide +kernel
theorem dX12_min_2 : decode cX12_min 2 = .ok (.if_icmp .ge 7, 3) := by decide +kernel
theorem dX12_min_5 : decode cX12_min 5 = .ok (.iload_n 0, 1) := by decide +kernel
theorem dX12_min_6 : decode cX12_min 6 = .ok (.goto 4, 3) := by decide +kernel
theorem dX12_min_9 : decode cX12_min 9 = .ok (.iload_n 1, 1) := by decide +kernel
theorem dX12_min_10 : decode cX12_min 10 = .ok (.ireturn, 1) := by decide +kernel
set_option maxHeartbeats 4000000 in
set_option maxRecDepth 100000 in
theorem c_X12_min (l : Launch) (E : GE) (x0 : Int32) (x1 : Int32) (r : Int32) (h : f_X12_min x0 x1 = some r) : Cn l E yX12_min cX12_min 2 (some .int) 1 0 0 [.int x0, .int x1] (W_X12_min E) (fun w => w = (W_X12_min E)) (some (.int r)) := by
  refine Cn.ofI (by decide +kernel) (Nat.le_of_ble_eq_true rfl) (fun X hX hR C hret => ?_)
  subst hX
  show Gx X E 0 0 (W_X12_min E) 0 [(0, .int x0), (1, .int x1)] []
  unfold f_X12_min at h
  refine g_iload_n (pc := 0) C dX12_min_0 rfl 0 rfl ?_
  refine g_iload_n (pc := 1) C dX12_min_1 rfl 1 rfl ?_
  refine g_icmp_ge (pc := 2) (tgt := 9) C dX12_min_2 (by decide) h (fun h => ?_) (fun h => ?_)
  · refine g_iload_n (pc := 9) C dX12_min_9 rfl 1 rfl ?_
    cases h
    exact hret _ _ _ dX12_min_10 rfl rfl
  · refine g_iload_n (pc := 5) C dX12_min_5 rfl 0 rfl ?_
    refine g_goto (pc := 6) (tgt := 10) C dX12_min_6 (by decide) ?_
    cases h
    exact hret _ _ _ dX12_min_10 rfl rfl
abbrev W_X12_notes (E : GE) (O_t : Nat) (a_t : Nat → Nat) (t_toldDoors : Int32) (t_barredDoors : Int32) (t_taped : Int32) (t_place0 : Int32) (t_length0 : Int32) (t_fault : Int32) (t_number0 : Int32) (t_open : Int32) (t_codeMany : Int32) (t_waiting : Int32) (t_saidMany : Int32) (t_clauses : Int32) (t_newMany : Int32) (t_rounds : Int32) (t_pinFrom : Int32) (t_pinTimes : Int32) (t_lines : Int32) (t_wasTold : Int32) (t_wasBarred : Int32) (t_goesNow : Int32) (t_jamsNow : Int32) (t_queued : Int32) (t_isKept : Int32) (t_said : (Nat → Int32)) : va_W := [(O_t, ob_X12 a_t t_toldDoors t_barredDoors t_taped t_place0 t_length0 t_fault t_number0 t_open t_codeMany t_waiting t_saidMany t_clauses t_newMany t_rounds t_pinFrom t_pinTimes t_lines t_wasTold t_wasBarred t_goesNow t_jamsNow t_queued t_isKept), (a_t 24, .inl (E.2.1, 260, .inl t_said))]
def f_X12_notes (t_codeMany : Int32) (t_said : (Nat → Int32)) (x1 : Int32) (x2 : Int32) : Option (Int32 × (Nat → Int32)) := wr t_said 260 t_codeMany (((1048576 : Int32) * x1) + x2) fun g1 => nm (t_codeMany + (1 : Int32)) fun v2 => some (v2, g1)
theorem dX12_notes_0 : decode cX12_notes 0 = .ok (.aload_n 0, 1) := by decide +kernel
theorem dX12_notes_1 : decode cX12_notes 1 = .ok (.getfield 47, 3) := by decide +kernel
theorem dX12_notes_4 : decode cX12_notes 4 = .ok (.aload_n 0, 1) := by decide +kernel
theorem dX12_notes_5 : decode cX12_notes 5 = .ok (.getfield 169, 3) := by decide +kernel
theorem dX12_notes_8 : decode cX12_notes 8 = .ok (.ldc 172, 2) := by decide +kernel
theorem dX12_notes_10 : decode cX12_notes 10 = .ok (.iload_n 1, 1) := by decide +kernel
theorem dX12_notes_11 : decode cX12_notes 11 = .ok (.imul, 1) := by decide +kernel
theorem dX12_notes_12 : decode cX12_notes 12 = .ok (.iload_n 2, 1) := by decide +kernel
theorem dX12_notes_13 : decode cX12_notes 13 = .ok (.iadd, 1) := by decide +kernel
theorem dX12_notes_14 : decode cX12_notes 14 = .ok (.iastore, 1) := by decide +kernel
theorem dX12_notes_15 : decode cX12_notes 15 = .ok (.aload_n 0, 1) := by decide +kernel
theorem dX12_notes_16 : decode cX12_notes 16 = .ok (.aload_n 0, 1) := by decide +kernel
theorem dX12_notes_17 : decode cX12_notes 17 = .ok (.getfield 169, 3) := by decide +kernel
theorem dX12_notes_20 : decode cX12_notes 20 = .ok (.iconst 1, 1) := by decide +kernel
theorem dX12_notes_21 : decode cX12_notes 21 = .ok (.iadd, 1) := by decide +kernel
theorem dX12_notes_22 : decode cX12_notes 22 = .ok (.putfield 169, 3) := by decide +kernel
theorem dX12_notes_25 : decode cX12_notes 25 = .ok (.return_, 1) := by decide +kernel
set_option maxHeartbeats 4000000 in
set_option maxRecDepth 100000 in
theorem c_X12_notes (l : Launch) (E : GE) (o_t : Nat) (a_t : Nat → Nat) (t_toldDoors : Int32) (t_barredDoors : Int32) (t_taped : Int32) (t_place0 : Int32) (t_length0 : Int32) (t_fault : Int32) (t_number0 : Int32) (t_open : Int32) (t_codeMany : Int32) (t_waiting : Int32) (t_saidMany : Int32) (t_clauses : Int32) (t_newMany : Int32) (t_rounds : Int32) (t_pinFrom : Int32) (t_pinTimes : Int32) (t_lines : Int32) (t_wasTold : Int32) (t_wasBarred : Int32) (t_goesNow : Int32) (t_jamsNow : Int32) (t_queued : Int32) (t_isKept : Int32) (t_said : (Nat → Int32)) (x1 : Int32) (x2 : Int32) (r : Int32 × (Nat → Int32)) (h : f_X12_notes t_codeMany t_said x1 x2 = some r) : Cn l E yX12_notes cX12_notes 3 none 1 0 0 [.ref o_t, .int x1, .int x2] (W_X12_notes E o_t a_t t_toldDoors t_barredDoors t_taped t_place0 t_length0 t_fault t_number0 t_open t_codeMany t_waiting t_saidMany t_clauses t_newMany t_rounds t_pinFrom t_pinTimes t_lines t_wasTold t_wasBarred t_goesNow t_jamsNow t_queued t_isKept t_said) (fun w => w = (W_X12_notes E o_t a_t t_toldDoors t_barredDoors t_taped t_place0 t_length0 t_fault t_number0 t_open r.1 t_waiting t_saidMany t_clauses t_newMany t_rounds t_pinFrom t_pinTimes t_lines t_wasTold t_wasBarred t_goesNow t_jamsNow t_queued t_isKept r.2)) none := by
  refine Cn.ofV (by decide +kernel) (Nat.le_of_ble_eq_true rfl) (fun X hX hR C hret => ?_)
  subst hX
  show Gx X E 0 0 (W_X12_notes E o_t a_t t_toldDoors t_barredDoors t_taped t_place0 t_length0 t_fault t_number0 t_open t_codeMany t_waiting t_saidMany t_clauses t_newMany t_rounds t_pinFrom t_pinTimes t_lines t_wasTold t_wasBarred t_goesNow t_jamsNow t_queued t_isKept t_said) 0 [(0, .ref o_t), (1, .int x1), (2, .int x2)] []
  unfold f_X12_notes at h
  refine g_aload_n (pc := 0) C dX12_notes_0 rfl 0 rfl ?_
  refine g_get (pc := 1) C fl_X12_47 dX12_notes_1 0 rfl rfl ?_
  refine g_aload_n (pc := 4) C dX12_notes_4 rfl 0 rfl ?_
  refine g_get (pc := 5) C fl_X12_169 dX12_notes_5 0 rfl rfl ?_
  refine g_ldc (pc := 8) C dX12_notes_8 ct_X12_172 ?_
  refine g_iload_n (pc := 10) C dX12_notes_10 rfl 1 rfl ?_
  refine g_imul (pc := 11) C dX12_notes_11 ?_
  refine g_iload_n (pc := 12) C dX12_notes_12 rfl 2 rfl ?_
  refine g_iadd (pc := 13) C dX12_notes_13 ?_
  refine g_iast (pc := 14) C dX12_notes_14 1 rfl h (fun g1 h => ?_)
  refine g_ws (ws' := (W_X12_notes E o_t a_t t_toldDoors t_barredDoors t_taped t_place0 t_length0 t_fault t_number0 t_open t_codeMany t_waiting t_saidMany t_clauses t_newMany t_rounds t_pinFrom t_pinTimes t_lines t_wasTold t_wasBarred t_goesNow t_jamsNow t_queued t_isKept g1)) rfl ?_
  refine g_aload_n (pc := 15) C dX12_notes_15 rfl 0 rfl ?_
  refine g_aload_n (pc := 16) C dX12_notes_16 rfl 0 rfl ?_
  refine g_get (pc := 17) C fl_X12_169 dX12_notes_17 0 rfl rfl ?_
  refine g_iconst (pc := 20) (v := 1) C dX12_notes_20 (by decide) ?_
  refine g_iadd (pc := 21) C dX12_notes_21 ?_
  refine g_nm h (fun v2 h => ?_)
  refine g_put (pc := 22) (ws' := (W_X12_notes E o_t a_t t_toldDoors t_barredDoors t_taped t_place0 t_length0 t_fault t_number0 t_open v2 t_waiting t_saidMany t_clauses t_newMany t_rounds t_pinFrom t_pinTimes t_lines t_wasTold t_wasBarred t_goesNow t_jamsNow t_queued t_isKept g1)) C .int fl_X12_169 dX12_notes_22 0 rfl (by decide +kernel) rfl rfl (Nat.le_of_ble_eq_true rfl) rfl ?_
  cases h
  exact hret _ _ _ dX12_notes_25 rfl
abbrev W_X12_octet (E : GE) (O_t : Nat) (a_t : Nat → Nat) (t_toldDoors : Int32) (t_barredDoors : Int32) (t_taped : Int32) (t_place0 : Int32) (t_length0 : Int32) (t_fault : Int32) (t_number0 : Int32) (t_open : Int32) (t_codeMany : Int32) (t_waiting : Int32) (t_saidMany : Int32) (t_clauses : Int32) (t_newMany : Int32) (t_rounds : Int32) (t_pinFrom : Int32) (t_pinTimes : Int32) (t_lines : Int32) (t_wasTold : Int32) (t_wasBarred : Int32) (t_goesNow : Int32) (t_jamsNow : Int32) (t_queued : Int32) (t_isKept : Int32) (t_tape : (Nat → Int32)) : va_W := [(O_t, ob_X12 a_t t_toldDoors t_barredDoors t_taped t_place0 t_length0 t_fault t_number0 t_open t_codeMany t_waiting t_saidMany t_clauses t_newMany t_rounds t_pinFrom t_pinTimes t_lines t_wasTold t_wasBarred t_goesNow t_jamsNow t_queued t_isKept), (a_t 13, .inl (E.2.2.1, 260, .inl t_tape))]
def f_X12_octet (t_tape : (Nat → Int32)) (x1 : Int32) : Option (Int32) := rd t_tape 260 x1 fun v1 => some (v1 &&& (255 : Int32))
theorem dX12_octet_0 : decode cX12_octet 0 = .ok (.aload_n 0, 1) := by decide +kernel
theorem dX12_octet_1 : decode cX12_octet 1 = .ok (.getfield 43, 3) := by decide +kernel
theorem dX12_octet_4 : decode cX12_octet 4 = .ok (.iload_n 1, 1) := by decide +kernel
theorem dX12_octet_5 : decode cX12_octet 5 = .ok (.baload, 1) := by decide +kernel
theorem dX12_octet_6 : decode cX12_octet 6 = .ok (.sipush 255, 3) := by decide +kernel
theorem dX12_octet_9 : decode cX12_octet 9 = .ok (.iand, 1) := by decide +kernel
theorem dX12_octet_10 : decode cX12_octet 10 = .ok (.ireturn, 1) := by decide +kernel
set_option maxHeartbeats 4000000 in
set_option maxRecDepth 100000 in
theorem c_X12_octet (l : Launch) (E : GE) (o_t : Nat) (a_t : Nat → Nat) (t_toldDoors : Int32) (t_barredDoors : Int32) (t_taped : Int32) (t_place0 : Int32) (t_length0 : Int32) (t_fault : Int32) (t_number0 : Int32) (t_open : Int32) (t_codeMany : Int32) (t_waiting : Int32) (t_saidMany : Int32) (t_clauses : Int32) (t_newMany : Int32) (t_rounds : Int32) (t_pinFrom : Int32) (t_pinTimes : Int32) (t_lines : Int32) (t_wasTold : Int32) (t_wasBarred : Int32) (t_goesNow : Int32) (t_jamsNow : Int32) (t_queued : Int32) (t_isKept : Int32) (t_tape : (Nat → Int32)) (x1 : Int32) (r : Int32) (h : f_X12_octet t_tape x1 = some r) : Cn l E yX12_octet cX12_octet 2 (some .int) 1 0 0 [.ref o_t, .int x1] (W_X12_octet E o_t a_t t_toldDoors t_barredDoors t_taped t_place0 t_length0 t_fault t_number0 t_open t_codeMany t_waiting t_saidMany t_clauses t_newMany t_rounds t_pinFrom t_pinTimes t_lines t_wasTold t_wasBarred t_goesNow t_jamsNow t_queued t_isKept t_tape) (fun w => w = (W_X12_octet E o_t a_t t_toldDoors t_barredDoors t_taped t_place0 t_length0 t_fault t_number0 t_open t_codeMany t_waiting t_saidMany t_clauses t_newMany t_rounds t_pinFrom t_pinTimes t_lines t_wasTold t_wasBarred t_goesNow t_jamsNow t_queued t_isKept t_tape)) (some (.int r)) := by
  refine Cn.ofI (by decide +kernel) (Nat.le_of_ble_eq_true rfl) (fun X hX hR C hret => ?_)
  subst hX
  show Gx X E 0 0 (W_X12_octet E o_t a_t t_toldDoors t_barredDoors t_taped t_place0 t_length0 t_fault t_number0 t_open t_codeMany t_waiting t_saidMany t_clauses t_newMany t_rounds t_pinFrom t_pinTimes t_lines t_wasTold t_wasBarred t_goesNow t_jamsNow t_queued t_isKept t_tape) 0 [(0, .ref o_t), (1, .int x1)] []
  unfold f_X12_octet at h
  refine g_aload_n (pc := 0) C dX12_octet_0 rfl 0 rfl ?_
  refine g_get (pc := 1) C fl_X12_43 dX12_octet_1 0 rfl rfl ?_
  refine g_iload_n (pc := 4) C dX12_octet_4 rfl 1 rfl ?_
  refine g_bald (pc := 5) C dX12_octet_5 1 rfl h (fun v1 h => ?_)
  refine g_sipush (pc := 6) (v := 255) C dX12_octet_6 (by decide) ?_
  refine g_iand (pc := 9) C dX12_octet_9 ?_
  cases h
  exact hret _ _ _ dX12_octet_10 rfl rfl
abbrev W_X12_pinsOf (E : GE) (O_t : Nat) (a_t : Nat → Nat) (t_toldDoors : Int32) (t_barredDoors : Int32) (t_taped : Int32) (t_place0 : Int32) (t_length0 : Int32) (t_fault : Int32) (t_number0 : Int32) (t_open : Int32) (t_codeMany : Int32) (t_waiting : Int32) (t_saidMany : Int32) (t_clauses : Int32) (t_newMany : Int32) (t_rounds : Int32) (t_pinFrom : Int32) (t_pinTimes : Int32) (t_lines : Int32) (t_wasTold : Int32) (t_wasBarred : Int32) (t_goesNow : Int32) (t_jamsNow : Int32) (t_queued : Int32) (t_isKept : Int32) (t_now : (Nat → Int32)) : va_W := [(O_t, ob_X12 a_t t_toldDoors t_barredDoors t_taped t_place0 t_length0 t_fault t_number0 t_open t_codeMany t_waiting t_saidMany t_clauses t_newMany t_rounds t_pinFrom t_pinTimes t_lines t_wasTold t_wasBarred t_goesNow t_jamsNow t_queued t_isKept), (a_t 0, .inl (E.2.1, 166, .inl t_now))]
def L_X12_pinsOf_4 (t_now : (Nat → Int32)) (x1 : Int32) : Nat → Int32 × Int32 → Option (Int32) := lp fun go s => if (6 : Int32) ≤ s.2 then (some s.1) else rd t_now 166 (((104 : Int32) + ((6 : Int32) * x1)) + s.2) fun v1 => nm (s.1 + v1) fun v2 => nm (s.2 + (1 : Int32)) fun v3 => go (v2, v3)
def f_X12_pinsOf (t_now : (Nat → Int32)) (x1 : Int32) : Option (Int32) := L_X12_pinsOf_4 t_now x1 fu ((0 : Int32), (0 : Int32))
theorem dX12_pinsOf_0 : decode cX12_pinsOf 0 = .ok (.iconst 0, 1) := by decide +kernel
theorem dX12_pinsOf_1 : decode cX12_pinsOf 1 = .ok (.istore_n 2, 1) := by decide +kernel
theorem dX12_pinsOf_2 : decode cX12_pinsOf 2 = .ok (.iconst 0, 1) := by decide +kernel
theorem dX12_pinsOf_3 : decode cX12_pinsOf 3 = .ok (.istore_n 3, 1) := by decide +kernel
theorem dX12_pinsOf_4 : decode cX12_pinsOf 4 = .ok (.iload_n 3, 1) := by decide +kernel
theorem dX12_pinsOf_5 : decode cX12_pinsOf 5 = .ok (.bipush 6, 2) := by decide +kernel
theorem dX12_pinsOf_7 : decode cX12_pinsOf 7 = .ok (.if_icmp .ge 26, 3) := by decide +kernel
theorem dX12_pinsOf_10 : decode cX12_pinsOf 10 = .ok (.iload_n 2, 1) := by decide +kernel
theorem dX12_pinsOf_11 : decode cX12_pinsOf 11 = .ok (.aload_n 0, 1) := by decide +kernel
theorem dX12_pinsOf_12 : decode cX12_pinsOf 12 = .ok (.getfield 7, 3) := by decide +kernel
theorem dX12_pinsOf_15 : decode cX12_pinsOf 15 = .ok (.bipush 104, 2) := by decide +kernel
theorem dX12_pinsOf_17 : decode cX12_pinsOf 17 = .ok (.bipush 6, 2) := by decide +kernel
theorem dX12_pinsOf_19 : decode cX12_pinsOf 19 = .ok (.iload_n 1, 1) := by decide +kernel
theorem dX12_pinsOf_20 : decode cX12_pinsOf 20 = .ok (.imul, 1) := by decide +kernel
theorem dX12_pinsOf_21 : decode cX12_pinsOf 21 = .ok (.iadd, 1) := by decide +kernel
theorem dX12_pinsOf_22 : decode cX12_pinsOf 22 = .ok (.iload_n 3, 1) := by decide +kernel
theorem dX12_pinsOf_23 : decode cX12_pinsOf 23 = .ok (.iadd, 1) := by decide +kernel
theorem dX12_pinsOf_24 : decode cX12_pinsOf 24 = .ok (.iaload, 1) := by decide +kernel
theorem dX12_pinsOf_25 : decode cX12_pinsOf 25 = .ok (.iadd, 1) := by decide +kernel
theorem dX12_pinsOf_26 : decode cX12_pinsOf 26 = .ok (.istore_n 2, 1) := by decide +kernel
theorem dX12_pinsOf_27 : decode cX12_pinsOf 27 = .ok (.iinc 3 1, 3) := by decide +kernel
theorem dX12_pinsOf_30 : decode cX12_pinsOf 30 = .ok (.goto (-26), 3) := by decide +kernel
theorem dX12_pinsOf_33 : decode cX12_pinsOf 33 = .ok (.iload_n 2, 1) := by decide +kernel
theorem dX12_pinsOf_34 : decode cX12_pinsOf 34 = .ok (.ireturn, 1) := by decide +kernel
set_option maxHeartbeats 4000000 in
set_option maxRecDepth 100000 in
theorem kL_X12_pinsOf_4 {X : GC} {E : GE} (C : Cx X E cX12_pinsOf RX12 1 4) (o_t : Nat) (a_t : Nat → Nat) (t_toldDoors : Int32) (t_barredDoors : Int32) (t_taped : Int32) (t_place0 : Int32) (t_length0 : Int32) (t_fault : Int32) (t_number0 : Int32) (t_open : Int32) (t_codeMany : Int32) (t_waiting : Int32) (t_saidMany : Int32) (t_clauses : Int32) (t_newMany : Int32) (t_rounds : Int32) (t_pinFrom : Int32) (t_pinTimes : Int32) (t_lines : Int32) (t_wasTold : Int32) (t_wasBarred : Int32) (t_goesNow : Int32) (t_jamsNow : Int32) (t_queued : Int32) (t_isKept : Int32) (t_now : (Nat → Int32)) (x1 : Int32) {r : Int32} (hret : RtI X E cX12_pinsOf .int 0 0 (fun w => w = (W_X12_pinsOf E o_t a_t t_toldDoors t_barredDoors t_taped t_place0 t_length0 t_fault t_number0 t_open t_codeMany t_waiting t_saidMany t_clauses t_newMany t_rounds t_pinFrom t_pinTimes t_lines t_wasTold t_wasBarred t_goesNow t_jamsNow t_queued t_isKept t_now)) r) : ∀ (n : Nat) (s : Int32 × Int32), L_X12_pinsOf_4 t_now x1 n s = some r → Gx X E 0 0 (W_X12_pinsOf E o_t a_t t_toldDoors t_barredDoors t_taped t_place0 t_length0 t_fault t_number0 t_open t_codeMany t_waiting t_saidMany t_clauses t_newMany t_rounds t_pinFrom t_pinTimes t_lines t_wasTold t_wasBarred t_goesNow t_jamsNow t_queued t_isKept t_now) 4 [(0, .ref o_t), (1, .int x1), (2, .int s.1), (3, .int s.2)] [] := by
  unfold L_X12_pinsOf_4
  refine lp_ind _ (fun go ih s h => ?_)
  refine g_iload_n (pc := 4) C dX12_pinsOf_4 rfl 3 rfl ?_
  refine g_bipush (pc := 5) (v := 6) C dX12_pinsOf_5 (by decide) ?_
  refine g_icmp_ge (pc := 7) (tgt := 33) C dX12_pinsOf_7 (by decide) h (fun h => ?_) (fun h => ?_)
  · refine g_iload_n (pc := 33) C dX12_pinsOf_33 rfl 2 rfl ?_
    cases h
    exact hret _ _ _ dX12_pinsOf_34 rfl rfl
  · refine g_iload_n (pc := 10) C dX12_pinsOf_10 rfl 2 rfl ?_
    refine g_aload_n (pc := 11) C dX12_pinsOf_11 rfl 0 rfl ?_
    refine g_get (pc := 12) C fl_X12_7 dX12_pinsOf_12 0 rfl rfl ?_
    refine g_bipush (pc := 15) (v := 104) C dX12_pinsOf_15 (by decide) ?_
    refine g_bipush (pc := 17) (v := 6) C dX12_pinsOf_17 (by decide) ?_
    refine g_iload_n (pc := 19) C dX12_pinsOf_19 rfl 1 rfl ?_
    refine g_imul (pc := 20) C dX12_pinsOf_20 ?_
    refine g_iadd (pc := 21) C dX12_pinsOf_21 ?_
    refine g_iload_n (pc := 22) C dX12_pinsOf_22 rfl 3 rfl ?_
    refine g_iadd (pc := 23) C dX12_pinsOf_23 ?_
    refine g_iald (pc := 24) C dX12_pinsOf_24 1 rfl h (fun v1 h => ?_)
    refine g_iadd (pc := 25) C dX12_pinsOf_25 ?_
    refine g_nm h (fun v2 h => ?_)
    refine g_istore_n (pc := 26) (lv' := [(2, .int v2), (0, .ref o_t), (1, .int x1), (3, .int s.2)]) C dX12_pinsOf_26 rfl (by decide) rfl ?_
    refine g_iincn (pc := 27) (j := 3) (d := 1) (lv' := fun v3 => [(3, .int v3), (2, .int v2), (0, .ref o_t), (1, .int x1)]) C dX12_pinsOf_27 rfl (by decide) (by decide) (fun _ => rfl) h (fun v3 h => ?_)
    refine g_goto (pc := 30) (tgt := 4) C dX12_pinsOf_30 (by decide) ?_
    refine g_sub [2, 3, 1, 0] rfl ?_
    exact ih _ h
set_option maxHeartbeats 4000000 in
set_option maxRecDepth 100000 in
theorem c_X12_pinsOf (l : Launch) (E : GE) (o_t : Nat) (a_t : Nat → Nat) (t_toldDoors : Int32) (t_barredDoors : Int32) (t_taped : Int32) (t_place0 : Int32) (t_length0 : Int32) (t_fault : Int32) (t_number0 : Int32) (t_open : Int32) (t_codeMany : Int32) (t_waiting : Int32) (t_saidMany : Int32) (t_clauses : Int32) (t_newMany : Int32) (t_rounds : Int32) (t_pinFrom : Int32) (t_pinTimes : Int32) (t_lines : Int32) (t_wasTold : Int32) (t_wasBarred : Int32) (t_goesNow : Int32) (t_jamsNow : Int32) (t_queued : Int32) (t_isKept : Int32) (t_now : (Nat → Int32)) (x1 : Int32) (r : Int32) (h : f_X12_pinsOf t_now x1 = some r) : Cn l E yX12_pinsOf cX12_pinsOf 4 (some .int) 1 0 0 [.ref o_t, .int x1] (W_X12_pinsOf E o_t a_t t_toldDoors t_barredDoors t_taped t_place0 t_length0 t_fault t_number0 t_open t_codeMany t_waiting t_saidMany t_clauses t_newMany t_rounds t_pinFrom t_pinTimes t_lines t_wasTold t_wasBarred t_goesNow t_jamsNow t_queued t_isKept t_now) (fun w => w = (W_X12_pinsOf E o_t a_t t_toldDoors t_barredDoors t_taped t_place0 t_length0 t_fault t_number0 t_open t_codeMany t_waiting t_saidMany t_clauses t_newMany t_rounds t_pinFrom t_pinTimes t_lines t_wasTold t_wasBarred t_goesNow t_jamsNow t_queued t_isKept t_now)) (some (.int r)) := by
  refine Cn.ofI (by decide +kernel) (Nat.le_of_ble_eq_true rfl) (fun X hX hR C hret => ?_)
  subst hX
  show Gx X E 0 0 (W_X12_pinsOf E o_t a_t t_toldDoors t_barredDoors t_taped t_place0 t_length0 t_fault t_number0 t_open t_codeMany t_waiting t_saidMany t_clauses t_newMany t_rounds t_pinFrom t_pinTimes t_lines t_wasTold t_wasBarred t_goesNow t_jamsNow t_queued t_isKept t_now) 0 [(0, .ref o_t), (1, .int x1)] []
  unfold f_X12_pinsOf at h
  refine g_iconst (pc := 0) (v := 0) C dX12_pinsOf_0 (by decide) ?_
  refine g_istore_n (pc := 1) (lv' := [(2, .int (0 : Int32)), (0, .ref o_t), (1, .int x1)]) C dX12_pinsOf_1 rfl (by decide) rfl ?_
  refine g_iconst (pc := 2) (v := 0) C dX12_pinsOf_2 (by decide) ?_
  refine g_istore_n (pc := 3) (lv' := [(3, .int (0 : Int32)), (2, .int (0 : Int32)), (0, .ref o_t), (1, .int x1)]) C dX12_pinsOf_3 rfl (by decide) rfl ?_
  refine g_sub [2, 3, 1, 0] rfl ?_
  refine kL_X12_pinsOf_4 C o_t a_t t_toldDoors t_barredDoors t_taped t_place0 t_length0 t_fault t_number0 t_open t_codeMany t_waiting t_saidMany t_clauses t_newMany t_rounds t_pinFrom t_pinTimes t_lines t_wasTold t_wasBarred t_goesNow t_jamsNow t_queued t_isKept t_now x1 hret  _ _ h
abbrev W_X12_putsDoorsAside (E : GE) (O_t : Nat) (a_t : Nat → Nat) (t_toldDoors : Int32) (t_barredDoors : Int32) (t_taped : Int32) (t_place0 : Int32) (t_length0 : Int32) (t_fault : Int32) (t_number0 : Int32) (t_open : Int32) (t_codeMany : Int32) (t_waiting : Int32) (t_saidMany : Int32) (t_clauses : Int32) (t_newMany : Int32) (t_rounds : Int32) (t_pinFrom : Int32) (t_pinTimes : Int32) (t_lines : Int32) (t_wasTold : Int32) (t_wasBarred : Int32) (t_goesNow : Int32) (t_jamsNow : Int32) (t_queued : Int32) (t_isKept : Int32) (t_prongsOf : (Nat → Int32)) (t_oneOf : (Nat → Int32)) (t_otherOf : (Nat → Int32)) (t_wardsOf : (Nat → Int32)) (t_wasProngs : (Nat → Int32)) (t_wasOne : (Nat → Int32)) (t_wasOther : (Nat → Int32)) (t_wasWards : (Nat → Int32)) : va_W := [(O_t, ob_X12 a_t t_toldDoors t_barredDoors t_taped t_place0 t_length0 t_fault t_number0 t_open t_codeMany t_waiting t_saidMany t_clauses t_newMany t_rounds t_pinFrom t_pinTimes t_lines t_wasTold t_wasBarred t_goesNow t_jamsNow t_queued t_isKept), (a_t 3, .inl (E.2.1, 6, .inl t_prongsOf)), (a_t 4, .inl (E.2.1, 24, .inl t_oneOf)), (a_t 5, .inl (E.2.1, 24, .inl t_otherOf)), (a_t 6, .inl (E.2.1, 24, .inl t_wardsOf)), (a_t 7, .inl (E.2.1, 6, .inl t_wasProngs)), (a_t 8, .inl (E.2.1, 24, .inl t_wasOne)), (a_t 9, .inl (E.2.1, 24, .inl t_wasOther)), (a_t 10, .inl (E.2.1, 24, .inl t_wasWards))]
def L_X12_putsDoorsAside_18 (t_toldDoors : Int32) (t_barredDoors : Int32) (t_wasTold : Int32) (t_wasBarred : Int32) (t_prongsOf : (Nat → Int32)) (t_oneOf : (Nat → Int32)) (t_otherOf : (Nat → Int32)) (t_wardsOf : (Nat → Int32)) (t_wasOne : (Nat → Int32)) (t_wasOther : (Nat → Int32)) (t_wasWards : (Nat → Int32)) (k0 : (Nat → Int32) → Option (Int32 × Int32 × (Nat → Int32) × (Nat → Int32) × (Nat → Int32) × (Nat → Int32))) : Nat → Int32 × (Nat → Int32) → Option (Int32 × Int32 × (Nat → Int32) × (Nat → Int32) × (Nat → Int32) × (Nat → Int32)) := lp fun go s => if (6 : Int32) ≤ s.1 then (k0 s.2) else rd t_prongsOf 6 s.1 fun v1 => wr s.2 6 s.1 v1 fun g2 => nm (s.1 + (1 : Int32)) fun v3 => go (v3, g2)
def L_X12_putsDoorsAside_44 (t_toldDoors : Int32) (t_barredDoors : Int32) (t_wasTold : Int32) (t_wasBarred : Int32) (t_prongsOf : (Nat → Int32)) (t_oneOf : (Nat → Int32)) (t_otherOf : (Nat → Int32)) (t_wardsOf : (Nat → Int32)) (t_wasProngs : (Nat → Int32)) : Nat → Int32 × (Nat → Int32) × (Nat → Int32) × (Nat → Int32) → Option (Int32 × Int32 × (Nat → Int32) × (Nat → Int32) × (Nat → Int32) × (Nat → Int32)) := lp fun go s => if (24 : Int32) ≤ s.1 then (some (t_wasTold, t_wasBarred, t_wasProngs, s.2.1, s.2.2.1, s.2.2.2)) else rd t_oneOf 24 s.1 fun v5 => wr s.2.1 24 s.1 v5 fun g6 => rd t_otherOf 24 s.1 fun v7 => wr s.2.2.1 24 s.1 v7 fun g8 => rd t_wardsOf 24 s.1 fun v9 => wr s.2.2.2 24 s.1 v9 fun g10 => nm (s.1 + (1 : Int32)) fun v11 => go (v11, g6, g8, g10)
def f_X12_putsDoorsAside (t_toldDoors : Int32) (t_barredDoors : Int32) (t_wasTold : Int32) (t_wasBarred : Int32) (t_prongsOf : (Nat → Int32)) (t_oneOf : (Nat → Int32)) (t_otherOf : (Nat → Int32)) (t_wardsOf : (Nat → Int32)) (t_wasProngs : (Nat → Int32)) (t_wasOne : (Nat → Int32)) (t_wasOther : (Nat → Int32)) (t_wasWards : (Nat → Int32)) : Option (Int32 × Int32 × (Nat → Int32) × (Nat → Int32) × (Nat → Int32) × (Nat → Int32)) := L_X12_putsDoorsAside_18 t_toldDoors t_barredDoors t_toldDoors t_barredDoors t_prongsOf t_oneOf t_otherOf t_wardsOf t_wasOne t_wasOther t_wasWards (fun s4 => L_X12_putsDoorsAside_44 t_toldDoors t_barredDoors t_toldDoors t_barredDoors t_prongsOf t_oneOf t_otherOf t_wardsOf s4 fu ((0 : Int32), t_wasOne, t_wasOther, t_wasWards)) fu ((0 : Int32), t_wasProngs)
theorem dX12_putsDoorsAside_0 : decode cX12_putsDoorsAside 0 = .ok (.aload_n 0, 1) := by decide +kernel
theorem dX12_putsDoorsAside_1 : decode cX12_putsDoorsAside 1 = .ok (.aload_n 0, 1) := by decide +kernel
theorem dX12_putsDoorsAside_2 : decode cX12_putsDoorsAside 2 = .ok (.getfield 121, 3) := by decide +kernel
theorem dX12_putsDoorsAside_5 : decode cX12_putsDoorsAside 5 = .ok (.putfield 292, 3) := by decide +kernel
theorem dX12_putsDoorsAside_8 : decode cX12_putsDoorsAside 8 = .ok (.aload_n 0, 1) := by decide +kernel
theorem dX12_putsDoorsAside_9 : decode cX12_putsDoorsAside 9 = .ok (.aload_n 0, 1) := by decide +kernel
theorem dX12_putsDoorsAside_10 : decode cX12_putsDoorsAside 10 = .ok (.getfield 133, 3) := by decide +kernel
theorem dX12_putsDoorsAside_13 : decode cX12_putsDoorsAside 13 = .ok (.putfield 295, 3) := by decide +kernel
theorem dX12_putsDoorsAside_16 : decode cX12_putsDoorsAside 16 = .ok (.iconst 0, 1) := by decide +kernel
theorem dX12_putsDoorsAside_17 : decode cX12_putsDoorsAside 17 = .ok (.istore_n 1, 1) := by decide +kernel
theorem dX12_putsDoorsAside_18 : decode cX12_putsDoorsAside 18 = .ok (.iload_n 1, 1) := by decide +kernel
theorem dX12_putsDoorsAside_19 : decode cX12_putsDoorsAside 19 = .ok (.bipush 6, 2) := by decide +kernel
theorem dX12_putsDoorsAside_21 : decode cX12_putsDoorsAside 21 = .ok (.if_icmp .ge 21, 3) := by decide +kernel
theorem dX12_putsDoorsAside_24 : decode cX12_putsDoorsAside 24 = .ok (.aload_n 0, 1) := by decide +kernel
theorem dX12_putsDoorsAside_25 : decode cX12_putsDoorsAside 25 = .ok (.getfield 31, 3) := by decide +kernel
theorem dX12_putsDoorsAside_28 : decode cX12_putsDoorsAside 28 = .ok (.iload_n 1, 1) := by decide +kernel
theorem dX12_putsDoorsAside_29 : decode cX12_putsDoorsAside 29 = .ok (.aload_n 0, 1) := by decide +kernel
theorem dX12_putsDoorsAside_30 : decode cX12_putsDoorsAside 30 = .ok (.getfield 19, 3) := by decide +kernel
theorem dX12_putsDoorsAside_33 : decode cX12_putsDoorsAside 33 = .ok (.iload_n 1, 1) := by decide +kernel
theorem dX12_putsDoorsAside_34 : decode cX12_putsDoorsAside 34 = .ok (.iaload, 1) := by decide +kernel
theorem dX12_putsDoorsAside_35 : decode cX12_putsDoorsAside 35 = .ok (.iastore, 1) := by decide +kernel
theorem dX12_putsDoorsAside_36 : decode cX12_putsDoorsAside 36 = .ok (.iinc 1 1, 3) := by decide +kernel
theorem dX12_putsDoorsAside_39 : decode cX12_putsDoorsAside 39 = .ok (.goto (-21), 3) := by decide +kernel
theorem dX12_putsDoorsAside_42 : decode cX12_putsDoorsAside 42 = .ok (.iconst 0, 1) := by decide +kernel
theorem dX12_putsDoorsAside_43 : decode cX12_putsDoorsAside 43 = .ok (.istore_n 1, 1) := by decide +kernel
theorem dX12_putsDoorsAside_44 : decode cX12_putsDoorsAside 44 = .ok (.iload_n 1, 1) := by decide +kernel
theorem dX12_putsDoorsAside_45 : decode cX12_putsDoorsAside 45 = .ok (.bipush 24, 2) := by decide +kernel
theorem dX12_putsDoorsAside_47 : decode cX12_putsDoorsAside 47 = .ok (.if_icmp .ge 45, 3) := by decide +kernel
theorem dX12_putsDoorsAside_50 : decode cX12_putsDoorsAside 50 = .ok (.aload_n 0, 1) := by decide +kernel
theorem dX12_putsDoorsAside_51 : decode cX12_putsDoorsAside 51 = .ok (.getfield 34, 3) := by decide +kernel
theorem dX12_putsDoorsAside_54 : decode cX12_putsDoorsAside 54 = .ok (.iload_n 1, 1) := by decide +kernel
theorem dX12_putsDoorsAside_55 : decode cX12_putsDoorsAside 55 = .ok (.aload_n 0, 1) := by decide +kernel
theorem dX12_putsDoorsAside_56 : decode cX12_putsDoorsAside 56 = .ok (.getfield 22, 3) := by decide +kernel
theorem dX12_putsDoorsAside_59 : decode cX12_putsDoorsAside 59 = .ok (.iload_n 1, 1) := by decide +kernel
theorem dX12_putsDoorsAside_60 : decode cX12_putsDoorsAside 60 = .ok (.iaload, 1) := by decide +kernel
theorem dX12_putsDoorsAside_61 : decode cX12_putsDoorsAside 61 = .ok (.iastore, 1) := by decide +kernel
theorem dX12_putsDoorsAside_62 : decode cX12_putsDoorsAside 62 = .ok (.aload_n 0, 1) := by decide +kernel
theorem dX12_putsDoorsAside_63 : decode cX12_putsDoorsAside 63 = .ok (.getfield 37, 3) := by decide +kernel
theorem dX12_putsDoorsAside_66 : decode cX12_putsDoorsAside 66 = .ok (.iload_n 1, 1) := by decide +kernel
theorem dX12_putsDoorsAside_67 : decode cX12_putsDoorsAside 67 = .ok (.aload_n 0, 1) := by decide +kernel
theorem dX12_putsDoorsAside_68 : decode cX12_putsDoorsAside 68 = .ok (.getfield 25, 3) := by decide +kernel
theorem dX12_putsDoorsAside_71 : decode cX12_putsDoorsAside 71 = .ok (.iload_n 1, 1) := by decide +kernel
theorem dX12_putsDoorsAside_72 : decode cX12_putsDoorsAside 72 = .ok (.iaload, 1) := by decide +kernel
theorem dX12_putsDoorsAside_73 : decode cX12_putsDoorsAside 73 = .ok (.iastore, 1) := by decide +kernel
theorem dX12_putsDoorsAside_74 : decode cX12_putsDoorsAside 74 = .ok (.aload_n 0, 1) := by decide +kernel
theorem dX12_putsDoorsAside_75 : decode cX12_putsDoorsAside 75 = .ok (.getfield 40, 3) := by decide +kernel
theorem dX12_putsDoorsAside_78 : decode cX12_putsDoorsAside 78 = .ok (.iload_n 1, 1) := by decide +kernel
theorem dX12_putsDoorsAside_79 : decode cX12_putsDoorsAside 79 = .ok (.aload_n 0, 1) := by decide +kernel
theorem dX12_putsDoorsAside_80 : decode cX12_putsDoorsAside 80 = .ok (.getfield 28, 3) := by decide +kernel
theorem dX12_putsDoorsAside_83 : decode cX12_putsDoorsAside 83 = .ok (.iload_n 1, 1) := by decide +kernel
theorem dX12_putsDoorsAside_84 : decode cX12_putsDoorsAside 84 = .ok (.iaload, 1) := by decide +kernel
theorem dX12_putsDoorsAside_85 : decode cX12_putsDoorsAside 85 = .ok (.iastore, 1) := by decide +kernel
theorem dX12_putsDoorsAside_86 : decode cX12_putsDoorsAside 86 = .ok (.iinc 1 1, 3) := by decide +kernel
theorem dX12_putsDoorsAside_89 : decode cX12_putsDoorsAside 89 = .ok (.goto (-45), 3) := by decide +kernel
theorem dX12_putsDoorsAside_92 : decode cX12_putsDoorsAside 92 = .ok (.return_, 1) := by decide +kernel
set_option maxHeartbeats 4000000 in
set_option maxRecDepth 100000 in
theorem kL_X12_putsDoorsAside_18 {X : GC} {E : GE} (C : Cx X E cX12_putsDoorsAside RX12 1 2) (o_t : Nat) (a_t : Nat → Nat) (t_taped : Int32) (t_place0 : Int32) (t_length0 : Int32) (t_fault : Int32) (t_number0 : Int32) (t_open : Int32) (t_codeMany : Int32) (t_waiting : Int32) (t_saidMany : Int32) (t_clauses : Int32) (t_newMany : Int32) (t_rounds : Int32) (t_pinFrom : Int32) (t_pinTimes : Int32) (t_lines : Int32) (t_goesNow : Int32) (t_jamsNow : Int32) (t_queued : Int32) (t_isKept : Int32) (t_toldDoors : Int32) (t_barredDoors : Int32) (t_wasTold : Int32) (t_wasBarred : Int32) (t_prongsOf : (Nat → Int32)) (t_oneOf : (Nat → Int32)) (t_otherOf : (Nat → Int32)) (t_wardsOf : (Nat → Int32)) (t_wasOne : (Nat → Int32)) (t_wasOther : (Nat → Int32)) (t_wasWards : (Nat → Int32)) (k0 : (Nat → Int32) → Option (Int32 × Int32 × (Nat → Int32) × (Nat → Int32) × (Nat → Int32) × (Nat → Int32))) {r : Int32 × Int32 × (Nat → Int32) × (Nat → Int32) × (Nat → Int32) × (Nat → Int32)} (hret : RtV X E cX12_putsDoorsAside 0 0 (fun w => w = (W_X12_putsDoorsAside E o_t a_t t_toldDoors t_barredDoors t_taped t_place0 t_length0 t_fault t_number0 t_open t_codeMany t_waiting t_saidMany t_clauses t_newMany t_rounds t_pinFrom t_pinTimes t_lines r.1 r.2.1 t_goesNow t_jamsNow t_queued t_isKept t_prongsOf t_oneOf t_otherOf t_wardsOf r.2.2.1 r.2.2.2.1 r.2.2.2.2.1 r.2.2.2.2.2))) (hk0 : ∀ u, k0 u = some r → Gx X E 0 0 (W_X12_putsDoorsAside E o_t a_t t_toldDoors t_barredDoors t_taped t_place0 t_length0 t_fault t_number0 t_open t_codeMany t_waiting t_saidMany t_clauses t_newMany t_rounds t_pinFrom t_pinTimes t_lines t_wasTold t_wasBarred t_goesNow t_jamsNow t_queued t_isKept t_prongsOf t_oneOf t_otherOf t_wardsOf u t_wasOne t_wasOther t_wasWards) 42 [(0, .ref o_t)] []) : ∀ (n : Nat) (s : Int32 × (Nat → Int32)), L_X12_putsDoorsAside_18 t_toldDoors t_barredDoors t_wasTold t_wasBarred t_prongsOf t_oneOf t_otherOf t_wardsOf t_wasOne t_wasOther t_wasWards k0 n s = some r → Gx X E 0 0 (W_X12_putsDoorsAside E o_t a_t t_toldDoors t_barredDoors t_taped t_place0 t_length0 t_fault t_number0 t_open t_codeMany t_waiting t_saidMany t_clauses t_newMany t_rounds t_pinFrom t_pinTimes t_lines t_wasTold t_wasBarred t_goesNow t_jamsNow t_queued t_isKept t_prongsOf t_oneOf t_otherOf t_wardsOf s.2 t_wasOne t_wasOther t_wasWards) 18 [(0, .ref o_t), (1, .int s.1)] [] := by
  unfold L_X12_putsDoorsAside_18
  refine lp_ind _ (fun go ih s h => ?_)
  refine g_iload_n (pc := 18) C dX12_putsDoorsAside_18 rfl 1 rfl ?_
  refine g_bipush (pc := 19) (v := 6) C dX12_putsDoorsAside_19 (by decide) ?_
  refine g_icmp_ge (pc := 21) (tgt := 42) C dX12_putsDoorsAside_21 (by decide) h (fun h => ?_) (fun h => ?_)
  · refine g_sub [0] rfl ?_
    exact hk0 _ h
  · refine g_aload_n (pc := 24) C dX12_putsDoorsAside_24 rfl 0 rfl ?_
    refine g_get (pc := 25) C fl_X12_31 dX12_putsDoorsAside_25 0 rfl rfl ?_
    refine g_iload_n (pc := 28) C dX12_putsDoorsAside_28 rfl 1 rfl ?_
    refine g_aload_n (pc := 29) C dX12_putsDoorsAside_29 rfl 0 rfl ?_
    refine g_get (pc := 30) C fl_X12_19 dX12_putsDoorsAside_30 0 rfl rfl ?_
    refine g_iload_n (pc := 33) C dX12_putsDoorsAside_33 rfl 1 rfl ?_
    refine g_iald (pc := 34) C dX12_putsDoorsAside_34 1 rfl h (fun v1 h => ?_)
    refine g_iast (pc := 35) C dX12_putsDoorsAside_35 5 rfl h (fun g2 h => ?_)
    refine g_ws (ws' := (W_X12_putsDoorsAside E o_t a_t t_toldDoors t_barredDoors t_taped t_place0 t_length0 t_fault t_number0 t_open t_codeMany t_waiting t_saidMany t_clauses t_newMany t_rounds t_pinFrom t_pinTimes t_lines t_wasTold t_wasBarred t_goesNow t_jamsNow t_queued t_isKept t_prongsOf t_oneOf t_otherOf t_wardsOf g2 t_wasOne t_wasOther t_wasWards)) rfl ?_
    refine g_iincn (pc := 36) (j := 1) (d := 1) (lv' := fun v3 => [(1, .int v3), (0, .ref o_t)]) C dX12_putsDoorsAside_36 rfl (by decide) (by decide) (fun _ => rfl) h (fun v3 h => ?_)
    refine g_goto (pc := 39) (tgt := 18) C dX12_putsDoorsAside_39 (by decide) ?_
    refine g_sub [1, 0] rfl ?_
    exact ih _ h
set_option maxHeartbeats 4000000 in
set_option maxRecDepth 100000 in
theorem kL_X12_putsDoorsAside_44 {X : GC} {E : GE} (C : Cx X E cX12_putsDoorsAside RX12 1 2) (o_t : Nat) (a_t : Nat → Nat) (t_taped : Int32) (t_place0 : Int32) (t_length0 : Int32) (t_fault : Int32) (t_number0 : Int32) (t_open : Int32) (t_codeMany : Int32) (t_waiting : Int32) (t_saidMany : Int32) (t_clauses : Int32) (t_newMany : Int32) (t_rounds : Int32) (t_pinFrom : Int32) (t_pinTimes : Int32) (t_lines : Int32) (t_goesNow : Int32) (t_jamsNow : Int32) (t_queued : Int32) (t_isKept : Int32) (t_toldDoors : Int32) (t_barredDoors : Int32) (t_wasTold : Int32) (t_wasBarred : Int32) (t_prongsOf : (Nat → Int32)) (t_oneOf : (Nat → Int32)) (t_otherOf : (Nat → Int32)) (t_wardsOf : (Nat → Int32)) (t_wasProngs : (Nat → Int32)) {r : Int32 × Int32 × (Nat → Int32) × (Nat → Int32) × (Nat → Int32) × (Nat → Int32)} (hret : RtV X E cX12_putsDoorsAside 0 0 (fun w => w = (W_X12_putsDoorsAside E o_t a_t t_toldDoors t_barredDoors t_taped t_place0 t_length0 t_fault t_number0 t_open t_codeMany t_waiting t_saidMany t_clauses t_newMany t_rounds t_pinFrom t_pinTimes t_lines r.1 r.2.1 t_goesNow t_jamsNow t_queued t_isKept t_prongsOf t_oneOf t_otherOf t_wardsOf r.2.2.1 r.2.2.2.1 r.2.2.2.2.1 r.2.2.2.2.2))) : ∀ (n : Nat) (s : Int32 × (Nat → Int32) × (Nat → Int32) × (Nat → Int32)), L_X12_putsDoorsAside_44 t_toldDoors t_barredDoors t_wasTold t_wasBarred t_prongsOf t_oneOf t_otherOf t_wardsOf t_wasProngs n s = some r → Gx X E 0 0 (W_X12_putsDoorsAside E o_t a_t t_toldDoors t_barredDoors t_taped t_place0 t_length0 t_fault t_number0 t_open t_codeMany t_waiting t_saidMany t_clauses t_newMany t_rounds t_pinFrom t_pinTimes t_lines t_wasTold t_wasBarred t_goesNow t_jamsNow t_queued t_isKept t_prongsOf t_oneOf t_otherOf t_wardsOf t_wasProngs s.2.1 s.2.2.1 s.2.2.2) 44 [(0, .ref o_t), (1, .int s.1)] [] := by
  unfold L_X12_putsDoorsAside_44
  refine lp_ind _ (fun go ih s h => ?_)
  refine g_iload_n (pc := 44) C dX12_putsDoorsAside_44 rfl 1 rfl ?_
  refine g_bipush (pc := 45) (v := 24) C dX12_putsDoorsAside_45 (by decide) ?_
  refine g_icmp_ge (pc := 47) (tgt := 92) C dX12_putsDoorsAside_47 (by decide) h (fun h => ?_) (fun h => ?_)
  · cases h
    exact hret _ _ _ dX12_putsDoorsAside_92 rfl
  · refine g_aload_n (pc := 50) C dX12_putsDoorsAside_50 rfl 0 rfl ?_
    refine g_get (pc := 51) C fl_X12_34 dX12_putsDoorsAside_51 0 rfl rfl ?_
    refine g_iload_n (pc := 54) C dX12_putsDoorsAside_54 rfl 1 rfl ?_
    refine g_aload_n (pc := 55) C dX12_putsDoorsAside_55 rfl 0 rfl ?_
    refine g_get (pc := 56) C fl_X12_22 dX12_putsDoorsAside_56 0 rfl rfl ?_
    refine g_iload_n (pc := 59) C dX12_putsDoorsAside_59 rfl 1 rfl ?_
    refine g_iald (pc := 60) C dX12_putsDoorsAside_60 2 rfl h (fun v5 h => ?_)
    refine g_iast (pc := 61) C dX12_putsDoorsAside_61 6 rfl h (fun g6 h => ?_)
    refine g_ws (ws' := (W_X12_putsDoorsAside E o_t a_t t_toldDoors t_barredDoors t_taped t_place0 t_length0 t_fault t_number0 t_open t_codeMany t_waiting t_saidMany t_clauses t_newMany t_rounds t_pinFrom t_pinTimes t_lines t_wasTold t_wasBarred t_goesNow t_jamsNow t_queued t_isKept t_prongsOf t_oneOf t_otherOf t_wardsOf t_wasProngs g6 s.2.2.1 s.2.2.2)) rfl ?_
    refine g_aload_n (pc := 62) C dX12_putsDoorsAside_62 rfl 0 rfl ?_
    refine g_get (pc := 63) C fl_X12_37 dX12_putsDoorsAside_63 0 rfl rfl ?_
    refine g_iload_n (pc := 66) C dX12_putsDoorsAside_66 rfl 1 rfl ?_
    refine g_aload_n (pc := 67) C dX12_putsDoorsAside_67 rfl 0 rfl ?_
    refine g_get (pc := 68) C fl_X12_25 dX12_putsDoorsAside_68 0 rfl rfl ?_
    refine g_iload_n (pc := 71) C dX12_putsDoorsAside_71 rfl 1 rfl ?_
    refine g_iald (pc := 72) C dX12_putsDoorsAside_72 3 rfl h (fun v7 h => ?_)
    refine g_iast (pc := 73) C dX12_putsDoorsAside_73 7 rfl h (fun g8 h => ?_)
    refine g_ws (ws' := (W_X12_putsDoorsAside E o_t a_t t_toldDoors t_barredDoors t_taped t_place0 t_length0 t_fault t_number0 t_open t_codeMany t_waiting t_saidMany t_clauses t_newMany t_rounds t_pinFrom t_pinTimes t_lines t_wasTold t_wasBarred t_goesNow t_jamsNow t_queued t_isKept t_prongsOf t_oneOf t_otherOf t_wardsOf t_wasProngs g6 g8 s.2.2.2)) rfl ?_
    refine g_aload_n (pc := 74) C dX12_putsDoorsAside_74 rfl 0 rfl ?_
    refine g_get (pc := 75) C fl_X12_40 dX12_putsDoorsAside_75 0 rfl rfl ?_
    refine g_iload_n (pc := 78) C dX12_putsDoorsAside_78 rfl 1 rfl ?_
    refine g_aload_n (pc := 79) C dX12_putsDoorsAside_79 rfl 0 rfl ?_
    refine g_get (pc := 80) C fl_X12_28 dX12_putsDoorsAside_80 0 rfl rfl ?_
    refine g_iload_n (pc := 83) C dX12_putsDoorsAside_83 rfl 1 rfl ?_
    refine g_iald (pc := 84) C dX12_putsDoorsAside_84 4 rfl h (fun v9 h => ?_)
    refine g_iast (pc := 85) C dX12_putsDoorsAside_85 8 rfl h (fun g10 h => ?_)
    refine g_ws (ws' := (W_X12_putsDoorsAside E o_t a_t t_toldDoors t_barredDoors t_taped t_place0 t_length0 t_fault t_number0 t_open t_codeMany t_waiting t_saidMany t_clauses t_newMany t_rounds t_pinFrom t_pinTimes t_lines t_wasTold t_wasBarred t_goesNow t_jamsNow t_queued t_isKept t_prongsOf t_oneOf t_otherOf t_wardsOf t_wasProngs g6 g8 g10)) rfl ?_
    refine g_iincn (pc := 86) (j := 1) (d := 1) (lv' := fun v11 => [(1, .int v11), (0, .ref o_t)]) C dX12_putsDoorsAside_86 rfl (by decide) (by decide) (fun _ => rfl) h (fun v11 h => ?_)
    refine g_goto (pc := 89) (tgt := 44) C dX12_putsDoorsAside_89 (by decide) ?_
    refine g_sub [1, 0] rfl ?_
    exact ih _ h
set_option maxHeartbeats 4000000 in
set_option maxRecDepth 100000 in
theorem c_X12_putsDoorsAside (l : Launch) (E : GE) (o_t : Nat) (a_t : Nat → Nat) (t_toldDoors : Int32) (t_barredDoors : Int32) (t_taped : Int32) (t_place0 : Int32) (t_length0 : Int32) (t_fault : Int32) (t_number0 : Int32) (t_open : Int32) (t_codeMany : Int32) (t_waiting : Int32) (t_saidMany : Int32) (t_clauses : Int32) (t_newMany : Int32) (t_rounds : Int32) (t_pinFrom : Int32) (t_pinTimes : Int32) (t_lines : Int32) (t_wasTold : Int32) (t_wasBarred : Int32) (t_goesNow : Int32) (t_jamsNow : Int32) (t_queued : Int32) (t_isKept : Int32) (t_prongsOf : (Nat → Int32)) (t_oneOf : (Nat → Int32)) (t_otherOf : (Nat → Int32)) (t_wardsOf : (Nat → Int32)) (t_wasProngs : (Nat → Int32)) (t_wasOne : (Nat → Int32)) (t_wasOther : (Nat → Int32)) (t_wasWards : (Nat → Int32)) (r : Int32 × Int32 × (Nat → Int32) × (Nat → Int32) × (Nat → Int32) × (Nat → Int32)) (h : f_X12_putsDoorsAside t_toldDoors t_barredDoors t_wasTold t_wasBarred t_prongsOf t_oneOf t_otherOf t_wardsOf t_wasProngs t_wasOne t_wasOther t_wasWards = some r) : Cn l E yX12_putsDoorsAside cX12_putsDoorsAside 2 none 1 0 0 [.ref o_t] (W_X12_putsDoorsAside E o_t a_t t_toldDoors t_barredDoors t_taped t_place0 t_length0 t_fault t_number0 t_open t_codeMany t_waiting t_saidMany t_clauses t_newMany t_rounds t_pinFrom t_pinTimes t_lines t_wasTold t_wasBarred t_goesNow t_jamsNow t_queued t_isKept t_prongsOf t_oneOf t_otherOf t_wardsOf t_wasProngs t_wasOne t_wasOther t_wasWards) (fun w => w = (W_X12_putsDoorsAside E o_t a_t t_toldDoors t_barredDoors t_taped t_place0 t_length0 t_fault t_number0 t_open t_codeMany t_waiting t_saidMany t_clauses t_newMany t_rounds t_pinFrom t_pinTimes t_lines r.1 r.2.1 t_goesNow t_jamsNow t_queued t_isKept t_prongsOf t_oneOf t_otherOf t_wardsOf r.2.2.1 r.2.2.2.1 r.2.2.2.2.1 r.2.2.2.2.2)) none := by
  refine Cn.ofV (by decide +kernel) (Nat.le_of_ble_eq_true rfl) (fun X hX hR C hret => ?_)
  subst hX
  show Gx X E 0 0 (W_X12_putsDoorsAside E o_t a_t t_toldDoors t_barredDoors t_taped t_place0 t_length0 t_fault t_number0 t_open t_codeMany t_waiting t_saidMany t_clauses t_newMany t_rounds t_pinFrom t_pinTimes t_lines t_wasTold t_wasBarred t_goesNow t_jamsNow t_queued t_isKept t_prongsOf t_oneOf t_otherOf t_wardsOf t_wasProngs t_wasOne t_wasOther t_wasWards) 0 [(0, .ref o_t)] []
  unfold f_X12_putsDoorsAside at h
  refine g_aload_n (pc := 0) C dX12_putsDoorsAside_0 rfl 0 rfl ?_
  refine g_aload_n (pc := 1) C dX12_putsDoorsAside_1 rfl 0 rfl ?_
  refine g_get (pc := 2) C fl_X12_121 dX12_putsDoorsAside_2 0 rfl rfl ?_
  refine g_put (pc := 5) (ws' := (W_X12_putsDoorsAside E o_t a_t t_toldDoors t_barredDoors t_taped t_place0 t_length0 t_fault t_number0 t_open t_codeMany t_waiting t_saidMany t_clauses t_newMany t_rounds t_pinFrom t_pinTimes t_lines t_toldDoors t_wasBarred t_goesNow t_jamsNow t_queued t_isKept t_prongsOf t_oneOf t_otherOf t_wardsOf t_wasProngs t_wasOne t_wasOther t_wasWards)) C .int fl_X12_292 dX12_putsDoorsAside_5 0 rfl (by decide +kernel) rfl rfl (Nat.le_of_ble_eq_true rfl) rfl ?_
  refine g_aload_n (pc := 8) C dX12_putsDoorsAside_8 rfl 0 rfl ?_
  refine g_aload_n (pc := 9) C dX12_putsDoorsAside_9 rfl 0 rfl ?_
  refine g_get (pc := 10) C fl_X12_133 dX12_putsDoorsAside_10 0 rfl rfl ?_
  refine g_put (pc := 13) (ws' := (W_X12_putsDoorsAside E o_t a_t t_toldDoors t_barredDoors t_taped t_place0 t_length0 t_fault t_number0 t_open t_codeMany t_waiting t_saidMany t_clauses t_newMany t_rounds t_pinFrom t_pinTimes t_lines t_toldDoors t_barredDoors t_goesNow t_jamsNow t_queued t_isKept t_prongsOf t_oneOf t_otherOf t_wardsOf t_wasProngs t_wasOne t_wasOther t_wasWards)) C .int fl_X12_295 dX12_putsDoorsAside_13 0 rfl (by decide +kernel) rfl rfl (Nat.le_of_ble_eq_true rfl) rfl ?_
  refine g_iconst (pc := 16) (v := 0) C dX12_putsDoorsAside_16 (by decide) ?_
  refine g_istore_n (pc := 17) (lv' := [(1, .int (0 : Int32)), (0, .ref o_t)]) C dX12_putsDoorsAside_17 rfl (by decide) rfl ?_
  refine g_sub [1, 0] rfl ?_
  refine kL_X12_putsDoorsAside_18 C o_t a_t t_taped t_place0 t_length0 t_fault t_number0 t_open t_codeMany t_waiting t_saidMany t_clauses t_newMany t_rounds t_pinFrom t_pinTimes t_lines t_goesNow t_jamsNow t_queued t_isKept t_toldDoors t_barredDoors t_toldDoors t_barredDoors t_prongsOf t_oneOf t_otherOf t_wardsOf t_wasOne t_wasOther t_wasWards _ hret (fun s4 h => ?_) _ _ h
  refine g_iconst (pc := 42) (v := 0) C dX12_putsDoorsAside_42 (by decide) ?_
  refine g_istore_n (pc := 43) (lv' := [(1, .int (0 : Int32)), (0, .ref o_t)]) C dX12_putsDoorsAside_43 rfl (by decide) rfl ?_
  refine g_sub [1, 0] rfl ?_
  refine kL_X12_putsDoorsAside_44 C o_t a_t t_taped t_place0 t_length0 t_fault t_number0 t_open t_codeMany t_waiting t_saidMany t_clauses t_newMany t_rounds t_pinFrom t_pinTimes t_lines t_goesNow t_jamsNow t_queued t_isKept t_toldDoors t_barredDoors t_toldDoors t_barredDoors t_prongsOf t_oneOf t_otherOf t_wardsOf s4 hret  _ _ h
abbrev W_X12_putsDoorsBack (E : GE) (O_t : Nat) (a_t : Nat → Nat) (t_toldDoors : Int32) (t_barredDoors : Int32) (t_taped : Int32) (t_place0 : Int32) (t_length0 : Int32) (t_fault : Int32) (t_number0 : Int32) (t_open : Int32) (t_codeMany : Int32) (t_waiting : Int32) (t_saidMany : Int32) (t_clauses : Int32) (t_newMany : Int32) (t_rounds : Int32) (t_pinFrom : Int32) (t_pinTimes : Int32) (t_lines : Int32) (t_wasTold : Int32) (t_wasBarred : Int32) (t_goesNow : Int32) (t_jamsNow : Int32) (t_queued : Int32) (t_isKept : Int32) (t_prongsOf : (Nat → Int32)) (t_oneOf : (Nat → Int32)) (t_otherOf : (Nat → Int32)) (t_wardsOf : (Nat → Int32)) (t_wasProngs : (Nat → Int32)) (t_wasOne : (Nat → Int32)) (t_wasOther : (Nat → Int32)) (t_wasWards : (Nat → Int32)) : va_W := [(O_t, ob_X12 a_t t_toldDoors t_barredDoors t_taped t_place0 t_length0 t_fault t_number0 t_open t_codeMany t_waiting t_saidMany t_clauses t_newMany t_rounds t_pinFrom t_pinTimes t_lines t_wasTold t_wasBarred t_goesNow t_jamsNow t_queued t_isKept), (a_t 3, .inl (E.2.1, 6, .inl t_prongsOf)), (a_t 4, .inl (E.2.1, 24, .inl t_oneOf)), (a_t 5, .inl (E.2.1, 24, .inl t_otherOf)), (a_t 6, .inl (E.2.1, 24, .inl t_wardsOf)), (a_t 7, .inl (E.2.1, 6, .inl t_wasProngs)), (a_t 8, .inl (E.2.1, 24, .inl t_wasOne)), (a_t 9, .inl (E.2.1, 24, .inl t_wasOther)), (a_t 10, .inl (E.2.1, 24, .inl t_wasWards))]
def L_X12_putsDoorsBack_18 (t_toldDoors : Int32) (t_barredDoors : Int32) (t_wasTold : Int32) (t_wasBarred : Int32) (t_oneOf : (Nat → Int32)) (t_otherOf : (Nat → Int32)) (t_wardsOf : (Nat → Int32)) (t_wasProngs : (Nat → Int32)) (t_wasOne : (Nat → Int32)) (t_wasOther : (Nat → Int32)) (t_wasWards : (Nat → Int32)) (k0 : (Nat → Int32) → Option (Int32 × Int32 × (Nat → Int32) × (Nat → Int32) × (Nat → Int32) × (Nat → Int32))) : Nat → Int32 × (Nat → Int32) → Option (Int32 × Int32 × (Nat → Int32) × (Nat → Int32) × (Nat → Int32) × (Nat → Int32)) := lp fun go s => if (6 : Int32) ≤ s.1 then (k0 s.2) else rd t_wasProngs 6 s.1 fun v1 => wr s.2 6 s.1 v1 fun g2 => nm (s.1 + (1 : Int32)) fun v3 => go (v3, g2)
def L_X12_putsDoorsBack_44 (t_toldDoors : Int32) (t_barredDoors : Int32) (t_wasTold : Int32) (t_wasBarred : Int32) (t_prongsOf : (Nat → Int32)) (t_wasProngs : (Nat → Int32)) (t_wasOne : (Nat → Int32)) (t_wasOther : (Nat → Int32)) (t_wasWards : (Nat → Int32)) : Nat → Int32 × (Nat → Int32) × (Nat → Int32) × (Nat → Int32) → Option (Int32 × Int32 × (Nat → Int32) × (Nat → Int32) × (Nat → Int32) × (Nat → Int32)) := lp fun go s => if (24 : Int32) ≤ s.1 then (some (t_toldDoors, t_barredDoors, t_prongsOf, s.2.1, s.2.2.1, s.2.2.2)) else rd t_wasOne 24 s.1 fun v5 => wr s.2.1 24 s.1 v5 fun g6 => rd t_wasOther 24 s.1 fun v7 => wr s.2.2.1 24 s.1 v7 fun g8 => rd t_wasWards 24 s.1 fun v9 => wr s.2.2.2 24 s.1 v9 fun g10 => nm (s.1 + (1 : Int32)) fun v11 => go (v11, g6, g8, g10)
def f_X12_putsDoorsBack (t_toldDoors : Int32) (t_barredDoors : Int32) (t_wasTold : Int32) (t_wasBarred : Int32) (t_prongsOf : (Nat → Int32)) (t_oneOf : (Nat → Int32)) (t_otherOf : (Nat → Int32)) (t_wardsOf : (Nat → Int32)) (t_wasProngs : (Nat → Int32)) (t_wasOne : (Nat → Int32)) (t_wasOther : (Nat → Int32)) (t_wasWards : (Nat → Int32)) : Option (Int32 × Int32 × (Nat → Int32) × (Nat → Int32) × (Nat → Int32) × (Nat → Int32)) := L_X12_putsDoorsBack_18 t_wasTold t_wasBarred t_wasTold t_wasBarred t_oneOf t_otherOf t_wardsOf t_wasProngs t_wasOne t_wasOther t_wasWards (fun s4 => L_X12_putsDoorsBack_44 t_wasTold t_wasBarred t_wasTold t_wasBarred s4 t_wasProngs t_wasOne t_wasOther t_wasWards fu ((0 : Int32), t_oneOf, t_otherOf, t_wardsOf)) fu ((0 : Int32), t_prongsOf)
theorem dX12_putsDoorsBack_0 : decode cX12_putsDoorsBack 0 = .ok (.aload_n 0, 1) := by decide +kernel
theorem dX12_putsDoorsBack_1 : decode cX12_putsDoorsBack 1 = .ok (.aload_n 0, 1) := by decide +kernel
theorem dX12_putsDoorsBack_2 : decode cX12_putsDoorsBack 2 = .ok (.getfield 292, 3) := by decide +kernel
theorem dX12_putsDoorsBack_5 : decode cX12_putsDoorsBack 5 = .ok (.putfield 121, 3) := by decide +kernel
theorem dX12_putsDoorsBack_8 : decode cX12_putsDoorsBack 8 = .ok (.aload_n 0, 1) := by decide +kernel
theorem dX12_putsDoorsBack_9 : decode cX12_putsDoorsBack 9 = .ok (.aload_n 0, 1) := by decide +kernel
theorem dX12_putsDoorsBack_10 : decode cX12_putsDoorsBack 10 = .ok (.getfield 295, 3) := by decide +kernel
theorem dX12_putsDoorsBack_13 : decode cX12_putsDoorsBack 13 = .ok (.putfield 133, 3) := by decide +kernel
theorem dX12_putsDoorsBack_16 : decode cX12_putsDoorsBack 16 = .ok (.iconst 0, 1) := by decide +kernel
theorem dX12_putsDoorsBack_17 : decode cX12_putsDoorsBack 17 = .ok (.istore_n 1, 1) := by decide +kernel
theorem dX12_putsDoorsBack_18 : decode cX12_putsDoorsBack 18 = .ok (.iload_n 1, 1) := by decide +kernel
theorem dX12_putsDoorsBack_19 : decode cX12_putsDoorsBack 19 = .ok (.bipush 6, 2) := by decide +kernel
theorem dX12_putsDoorsBack_21 : decode cX12_putsDoorsBack 21 = .ok (.if_icmp .ge 21, 3) := by decide +kernel
theorem dX12_putsDoorsBack_24 : decode cX12_putsDoorsBack 24 = .ok (.aload_n 0, 1) := by decide +kernel
theorem dX12_putsDoorsBack_25 : decode cX12_putsDoorsBack 25 = .ok (.getfield 19, 3) := by decide +kernel
theorem dX12_putsDoorsBack_28 : decode cX12_putsDoorsBack 28 = .ok (.iload_n 1, 1) := by decide +kernel
theorem dX12_putsDoorsBack_29 : decode cX12_putsDoorsBack 29 = .ok (.aload_n 0, 1) := by decide +kernel
theorem dX12_putsDoorsBack_30 : decode cX12_putsDoorsBack 30 = .ok (.getfield 31, 3) := by decide +kernel
theorem dX12_putsDoorsBack_33 : decode cX12_putsDoorsBack 33 = .ok (.iload_n 1, 1) := by decide +kernel
theorem dX12_putsDoorsBack_34 : decode cX12_putsDoorsBack 34 = .ok (.iaload, 1) := by decide +kernel
theorem dX12_putsDoorsBack_35 : decode cX12_putsDoorsBack 35 = .ok (.iastore, 1) := by decide +kernel
theorem dX12_putsDoorsBack_36 : decode cX12_putsDoorsBack 36 = .ok (.iinc 1 1, 3) := by decide +kernel
theorem dX12_putsDoorsBack_39 : decode cX12_putsDoorsBack 39 = .ok (.goto (-21), 3) := by decide +kernel
theorem dX12_putsDoorsBack_42 : decode cX12_putsDoorsBack 42 = .ok (.iconst 0, 1) := by decide +kernel
theorem dX12_putsDoorsBack_43 : decode cX12_putsDoorsBack 43 = .ok (.istore_n 1, 1) := by decide +kernel
theorem dX12_putsDoorsBack_44 : decode cX12_putsDoorsBack 44 = .ok (.iload_n 1, 1) := by decide +kernel
theorem dX12_putsDoorsBack_45 : decode cX12_putsDoorsBack 45 = .ok (.bipush 24, 2) := by decide +kernel
theorem dX12_putsDoorsBack_47 : decode cX12_putsDoorsBack 47 = .ok (.if_icmp .ge 45, 3) := by decide +kernel
theorem dX12_putsDoorsBack_50 : decode cX12_putsDoorsBack 50 = .ok (.aload_n 0, 1) := by decide +kernel
theorem dX12_putsDoorsBack_51 : decode cX12_putsDoorsBack 51 = .ok (.getfield 22, 3) := by decide +kernel
theorem dX12_putsDoorsBack_54 : decode cX12_putsDoorsBack 54 = .ok (.iload_n 1, 1) := by decide +kernel
theorem dX12_putsDoorsBack_55 : decode cX12_putsDoorsBack 55 = .ok (.aload_n 0, 1) := by decide +kernel
theorem dX12_putsDoorsBack_56 : decode cX12_putsDoorsBack 56 = .ok (.getfield 34, 3) := by decide +kernel
theorem dX12_putsDoorsBack_59 : decode cX12_putsDoorsBack 59 = .ok (.iload_n 1, 1) := by decide +kernel
theorem dX12_putsDoorsBack_60 : decode cX12_putsDoorsBack 60 = .ok (.iaload, 1) := by decide +kernel
theorem dX12_putsDoorsBack_61 : decode cX12_putsDoorsBack 61 = .ok (.iastore, 1) := by decide +kernel
theorem dX12_putsDoorsBack_62 : decode cX12_putsDoorsBack 62 = .ok (.aload_n 0, 1) := by decide +kernel
theorem dX12_putsDoorsBack_63 : decode cX12_putsDoorsBack 63 = .ok (.getfield 25, 3) := by decide +kernel
theorem dX12_putsDoorsBack_66 : decode cX12_putsDoorsBack 66 = .ok (.iload_n 1, 1) := by decide +kernel
theorem dX12_putsDoorsBack_67 : decode cX12_putsDoorsBack 67 = .ok (.aload_n 0, 1) := by decide +kernel
theorem dX12_putsDoorsBack_68 : decode cX12_putsDoorsBack 68 = .ok (.getfield 37, 3) := by decide +kernel
theorem dX12_putsDoorsBack_71 : decode cX12_putsDoorsBack 71 = .ok (.iload_n 1, 1) := by decide +kernel
theorem dX12_putsDoorsBack_72 : decode cX12_putsDoorsBack 72 = .ok (.iaload, 1) := by decide +kernel
theorem dX12_putsDoorsBack_73 : decode cX12_putsDoorsBack 73 = .ok (.iastore, 1) := by decide +kernel
theorem dX12_putsDoorsBack_74 : decode cX12_putsDoorsBack 74 = .ok (.aload_n 0, 1) := by decide +kernel
theorem dX12_putsDoorsBack_75 : decode cX12_putsDoorsBack 75 = .ok (.getfield 28, 3) := by decide +kernel
theorem dX12_putsDoorsBack_78 : decode cX12_putsDoorsBack 78 = .ok (.iload_n 1, 1) := by decide +kernel
theorem dX12_putsDoorsBack_79 : decode cX12_putsDoorsBack 79 = .ok (.aload_n 0, 1) := by decide +kernel
theorem dX12_putsDoorsBack_80 : decode cX12_putsDoorsBack 80 = .ok (.getfield 40, 3) := by decide +kernel
theorem dX12_putsDoorsBack_83 : decode cX12_putsDoorsBack 83 = .ok (.iload_n 1, 1) := by decide +kernel
theorem dX12_putsDoorsBack_84 : decode cX12_putsDoorsBack 84 = .ok (.iaload, 1) := by decide +kernel
theorem dX12_putsDoorsBack_85 : decode cX12_putsDoorsBack 85 = .ok (.iastore, 1) := by decide +kernel
theorem dX12_putsDoorsBack_86 : decode cX12_putsDoorsBack 86 = .ok (.iinc 1 1, 3) := by decide +kernel
theorem dX12_putsDoorsBack_89 : decode cX12_putsDoorsBack 89 = .ok (.goto (-45), 3) := by decide +kernel
theorem dX12_putsDoorsBack_92 : decode cX12_putsDoorsBack 92 = .ok (.return_, 1) := by decide +kernel
set_option maxHeartbeats 4000000 in
set_option maxRecDepth 100000 in
theorem kL_X12_putsDoorsBack_18 {X : GC} {E : GE} (C : Cx X E cX12_putsDoorsBack RX12 1 2) (o_t : Nat) (a_t : Nat → Nat) (t_taped : Int32) (t_place0 : Int32) (t_length0 : Int32) (t_fault : Int32) (t_number0 : Int32) (t_open : Int32) (t_codeMany : Int32) (t_waiting : Int32) (t_saidMany : Int32) (t_clauses : Int32) (t_newMany : Int32) (t_rounds : Int32) (t_pinFrom : Int32) (t_pinTimes : Int32) (t_lines : Int32) (t_goesNow : Int32) (t_jamsNow : Int32) (t_queued : Int32) (t_isKept : Int32) (t_toldDoors : Int32) (t_barredDoors : Int32) (t_wasTold : Int32) (t_wasBarred : Int32) (t_oneOf : (Nat → Int32)) (t_otherOf : (Nat → Int32)) (t_wardsOf : (Nat → Int32)) (t_wasProngs : (Nat → Int32)) (t_wasOne : (Nat → Int32)) (t_wasOther : (Nat → Int32)) (t_wasWards : (Nat → Int32)) (k0 : (Nat → Int32) → Option (Int32 × Int32 × (Nat → Int32) × (Nat → Int32) × (Nat → Int32) × (Nat → Int32))) {r : Int32 × Int32 × (Nat → Int32) × (Nat → Int32) × (Nat → Int32) × (Nat → Int32)} (hret : RtV X E cX12_putsDoorsBack 0 0 (fun w => w = (W_X12_putsDoorsBack E o_t a_t r.1 r.2.1 t_taped t_place0 t_length0 t_fault t_number0 t_open t_codeMany t_waiting t_saidMany t_clauses t_newMany t_rounds t_pinFrom t_pinTimes t_lines t_wasTold t_wasBarred t_goesNow t_jamsNow t_queued t_isKept r.2.2.1 r.2.2.2.1 r.2.2.2.2.1 r.2.2.2.2.2 t_wasProngs t_wasOne t_wasOther t_wasWards))) (hk0 : ∀ u, k0 u = some r → Gx X E 0 0 (W_X12_putsDoorsBack E o_t a_t t_toldDoors t_barredDoors t_taped t_place0 t_length0 t_fault t_number0 t_open t_codeMany t_waiting t_saidMany t_clauses t_newMany t_rounds t_pinFrom t_pinTimes t_lines t_wasTold t_wasBarred t_goesNow t_jamsNow t_queued t_isKept u t_oneOf t_otherOf t_wardsOf t_wasProngs t_wasOne t_wasOther t_wasWards) 42 [(0, .ref o_t)] []) : ∀ (n : Nat) (s : Int32 × (Nat → Int32)), L_X12_putsDoorsBack_18 t_toldDoors t_barredDoors t_wasTold t_wasBarred t_oneOf t_otherOf t_wardsOf t_wasProngs t_wasOne t_wasOther t_wasWards k0 n s = some r → Gx X E 0 0 (W_X12_putsDoorsBack E o_t a_t t_toldDoors t_barredDoors t_taped t_place0 t_length0 t_fault t_number0 t_open t_codeMany t_waiting t_saidMany t_clauses t_newMany t_rounds t_pinFrom t_pinTimes t_lines t_wasTold t_wasBarred t_goesNow t_jamsNow t_queued t_isKept s.2 t_oneOf t_otherOf t_wardsOf t_wasProngs t_wasOne t_wasOther t_wasWards) 18 [(0, .ref o_t), (1, .int s.1)] [] := by
  unfold L_X12_putsDoorsBack_18
  refine lp_ind _ (fun go ih s h => ?_)
  refine g_iload_n (pc := 18) C dX12_putsDoorsBack_18 rfl 1 rfl ?_
  refine g_bipush (pc := 19) (v := 6) C dX12_putsDoorsBack_19 (by decide) ?_
  refine g_icmp_ge (pc := 21) (tgt := 42) C dX12_putsDoorsBack_21 (by decide) h (fun h => ?_) (fun h => ?_)
  · refine g_sub [0] rfl ?_
    exact hk0 _ h
  · refine g_aload_n (pc := 24) C dX12_putsDoorsBack_24 rfl 0 rfl ?_
    refine g_get (pc := 25) C fl_X12_19 dX12_putsDoorsBack_25 0 rfl rfl ?_
    refine g_iload_n (pc := 28) C dX12_putsDoorsBack_28 rfl 1 rfl ?_
    refine g_aload_n (pc := 29) C dX12_putsDoorsBack_29 rfl 0 rfl ?_
    refine g_get (pc := 30) C fl_X12_31 dX12_putsDoorsBack_30 0 rfl rfl ?_
    refine g_iload_n (pc := 33) C dX12_putsDoorsBack_33 rfl 1 rfl ?_
    refine g_iald (pc := 34) C dX12_putsDoorsBack_34 5 rfl h (fun v1 h => ?_)
    refine g_iast (pc := 35) C dX12_putsDoorsBack_35 1 rfl h (fun g2 h => ?_)
    refine g_ws (ws' := (W_X12_putsDoorsBack E o_t a_t t_toldDoors t_barredDoors t_taped t_place0 t_length0 t_fault t_number0 t_open t_codeMany t_waiting t_saidMany t_clauses t_newMany t_rounds t_pinFrom t_pinTimes t_lines t_wasTold t_wasBarred t_goesNow t_jamsNow t_queued t_isKept g2 t_oneOf t_otherOf t_wardsOf t_wasProngs t_wasOne t_wasOther t_wasWards)) rfl ?_
    refine g_iincn (pc := 36) (j := 1) (d := 1) (lv' := fun v3 => [(1, .int v3), (0, .ref o_t)]) C dX12_putsDoorsBack_36 rfl (by decide) (by decide) (fun _ => rfl) h (fun v3 h => ?_)
    refine g_goto (pc := 39) (tgt := 18) C dX12_putsDoorsBack_39 (by decide) ?_
    refine g_sub [1, 0] rfl ?_
    exact ih _ h
set_option maxHeartbeats 4000000 in
set_option maxRecDepth 100000 in
theorem kL_X12_putsDoorsBack_44 {X : GC} {E : GE} (C : Cx X E cX12_putsDoorsBack RX12 1 2) (o_t : Nat) (a_t : Nat → Nat) (t_taped : Int32) (t_place0 : Int32) (t_length0 : Int32) (t_fault : Int32) (t_number0 : Int32) (t_open : Int32) (t_codeMany : Int32) (t_waiting : Int32) (t_saidMany : Int32) (t_clauses : Int32) (t_newMany : Int32) (t_rounds : Int32) (t_pinFrom : Int32) (t_pinTimes : Int32) (t_lines : Int32) (t_goesNow : Int32) (t_jamsNow : Int32) (t_queued : Int32) (t_isKept : Int32) (t_toldDoors : Int32) (t_barredDoors : Int32) (t_wasTold : Int32) (t_wasBarred : Int32) (t_prongsOf : (Nat → Int32)) (t_wasProngs : (Nat → Int32)) (t_wasOne : (Nat → Int32)) (t_wasOther : (Nat → Int32)) (t_wasWards : (Nat → Int32)) {r : Int32 × Int32 × (Nat → Int32) × (Nat → Int32) × (Nat → Int32) × (Nat → Int32)} (hret : RtV X E cX12_putsDoorsBack 0 0 (fun w => w = (W_X12_putsDoorsBack E o_t a_t r.1 r.2.1 t_taped t_place0 t_length0 t_fault t_number0 t_open t_codeMany t_waiting t_saidMany t_clauses t_newMany t_rounds t_pinFrom t_pinTimes t_lines t_wasTold t_wasBarred t_goesNow t_jamsNow t_queued t_isKept r.2.2.1 r.2.2.2.1 r.2.2.2.2.1 r.2.2.2.2.2 t_wasProngs t_wasOne t_wasOther t_wasWards))) : ∀ (n : Nat) (s : Int32 × (Nat → Int32) × (Nat → Int32) × (Nat → Int32)), L_X12_putsDoorsBack_44 t_toldDoors t_barredDoors t_wasTold t_wasBarred t_prongsOf t_wasProngs t_wasOne t_wasOther t_wasWards n s = some r → Gx X E 0 0 (W_X12_putsDoorsBack E o_t a_t t_toldDoors t_barredDoors t_taped t_place0 t_length0 t_fault t_number0 t_open t_codeMany t_waiting t_saidMany t_clauses t_newMany t_rounds t_pinFrom t_pinTimes t_lines t_wasTold t_wasBarred t_goesNow t_jamsNow t_queued t_isKept t_prongsOf s.2.1 s.2.2.1 s.2.2.2 t_wasProngs t_wasOne t_wasOther t_wasWards) 44 [(0, .ref o_t), (1, .int s.1)] [] := by
  unfold L_X12_putsDoorsBack_44
  refine lp_ind _ (fun go ih s h => ?_)
  refine g_iload_n (pc := 44) C dX12_putsDoorsBack_44 rfl 1 rfl ?_
  refine g_bipush (pc := 45) (v := 24) C dX12_putsDoorsBack_45 (by decide) ?_
  refine g_icmp_ge (pc := 47) (tgt := 92) C dX12_putsDoorsBack_47 (by decide) h (fun h => ?_) (fun h => ?_)
  · cases h
    exact hret _ _ _ dX12_putsDoorsBack_92 rfl
  · refine g_aload_n (pc := 50) C dX12_putsDoorsBack_50 rfl 0 rfl ?_
    refine g_get (pc := 51) C fl_X12_22 dX12_putsDoorsBack_51 0 rfl rfl ?_
    refine g_iload_n (pc := 54) C dX12_putsDoorsBack_54 rfl 1 rfl ?_
    refine g_aload_n (pc := 55) C dX12_putsDoorsBack_55 rfl 0 rfl ?_
    refine g_get (pc := 56) C fl_X12_34 dX12_putsDoorsBack_56 0 rfl rfl ?_
    refine g_iload_n (pc := 59) C dX12_putsDoorsBack_59 rfl 1 rfl ?_
    refine g_iald (pc := 60) C dX12_putsDoorsBack_60 6 rfl h (fun v5 h => ?_)
    refine g_iast (pc := 61) C dX12_putsDoorsBack_61 2 rfl h (fun g6 h => ?_)
    refine g_ws (ws' := (W_X12_putsDoorsBack E o_t a_t t_toldDoors t_barredDoors t_taped t_place0 t_length0 t_fault t_number0 t_open t_codeMany t_waiting t_saidMany t_clauses t_newMany t_rounds t_pinFrom t_pinTimes t_lines t_wasTold t_wasBarred t_goesNow t_jamsNow t_queued t_isKept t_prongsOf g6 s.2.2.1 s.2.2.2 t_wasProngs t_wasOne t_wasOther t_wasWards)) rfl ?_
    refine g_aload_n (pc := 62) C dX12_putsDoorsBack_62 rfl 0 rfl ?_
    refine g_get (pc := 63) C fl_X12_25 dX12_putsDoorsBack_63 0 rfl rfl ?_
    refine g_iload_n (pc := 66) C dX12_putsDoorsBack_66 rfl 1 rfl ?_
    refine g_aload_n (pc := 67) C dX12_putsDoorsBack_67 rfl 0 rfl ?_
    refine g_get (pc := 68) C fl_X12_37 dX12_putsDoorsBack_68 0 rfl rfl ?_
    refine g_iload_n (pc := 71) C dX12_putsDoorsBack_71 rfl 1 rfl ?_
    refine g_iald (pc := 72) C dX12_putsDoorsBack_72 7 rfl h (fun v7 h => ?_)
    refine g_iast (pc := 73) C dX12_putsDoorsBack_73 3 rfl h (fun g8 h => ?_)
    refine g_ws (ws' := (W_X12_putsDoorsBack E o_t a_t t_toldDoors t_barredDoors t_taped t_place0 t_length0 t_fault t_number0 t_open t_codeMany t_waiting t_saidMany t_clauses t_newMany t_rounds t_pinFrom t_pinTimes t_lines t_wasTold t_wasBarred t_goesNow t_jamsNow t_queued t_isKept t_prongsOf g6 g8 s.2.2.2 t_wasProngs t_wasOne t_wasOther t_wasWards)) rfl ?_
    refine g_aload_n (pc := 74) C dX12_putsDoorsBack_74 rfl 0 rfl ?_
    refine g_get (pc := 75) C fl_X12_28 dX12_putsDoorsBack_75 0 rfl rfl ?_
    refine g_iload_n (pc := 78) C dX12_putsDoorsBack_78 rfl 1 rfl ?_
    refine g_aload_n (pc := 79) C dX12_putsDoorsBack_79 rfl 0 rfl ?_
    refine g_get (pc := 80) C fl_X12_40 dX12_putsDoorsBack_80 0 rfl rfl ?_
    refine g_iload_n (pc := 83) C dX12_putsDoorsBack_83 rfl 1 rfl ?_
    refine g_iald (pc := 84) C dX12_putsDoorsBack_84 8 rfl h (fun v9 h => ?_)
    refine g_iast (pc := 85) C dX12_putsDoorsBack_85 4 rfl h (fun g10 h => ?_)
    refine g_ws (ws' := (W_X12_putsDoorsBack E o_t a_t t_toldDoors t_barredDoors t_taped t_place0 t_length0 t_fault t_number0 t_open t_codeMany t_waiting t_saidMany t_clauses t_newMany t_rounds t_pinFrom t_pinTimes t_lines t_wasTold t_wasBarred t_goesNow t_jamsNow t_queued t_isKept t_prongsOf g6 g8 g10 t_wasProngs t_wasOne t_wasOther t_wasWards)) rfl ?_
    refine g_iincn (pc := 86) (j := 1) (d := 1) (lv' := fun v11 => [(1, .int v11), (0, .ref o_t)]) C dX12_putsDoorsBack_86 rfl (by decide) (by decide) (fun _ => rfl) h (fun v11 h => ?_)
    refine g_goto (pc := 89) (tgt := 44) C dX12_putsDoorsBack_89 (by decide) ?_
    refine g_sub [1, 0] rfl ?_
    exact ih _ h
set_option maxHeartbeats 4000000 in
set_option maxRecDepth 100000 in
theorem c_X12_putsDoorsBack (l : Launch) (E : GE) (o_t : Nat) (a_t : Nat → Nat) (t_toldDoors : Int32) (t_barredDoors : Int32) (t_taped : Int32) (t_place0 : Int32) (t_length0 : Int32) (t_fault : Int32) (t_number0 : Int32) (t_open : Int32) (t_codeMany : Int32) (t_waiting : Int32) (t_saidMany : Int32) (t_clauses : Int32) (t_newMany : Int32) (t_rounds : Int32) (t_pinFrom : Int32) (t_pinTimes : Int32) (t_lines : Int32) (t_wasTold : Int32) (t_wasBarred : Int32) (t_goesNow : Int32) (t_jamsNow : Int32) (t_queued : Int32) (t_isKept : Int32) (t_prongsOf : (Nat → Int32)) (t_oneOf : (Nat → Int32)) (t_otherOf : (Nat → Int32)) (t_wardsOf : (Nat → Int32)) (t_wasProngs : (Nat → Int32)) (t_wasOne : (Nat → Int32)) (t_wasOther : (Nat → Int32)) (t_wasWards : (Nat → Int32)) (r : Int32 × Int32 × (Nat → Int32) × (Nat → Int32) × (Nat → Int32) × (Nat → Int32)) (h : f_X12_putsDoorsBack t_toldDoors t_barredDoors t_wasTold t_wasBarred t_prongsOf t_oneOf t_otherOf t_wardsOf t_wasProngs t_wasOne t_wasOther t_wasWards = some r) : Cn l E yX12_putsDoorsBack cX12_putsDoorsBack 2 none 1 0 0 [.ref o_t] (W_X12_putsDoorsBack E o_t a_t t_toldDoors t_barredDoors t_taped t_place0 t_length0 t_fault t_number0 t_open t_codeMany t_waiting t_saidMany t_clauses t_newMany t_rounds t_pinFrom t_pinTimes t_lines t_wasTold t_wasBarred t_goesNow t_jamsNow t_queued t_isKept t_prongsOf t_oneOf t_otherOf t_wardsOf t_wasProngs t_wasOne t_wasOther t_wasWards) (fun w => w = (W_X12_putsDoorsBack E o_t a_t r.1 r.2.1 t_taped t_place0 t_length0 t_fault t_number0 t_open t_codeMany t_waiting t_saidMany t_clauses t_newMany t_rounds t_pinFrom t_pinTimes t_lines t_wasTold t_wasBarred t_goesNow t_jamsNow t_queued t_isKept r.2.2.1 r.2.2.2.1 r.2.2.2.2.1 r.2.2.2.2.2 t_wasProngs t_wasOne t_wasOther t_wasWards)) none := by
  refine Cn.ofV (by decide +kernel) (Nat.le_of_ble_eq_true rfl) (fun X hX hR C hret => ?_)
  subst hX
  show Gx X E 0 0 (W_X12_putsDoorsBack E o_t a_t t_toldDoors t_barredDoors t_taped t_place0 t_length0 t_fault t_number0 t_open t_codeMany t_waiting t_saidMany t_clauses t_newMany t_rounds t_pinFrom t_pinTimes t_lines t_wasTold t_wasBarred t_goesNow t_jamsNow t_queued t_isKept t_prongsOf t_oneOf t_otherOf t_wardsOf t_wasProngs t_wasOne t_wasOther t_wasWards) 0 [(0, .ref o_t)] []
  unfold f_X12_putsDoorsBack at h
  refine g_aload_n (pc := 0) C dX12_putsDoorsBack_0 rfl 0 rfl ?_
  refine g_aload_n (pc := 1) C dX12_putsDoorsBack_1 rfl 0 rfl ?_
  refine g_get (pc := 2) C fl_X12_292 dX12_putsDoorsBack_2 0 rfl rfl ?_
  refine g_put (pc := 5) (ws' := (W_X12_putsDoorsBack E o_t a_t t_wasTold t_barredDoors t_taped t_place0 t_length0 t_fault t_number0 t_open t_codeMany t_waiting t_saidMany t_clauses t_newMany t_rounds t_pinFrom t_pinTimes t_lines t_wasTold t_wasBarred t_goesNow t_jamsNow t_queued t_isKept t_prongsOf t_oneOf t_otherOf t_wardsOf t_wasProngs t_wasOne t_wasOther t_wasWards)) C .int fl_X12_121 dX12_putsDoorsBack_5 0 rfl (by decide +kernel) rfl rfl (Nat.le_of_ble_eq_true rfl) rfl ?_
  refine g_aload_n (pc := 8) C dX12_putsDoorsBack_8 rfl 0 rfl ?_
  refine g_aload_n (pc := 9) C dX12_putsDoorsBack_9 rfl 0 rfl ?_
  refine g_get (pc := 10) C fl_X12_295 dX12_putsDoorsBack_10 0 rfl rfl ?_
  refine g_put (pc := 13) (ws' := (W_X12_putsDoorsBack E o_t a_t t_wasTold t_wasBarred t_taped t_place0 t_length0 t_fault t_number0 t_open t_codeMany t_waiting t_saidMany t_clauses t_newMany t_rounds t_pinFrom t_pinTimes t_lines t_wasTold t_wasBarred t_goesNow t_jamsNow t_queued t_isKept t_prongsOf t_oneOf t_otherOf t_wardsOf t_wasProngs t_wasOne t_wasOther t_wasWards)) C .int fl_X12_133 dX12_putsDoorsBack_13 0 rfl (by decide +kernel) rfl rfl (Nat.le_of_ble_eq_true rfl) rfl ?_
  refine g_iconst (pc := 16) (v := 0) C dX12_putsDoorsBack_16 (by decide) ?_
  refine g_istore_n (pc := 17) (lv' := [(1, .int (0 : Int32)), (0, .ref o_t)]) C dX12_putsDoorsBack_17 rfl (by decide) rfl ?_
  refine g_sub [1, 0] rfl ?_
  refine kL_X12_putsDoorsBack_18 C o_t a_t t_taped t_place0 t_length0 t_fault t_number0 t_open t_codeMany t_waiting t_saidMany t_clauses t_newMany t_rounds t_pinFrom t_pinTimes t_lines t_goesNow t_jamsNow t_queued t_isKept t_wasTold t_wasBarred t_wasTold t_wasBarred t_oneOf t_otherOf t_wardsOf t_wasProngs t_wasOne t_wasOther t_wasWards _ hret (fun s4 h => ?_) _ _ h
  refine g_iconst (pc := 42) (v := 0) C dX12_putsDoorsBack_42 (by decide) ?_
  refine g_istore_n (pc := 43) (lv' := [(1, .int (0 : Int32)), (0, .ref o_t)]) C dX12_putsDoorsBack_43 rfl (by decide) rfl ?_
  refine g_sub [1, 0] rfl ?_
  refine kL_X12_putsDoorsBack_44 C o_t a_t t_taped t_place0 t_length0 t_fault t_number0 t_open t_codeMany t_waiting t_saidMany t_clauses t_newMany t_rounds t_pinFrom t_pinTimes t_lines t_goesNow t_jamsNow t_queued t_isKept t_wasTold t_wasBarred t_wasTold t_wasBarred s4 t_wasProngs t_wasOne t_wasOther t_wasWards hret  _ _ h
abbrev W_X12_putsUp (E : GE) (O_t : Nat) (a_t : Nat → Nat) (t_toldDoors : Int32) (t_barredDoors : Int32) (t_taped : Int32) (t_place0 : Int32) (t_length0 : Int32) (t_fault : Int32) (t_number0 : Int32) (t_open : Int32) (t_codeMany : Int32) (t_waiting : Int32) (t_saidMany : Int32) (t_clauses : Int32) (t_newMany : Int32) (t_rounds : Int32) (t_pinFrom : Int32) (t_pinTimes : Int32) (t_lines : Int32) (t_wasTold : Int32) (t_wasBarred : Int32) (t_goesNow : Int32) (t_jamsNow : Int32) (t_queued : Int32) (t_isKept : Int32) (t_now : (Nat → Int32)) : va_W := [(O_t, ob_X12 a_t t_toldDoors t_barredDoors t_taped t_place0 t_length0 t_fault t_number0 t_open t_codeMany t_waiting t_saidMany t_clauses t_newMany t_rounds t_pinFrom t_pinTimes t_lines t_wasTold t_wasBarred t_goesNow t_jamsNow t_queued t_isKept), (a_t 0, .inl (E.2.1, 166, .inl t_now))]
def L_X12_putsUp_4 (x1 : Int32) : Nat → Int32 × Int32 × (Nat → Int32) → Option (Int32 × (Nat → Int32)) := lp fun go s => if (6 : Int32) ≤ s.2.1 then (some (s.1, s.2.2)) else nm (((6 : Int32) * x1) + s.2.1) fun v1 => rd s.2.2 166 ((44 : Int32) + v1) fun v2 => rd s.2.2 166 ((104 : Int32) + v1) fun v3 => nm ((s.1 + v2) - v3) fun v4 => rd s.2.2 166 ((44 : Int32) + v1) fun v5 => wr s.2.2 166 ((104 : Int32) + v1) v5 fun g6 => nm (s.2.1 + (1 : Int32)) fun v7 => go (v4, v7, g6)
def f_X12_putsUp (t_now : (Nat → Int32)) (x1 : Int32) : Option (Int32 × (Nat → Int32)) := L_X12_putsUp_4 x1 fu ((0 : Int32), (0 : Int32), t_now)
theorem dX12_putsUp_0 : decode cX12_putsUp 0 = .ok (.iconst 0, 1) := by decide +kernel
theorem dX12_putsUp_1 : decode cX12_putsUp 1 = .ok (.istore_n 2, 1) := by decide +kernel
theorem dX12_putsUp_2 : decode cX12_putsUp 2 = .ok (.iconst 0, 1) := by decide +kernel
theorem dX12_putsUp_3 : decode cX12_putsUp 3 = .ok (.istore_n 3, 1) := by decide +kernel
theorem dX12_putsUp_4 : decode cX12_putsUp 4 = .ok (.iload_n 3, 1) := by decide +kernel
theorem dX12_putsUp_5 : decode cX12_putsUp 5 = .ok (.bipush 6, 2) := by decide +kernel
theorem dX12_putsUp_7 : decode cX12_putsUp 7 = .ok (.if_icmp .ge 61, 3) := by decide +kernel
theorem dX12_putsUp_10 : decode cX12_putsUp 10 = .ok (.bipush 6, 2) := by decide +kernel
theorem dX12_putsUp_12 : decode cX12_putsUp 12 = .ok (.iload_n 1, 1) := by decide +kernel
theorem dX12_putsUp_13 : decode cX12_putsUp 13 = .ok (.imul, 1) := by decide +kernel
theorem dX12_putsUp_14 : decode cX12_putsUp 14 = .ok (.iload_n 3, 1) := by decide +kernel
theorem dX12_putsUp_15 : decode cX12_putsUp 15 = .ok (.iadd, 1) := by decide +kernel
theorem dX12_putsUp_16 : decode cX12_putsUp 16 = .ok (.istore 4, 2) := by decide +kernel
theorem dX12_putsUp_18 : decode cX12_putsUp 18 = .ok (.iload_n 2, 1) := by decide +kernel
theorem dX12_putsUp_19 : decode cX12_putsUp 19 = .ok (.aload_n 0, 1) := by decide +kernel
theorem dX12_putsUp_20 : decode cX12_putsUp 20 = .ok (.getfield 7, 3) := by decide +kernel
theorem dX12_putsUp_23 : decode cX12_putsUp 23 = .ok (.bipush 44, 2) := by decide +kernel
theorem dX12_putsUp_25 : decode cX12_putsUp 25 = .ok (.iload 4, 2) := by decide +kernel
theorem dX12_putsUp_27 : decode cX12_putsUp 27 = .ok (.iadd, 1) := by decide +kernel
theorem dX12_putsUp_28 : decode cX12_putsUp 28 = .ok (.iaload, 1) := by decide +kernel
theorem dX12_putsUp_29 : decode cX12_putsUp 29 = .ok (.iadd, 1) := by decide +kernel
theorem dX12_putsUp_30 : decode cX12_putsUp 30 = .ok (.aload_n 0, 1) := by decide +kernel
theorem dX12_putsUp_31 : decode cX12_putsUp 31 = .ok (.getfield 7, 3) := by decide +kernel
theorem dX12_putsUp_34 : decode cX12_putsUp 34 = .ok (.bipush 104, 2) := by decide +kernel
theorem dX12_putsUp_36 : decode cX12_putsUp 36 = .ok (.iload 4, 2) := by decide +kernel
theorem dX12_putsUp_38 : decode cX12_putsUp 38 = .ok (.iadd, 1) := by decide +kernel
theorem dX12_putsUp_39 : decode cX12_putsUp 39 = .ok (.iaload, 1) := by decide +kernel
theorem dX12_putsUp_40 : decode cX12_putsUp 40 = .ok (.isub, 1) := by decide +kernel
theorem dX12_putsUp_41 : decode cX12_putsUp 41 = .ok (.istore_n 2, 1) := by decide +kernel
theorem dX12_putsUp_42 : decode cX12_putsUp 42 = .ok (.aload_n 0, 1) := by decide +kernel
theorem dX12_putsUp_43 : decode cX12_putsUp 43 = .ok (.getfield 7, 3) := by decide +kernel
theorem dX12_putsUp_46 : decode cX12_putsUp 46 = .ok (.bipush 104, 2) := by decide +kernel
theorem dX12_putsUp_48 : decode cX12_putsUp 48 = .ok (.iload 4, 2) := by decide +kernel
theorem dX12_putsUp_50 : decode cX12_putsUp 50 = .ok (.iadd, 1) := by decide +kernel
theorem dX12_putsUp_51 : decode cX12_putsUp 51 = .ok (.aload_n 0, 1) := by decide +kernel
theorem dX12_putsUp_52 : decode cX12_putsUp 52 = .ok (.getfield 7, 3) := by decide +kernel
theorem dX12_putsUp_55 : decode cX12_putsUp 55 = .ok (.bipush 44, 2) := by decide +kernel
theorem dX12_putsUp_57 : decode cX12_putsUp 57 = .ok (.iload 4, 2) := by decide +kernel
theorem dX12_putsUp_59 : decode cX12_putsUp 59 = .ok (.iadd, 1) := by decide +kernel
theorem dX12_putsUp_60 : decode cX12_putsUp 60 = .ok (.iaload, 1) := by decide +kernel
theorem dX12_putsUp_61 : decode cX12_putsUp 61 = .ok (.iastore, 1) := by decide +kernel
theorem dX12_putsUp_62 : decode cX12_putsUp 62 = .ok (.iinc 3 1, 3) := by decide +kernel
theorem dX12_putsUp_65 : decode cX12_putsUp 65 = .ok (.goto (-61), 3) := by decide +kernel
theorem dX12_putsUp_68 : decode cX12_putsUp 68 = .ok (.iload_n 2, 1) := by decide +kernel
theorem dX12_putsUp_69 : decode cX12_putsUp 69 = .ok (.ireturn, 1) := by decide +kernel
set_option maxHeartbeats 4000000 in
set_option maxRecDepth 100000 in
theorem kL_X12_putsUp_4 {X : GC} {E : GE} (C : Cx X E cX12_putsUp RX12 1 5) (o_t : Nat) (a_t : Nat → Nat) (t_toldDoors : Int32) (t_barredDoors : Int32) (t_taped : Int32) (t_place0 : Int32) (t_length0 : Int32) (t_fault : Int32) (t_number0 : Int32) (t_open : Int32) (t_codeMany : Int32) (t_waiting : Int32) (t_saidMany : Int32) (t_clauses : Int32) (t_newMany : Int32) (t_rounds : Int32) (t_pinFrom : Int32) (t_pinTimes : Int32) (t_lines : Int32) (t_wasTold : Int32) (t_wasBarred : Int32) (t_goesNow : Int32) (t_jamsNow : Int32) (t_queued : Int32) (t_isKept : Int32) (x1 : Int32) {r : Int32 × (Nat → Int32)} (hret : RtI X E cX12_putsUp .int 0 0 (fun w => w = (W_X12_putsUp E o_t a_t t_toldDoors t_barredDoors t_taped t_place0 t_length0 t_fault t_number0 t_open t_codeMany t_waiting t_saidMany t_clauses t_newMany t_rounds t_pinFrom t_pinTimes t_lines t_wasTold t_wasBarred t_goesNow t_jamsNow t_queued t_isKept r.2)) r.1) : ∀ (n : Nat) (s : Int32 × Int32 × (Nat → Int32)), L_X12_putsUp_4 x1 n s = some r → Gx X E 0 0 (W_X12_putsUp E o_t a_t t_toldDoors t_barredDoors t_taped t_place0 t_length0 t_fault t_number0 t_open t_codeMany t_waiting t_saidMany t_clauses t_newMany t_rounds t_pinFrom t_pinTimes t_lines t_wasTold t_wasBarred t_goesNow t_jamsNow t_queued t_isKept s.2.2) 4 [(0, .ref o_t), (1, .int x1), (2, .int s.1), (3, .int s.2.1)] [] := by
  unfold L_X12_putsUp_4
  refine lp_ind _ (fun go ih s h => ?_)
  refine g_iload_n (pc := 4) C dX12_putsUp_4 rfl 3 rfl ?_
  refine g_bipush (pc := 5) (v := 6) C dX12_putsUp_5 (by decide) ?_
  refine g_icmp_ge (pc := 7) (tgt := 68) C dX12_putsUp_7 (by decide) h (fun h => ?_) (fun h => ?_)
  · refine g_iload_n (pc := 68) C dX12_putsUp_68 rfl 2 rfl ?_
    cases h
    exact hret _ _ _ dX12_putsUp_69 rfl rfl
  · refine g_bipush (pc := 10) (v := 6) C dX12_putsUp_10 (by decide) ?_
    refine g_iload_n (pc := 12) C dX12_putsUp_12 rfl 1 rfl ?_
    refine g_imul (pc := 13) C dX12_putsUp_13 ?_
    refine g_iload_n (pc := 14) C dX12_putsUp_14 rfl 3 rfl ?_
    refine g_iadd (pc := 15) C dX12_putsUp_15 ?_
    refine g_nm h (fun v1 h => ?_)
    refine g_istore (pc := 16) (lv' := [(4, .int v1), (0, .ref o_t), (1, .int x1), (2, .int s.1), (3, .int s.2.1)]) C dX12_putsUp_16 (by decide) rfl ?_
    refine g_iload_n (pc := 18) C dX12_putsUp_18 rfl 3 rfl ?_
    refine g_aload_n (pc := 19) C dX12_putsUp_19 rfl 1 rfl ?_
    refine g_get (pc := 20) C fl_X12_7 dX12_putsUp_20 0 rfl rfl ?_
    refine g_bipush (pc := 23) (v := 44) C dX12_putsUp_23 (by decide) ?_
    refine g_iload (pc := 25) C dX12_putsUp_25 0 rfl ?_
    refine g_iadd (pc := 27) C dX12_putsUp_27 ?_
    refine g_iald (pc := 28) C dX12_putsUp_28 1 rfl h (fun v2 h => ?_)
    refine g_iadd (pc := 29) C dX12_putsUp_29 ?_
    refine g_aload_n (pc := 30) C dX12_putsUp_30 rfl 1 rfl ?_
    refine g_get (pc := 31) C fl_X12_7 dX12_putsUp_31 0 rfl rfl ?_
    refine g_bipush (pc := 34) (v := 104) C dX12_putsUp_34 (by decide) ?_
    refine g_iload (pc := 36) C dX12_putsUp_36 0 rfl ?_
    refine g_iadd (pc := 38) C dX12_putsUp_38 ?_
    refine g_iald (pc := 39) C dX12_putsUp_39 1 rfl h (fun v3 h => ?_)
    refine g_isub (pc := 40) C dX12_putsUp_40 ?_
    refine g_nm h (fun v4 h => ?_)
    refine g_istore_n (pc := 41) (lv' := [(2, .int v4), (4, .int v1), (0, .ref o_t), (1, .int x1), (3, .int s.2.1)]) C dX12_putsUp_41 rfl (by decide) rfl ?_
    refine g_aload_n (pc := 42) C dX12_putsUp_42 rfl 2 rfl ?_
    refine g_get (pc := 43) C fl_X12_7 dX12_putsUp_43 0 rfl rfl ?_
    refine g_bipush (pc := 46) (v := 104) C dX12_putsUp_46 (by decide) ?_
    refine g_iload (pc := 48) C dX12_putsUp_48 1 rfl ?_
    refine g_iadd (pc := 50) C dX12_putsUp_50 ?_
    refine g_aload_n (pc := 51) C dX12_putsUp_51 rfl 2 rfl ?_
    refine g_get (pc := 52) C fl_X12_7 dX12_putsUp_52 0 rfl rfl ?_
    refine g_bipush (pc := 55) (v := 44) C dX12_putsUp_55 (by decide) ?_
    refine g_iload (pc := 57) C dX12_putsUp_57 1 rfl ?_
    refine g_iadd (pc := 59) C dX12_putsUp_59 ?_
    refine g_iald (pc := 60) C dX12_putsUp_60 1 rfl h (fun v5 h => ?_)
    refine g_iast (pc := 61) C dX12_putsUp_61 1 rfl h (fun g6 h => ?_)
    refine g_ws (ws' := (W_X12_putsUp E o_t a_t t_toldDoors t_barredDoors t_taped t_place0 t_length0 t_fault t_number0 t_open t_codeMany t_waiting t_saidMany t_clauses t_newMany t_rounds t_pinFrom t_pinTimes t_lines t_wasTold t_wasBarred t_goesNow t_jamsNow t_queued t_isKept g6)) rfl ?_
    refine g_iincn (pc := 62) (j := 4) (d := 1) (lv' := fun v7 => [(3, .int v7), (2, .int v4), (4, .int v1), (0, .ref o_t), (1, .int x1)]) C dX12_putsUp_62 rfl (by decide) (by decide) (fun _ => rfl) h (fun v7 h => ?_)
    refine g_goto (pc := 65) (tgt := 4) C dX12_putsUp_65 (by decide) ?_
    refine g_sub [3, 4, 1, 0] rfl ?_
    exact ih _ h
set_option maxHeartbeats 4000000 in
set_option maxRecDepth 100000 in
theorem c_X12_putsUp (l : Launch) (E : GE) (o_t : Nat) (a_t : Nat → Nat) (t_toldDoors : Int32) (t_barredDoors : Int32) (t_taped : Int32) (t_place0 : Int32) (t_length0 : Int32) (t_fault : Int32) (t_number0 : Int32) (t_open : Int32) (t_codeMany : Int32) (t_waiting : Int32) (t_saidMany : Int32) (t_clauses : Int32) (t_newMany : Int32) (t_rounds : Int32) (t_pinFrom : Int32) (t_pinTimes : Int32) (t_lines : Int32) (t_wasTold : Int32) (t_wasBarred : Int32) (t_goesNow : Int32) (t_jamsNow : Int32) (t_queued : Int32) (t_isKept : Int32) (t_now : (Nat → Int32)) (x1 : Int32) (r : Int32 × (Nat → Int32)) (h : f_X12_putsUp t_now x1 = some r) : Cn l E yX12_putsUp cX12_putsUp 5 (some .int) 1 0 0 [.ref o_t, .int x1] (W_X12_putsUp E o_t a_t t_toldDoors t_barredDoors t_taped t_place0 t_length0 t_fault t_number0 t_open t_codeMany t_waiting t_saidMany t_clauses t_newMany t_rounds t_pinFrom t_pinTimes t_lines t_wasTold t_wasBarred t_goesNow t_jamsNow t_queued t_isKept t_now) (fun w => w = (W_X12_putsUp E o_t a_t t_toldDoors t_barredDoors t_taped t_place0 t_length0 t_fault t_number0 t_open t_codeMany t_waiting t_saidMany t_clauses t_newMany t_rounds t_pinFrom t_pinTimes t_lines t_wasTold t_wasBarred t_goesNow t_jamsNow t_queued t_isKept r.2)) (some (.int r.1)) := by
  refine Cn.ofI (by decide +kernel) (Nat.le_of_ble_eq_true rfl) (fun X hX hR C hret => ?_)
  subst hX
  show Gx X E 0 0 (W_X12_putsUp E o_t a_t t_toldDoors t_barredDoors t_taped t_place0 t_length0 t_fault t_number0 t_open t_codeMany t_waiting t_saidMany t_clauses t_newMany t_rounds t_pinFrom t_pinTimes t_lines t_wasTold t_wasBarred t_goesNow t_jamsNow t_queued t_isKept t_now) 0 [(0, .ref o_t), (1, .int x1)] []
  unfold f_X12_putsUp at h
  refine g_iconst (pc := 0) (v := 0) C dX12_putsUp_0 (by decide) ?_
  refine g_istore_n (pc := 1) (lv' := [(2, .int (0 : Int32)), (0, .ref o_t), (1, .int x1)]) C dX12_putsUp_1 rfl (by decide) rfl ?_
  refine g_iconst (pc := 2) (v := 0) C dX12_putsUp_2 (by decide) ?_
  refine g_istore_n (pc := 3) (lv' := [(3, .int (0 : Int32)), (2, .int (0 : Int32)), (0, .ref o_t), (1, .int x1)]) C dX12_putsUp_3 rfl (by decide) rfl ?_
  refine g_sub [2, 3, 1, 0] rfl ?_
  refine kL_X12_putsUp_4 C o_t a_t t_toldDoors t_barredDoors t_taped t_place0 t_length0 t_fault t_number0 t_open t_codeMany t_waiting t_saidMany t_clauses t_newMany t_rounds t_pinFrom t_pinTimes t_lines t_wasTold t_wasBarred t_goesNow t_jamsNow t_queued t_isKept x1 hret  _ _ h
abbrev W_X12_reckon (E : GE) : va_W := []
def f_X12_reckon (x0 : Int32) (x1 : Int32) (x2 : Int32) : Option (Int32) := if x0 = (2 : Int32) then (some (x1 + x2)) else if x0 = (3 : Int32) then (some (x1 - x2)) else if x0 = (4 : Int32) then (some (x1 * x2)) else if x0 = (5 : Int32) then (dv x1 x2 fun v5 => some v5) else if x0 = (6 : Int32) then (rm x1 x2 fun v7 => some v7) else if x0 = (7 : Int32) then (if x2 ≤ x1 then (some (0 : Int32)) else some (1 : Int32)) else if x0 = (8 : Int32) then (if x1 ≤ x2 then (some (0 : Int32)) else some (1 : Int32)) else if x1 = x2 then (some (1 : Int32)) else some (0 : Int32)
theorem dX12_reckon_0 : decode cX12_reckon 0 = .ok (.iload_n 0, 1) := by decide +kernel
theorem dX12_reckon_1 : decode cX12_reckon 1 = .ok (.tableswitch 85 2 8 #[43, 47, 51, 55, 59, 63, 74], 43) := by decide +kernel
theorem dX12_reckon_44 : decode cX12_reckon 44 = .ok (.iload_n 1, 1) := by decide +kernel
theorem dX12_reckon_45 : decode cX12_reckon 45 = .ok (.iload_n 2, 1) := by decide +kernel
theorem dX12_reckon_46 : decode cX12_reckon 46 = .ok (.iadd, 1) := by decide +kernel
theorem dX12_reckon_47 : decode cX12_reckon 47 = .ok (.ireturn, 1) := by decide +kernel
theorem dX12_reckon_48 : decode cX12_reckon 48 = .ok (.iload_n 1, 1) := by decide +kernel
theorem dX12_reckon_49 : decode cX12_reckon 49 = .ok (.iload_n 2, 1) := by decide +kernel
theorem dX12_reckon_50 : decode cX12_reckon 50 = .ok (.isub, 1) := by decide +kernel
theorem dX12_reckon_51 : decode cX12_reckon 51 = .ok (.ireturn, 1) := by decide +kernel
theorem dX12_reckon_52 : decode cX12_reckon 52 = .ok (.iload_n 1, 1) := by decide +kernel
theorem dX12_reckon_53 : decode cX12_reckon 53 = .ok (.iload_n 2, 1) := by decide +kernel
theorem dX12_reckon_54 : decode cX12_reckon 54 = .ok (.imul, 1) := by decide +kernel
theorem dX12_reckon_55 : decode cX12_reckon 55 = .ok (.ireturn, 1) := by decide +kernel
theorem dX12_reckon_56 : decode cX12_reckon 56 = .ok (.iload_n 1, 1) := by decide +kernel
theorem dX12_reckon_57 : decode cX12_reckon 57 = .ok (.iload_n 2, 1) := by decide +kernel
theorem dX12_reckon_58 : decode cX12_reckon 58 = .ok (.idiv, 1) := by decide +kernel
theorem dX12_reckon_59 : decode cX12_reckon 59 = .ok (.ireturn, 1) := by decide +kernel
theorem dX12_reckon_60 : decode cX12_reckon 60 = .ok (.iload_n 1, 1) := by decide +kernel
theorem dX12_reckon_61 : decode cX12_reckon 61 = .ok (.iload_n 2, 1) := by decide +kernel
theorem dX12_reckon_62 : decode cX12_reckon 62 = .ok (.irem, 1) := by decide +kernel
theorem dX12_reckon_63 : decode cX12_reckon 63 = .ok (.ireturn, 1) := by decide +kernel
theorem dX12_reckon_64 : decode cX12_reckon 64 = .ok (.iload_n 1, 1) := by decide +kernel
theorem dX12_reckon_65 : decode cX12_reckon 65 = .ok (.iload_n 2, 1) := by decide +kernel
theorem dX12_reckon_66 : decode cX12_reckon 66 = .ok (.if_icmp .ge 7, 3) := by decide +kernel
theorem dX12_reckon_69 : decode cX12_reckon 69 = .ok (.iconst 1, 1) := by decide +kernel
theorem dX12_reckon_70 : decode cX12_reckon 70 = .ok (.goto 4, 3) := by decide +kernel
theorem dX12_reckon_73 : decode cX12_reckon 73 = .ok (.iconst 0, 1) := by decide +kernel
theorem dX12_reckon_74 : decode cX12_reckon 74 = .ok (.ireturn, 1) := by decide +kernel
theorem dX12_reckon_75 : decode cX12_reckon 75 = .ok (.iload_n 1, 1) := by decide +kernel
theorem dX12_reckon_76 : decode cX12_reckon 76 = .ok (.iload_n 2, 1) := by decide +kernel
theorem dX12_reckon_77 : decode cX12_reckon 77 = .ok (.if_icmp .le 7, 3) := by decide +kernel
theorem dX12_reckon_80 : decode cX12_reckon 80 = .ok (.iconst 1, 1) := by decide +kernel
theorem dX12_reckon_81 : decode cX12_reckon 81 = .ok (.goto 4, 3) := by decide +kernel
theorem dX12_reckon_84 : decode cX12_reckon 84 = .ok (.iconst 0, 1) := by decide +kernel
theorem dX12_reckon_85 : decode cX12_reckon 85 = .ok (.ireturn, 1) := by decide +kernel
theorem dX12_reckon_86 : decode cX12_reckon 86 = .ok (.iload_n 1, 1) := by decide +kernel
theorem dX12_reckon_87 : decode cX12_reckon 87 = .ok (.iload_n 2, 1) := by decide +kernel
theorem dX12_reckon_88 : decode cX12_reckon 88 = .ok (.if_icmp .ne 7, 3) := by decide +kernel
theorem dX12_reckon_91 : decode cX12_reckon 91 = .ok (.iconst 1, 1) := by decide +kernel
theorem dX12_reckon_92 : decode cX12_reckon 92 = .ok (.goto 4, 3) := by decide +kernel
theorem dX12_reckon_95 : decode cX12_reckon 95 = .ok (.iconst 0, 1) := by decide +kernel
theorem dX12_reckon_96 : decode cX12_reckon 96 = .ok (.ireturn, 1) := by decide +kernel
set_option maxHeartbeats 4000000 in
set_option maxRecDepth 100000 in
theorem c_X12_reckon (l : Launch) (E : GE) (x0 : Int32) (x1 : Int32) (x2 : Int32) (r : Int32) (h : f_X12_reckon x0 x1 x2 = some r) : Cn l E yX12_reckon cX12_reckon 3 (some .int) 1 0 0 [.int x0, .int x1, .int x2] (W_X12_reckon E) (fun w => w = (W_X12_reckon E)) (some (.int r)) := by
  refine Cn.ofI (by decide +kernel) (Nat.le_of_ble_eq_true rfl) (fun X hX hR C hret => ?_)
  subst hX
  show Gx X E 0 0 (W_X12_reckon E) 0 [(0, .int x0), (1, .int x1), (2, .int x2)] []
  unfold f_X12_reckon at h
  refine g_iload_n (pc := 0) C dX12_reckon_0 rfl 0 rfl ?_
  rcases ite_cs h with ⟨c1, h⟩ | ⟨c1, h⟩
  · refine g_tabHit (pc := 1) (tgt := 44) C 2 c1 dX12_reckon_1 (by decide) (by decide) rfl (by decide) ?_
    refine g_iload_n (pc := 44) C dX12_reckon_44 rfl 1 rfl ?_
    refine g_iload_n (pc := 45) C dX12_reckon_45 rfl 2 rfl ?_
    refine g_iadd (pc := 46) C dX12_reckon_46 ?_
    cases h
    exact hret _ _ _ dX12_reckon_47 rfl rfl
  rcases ite_cs h with ⟨c2, h⟩ | ⟨c2, h⟩
  · refine g_tabHit (pc := 1) (tgt := 48) C 3 c2 dX12_reckon_1 (by decide) (by decide) rfl (by decide) ?_
    refine g_iload_n (pc := 48) C dX12_reckon_48 rfl 1 rfl ?_
    refine g_iload_n (pc := 49) C dX12_reckon_49 rfl 2 rfl ?_
    refine g_isub (pc := 50) C dX12_reckon_50 ?_
    cases h
    exact hret _ _ _ dX12_reckon_51 rfl rfl
  rcases ite_cs h with ⟨c3, h⟩ | ⟨c3, h⟩
  · refine g_tabHit (pc := 1) (tgt := 52) C 4 c3 dX12_reckon_1 (by decide) (by decide) rfl (by decide) ?_
    refine g_iload_n (pc := 52) C dX12_reckon_52 rfl 1 rfl ?_
    refine g_iload_n (pc := 53) C dX12_reckon_53 rfl 2 rfl ?_
    refine g_imul (pc := 54) C dX12_reckon_54 ?_
    cases h
    exact hret _ _ _ dX12_reckon_55 rfl rfl
  rcases ite_cs h with ⟨c4, h⟩ | ⟨c4, h⟩
  · refine g_tabHit (pc := 1) (tgt := 56) C 5 c4 dX12_reckon_1 (by decide) (by decide) rfl (by decide) ?_
    refine g_iload_n (pc := 56) C dX12_reckon_56 rfl 1 rfl ?_
    refine g_iload_n (pc := 57) C dX12_reckon_57 rfl 2 rfl ?_
    refine g_idiv (pc := 58) C dX12_reckon_58 h (fun v5 h => ?_)
    cases h
    exact hret _ _ _ dX12_reckon_59 rfl rfl
  rcases ite_cs h with ⟨c6, h⟩ | ⟨c6, h⟩
  · refine g_tabHit (pc := 1) (tgt := 60) C 6 c6 dX12_reckon_1 (by decide) (by decide) rfl (by decide) ?_
    refine g_iload_n (pc := 60) C dX12_reckon_60 rfl 1 rfl ?_
    refine g_iload_n (pc := 61) C dX12_reckon_61 rfl 2 rfl ?_
    refine g_irem (pc := 62) C dX12_reckon_62 h (fun v7 h => ?_)
    cases h
    exact hret _ _ _ dX12_reckon_63 rfl rfl
  rcases ite_cs h with ⟨c8, h⟩ | ⟨c8, h⟩
  · refine g_tabHit (pc := 1) (tgt := 64) C 7 c8 dX12_reckon_1 (by decide) (by decide) rfl (by decide) ?_
    refine g_iload_n (pc := 64) C dX12_reckon_64 rfl 1 rfl ?_
    refine g_iload_n (pc := 65) C dX12_reckon_65 rfl 2 rfl ?_
    refine g_icmp_ge (pc := 66) (tgt := 73) C dX12_reckon_66 (by decide) h (fun h => ?_) (fun h => ?_)
    · refine g_iconst (pc := 73) (v := 0) C dX12_reckon_73 (by decide) ?_
      cases h
      exact hret _ _ _ dX12_reckon_74 rfl rfl
    · refine g_iconst (pc := 69) (v := 1) C dX12_reckon_69 (by decide) ?_
      refine g_goto (pc := 70) (tgt := 74) C dX12_reckon_70 (by decide) ?_
      cases h
      exact hret _ _ _ dX12_reckon_74 rfl rfl
  rcases ite_cs h with ⟨c9, h⟩ | ⟨c9, h⟩
  · refine g_tabHit (pc := 1) (tgt := 75) C 8 c9 dX12_reckon_1 (by decide) (by decide) rfl (by decide) ?_
    refine g_iload_n (pc := 75) C dX12_reckon_75 rfl 1 rfl ?_
    refine g_iload_n (pc := 76) C dX12_reckon_76 rfl 2 rfl ?_
    refine g_icmp_le (pc := 77) (tgt := 84) C dX12_reckon_77 (by decide) h (fun h => ?_) (fun h => ?_)
    · refine g_iconst (pc := 84) (v := 0) C dX12_reckon_84 (by decide) ?_
      cases h
      exact hret _ _ _ dX12_reckon_85 rfl rfl
    · refine g_iconst (pc := 80) (v := 1) C dX12_reckon_80 (by decide) ?_
      refine g_goto (pc := 81) (tgt := 85) C dX12_reckon_81 (by decide) ?_
      cases h
      exact hret _ _ _ dX12_reckon_85 rfl rfl
  have nc1 := lv_neT c1 (a := 2) rfl
  have nc2 := lv_neT c2 (a := 3) rfl
  have nc3 := lv_neT c3 (a := 4) rfl
  have nc4 := lv_neT c4 (a := 5) rfl
  have nc6 := lv_neT c6 (a := 6) rfl
  have nc8 := lv_neT c8 (a := 7) rfl
  have nc9 := lv_neT c9 (a := 8) rfl
  refine g_tabMiss (pc := 1) (tgt := 86) C dX12_reckon_1 (by omega) (by decide) ?_
  refine g_iload_n (pc := 86) C dX12_reckon_86 rfl 1 rfl ?_
  refine g_iload_n (pc := 87) C dX12_reckon_87 rfl 2 rfl ?_
  refine g_icmp_ne (pc := 88) (tgt := 95) C dX12_reckon_88 (by decide) h (fun h => ?_) (fun h => ?_)
  · refine g_iconst (pc := 95) (v := 0) C dX12_reckon_95 (by decide) ?_
    cases h
    exact hret _ _ _ dX12_reckon_96 rfl rfl
  · refine g_iconst (pc := 91) (v := 1) C dX12_reckon_91 (by decide) ?_
    refine g_goto (pc := 92) (tgt := 96) C dX12_reckon_92 (by decide) ?_
    cases h
    exact hret _ _ _ dX12_reckon_96 rfl rfl
abbrev W_X12_sevenTo (E : GE) : va_W := []
def L_X12_sevenTo_4 (x0 : Int32) : Nat → Int32 × Int32 → Option (Int32) := lp fun go s => if x0 ≤ s.2 then (some s.1) else nm (s.1 * (7 : Int32)) fun v1 => nm (s.2 + (1 : Int32)) fun v2 => go (v1, v2)
def f_X12_sevenTo (x0 : Int32) : Option (Int32) := L_X12_sevenTo_4 x0 fu ((1 : Int32), (0 : Int32))
theorem dX12_sevenTo_0 : decode cX12_sevenTo 0 = .ok (.iconst 1, 1) := by decide +kernel
theorem dX12_sevenTo_1 : decode cX12_sevenTo 1 = .ok (.istore_n 1, 1) := by decide +kernel
theorem dX12_sevenTo_2 : decode cX12_sevenTo 2 = .ok (.iconst 0, 1) := by decide +kernel
theorem dX12_sevenTo_3 : decode cX12_sevenTo 3 = .ok (.istore_n 2, 1) := by decide +kernel
theorem dX12_sevenTo_4 : decode cX12_sevenTo 4 = .ok (.iload_n 2, 1) := by decide +kernel
theorem dX12_sevenTo_5 : decode cX12_sevenTo 5 = .ok (.iload_n 0, 1) := by decide +kernel
theorem dX12_sevenTo_6 : decode cX12_sevenTo 6 = .ok (.if_icmp .ge 14, 3) := by decide +kernel
theorem dX12_sevenTo_9 : decode cX12_sevenTo 9 = .ok (.iload_n 1, 1) := by decide +kernel
theorem dX12_sevenTo_10 : decode cX12_sevenTo 10 = .ok (.bipush 7, 2) := by decide +kernel
theorem dX12_sevenTo_12 : decode cX12_sevenTo 12 = .ok (.imul, 1) := by decide +kernel
theorem dX12_sevenTo_13 : decode cX12_sevenTo 13 = .ok (.istore_n 1, 1) := by decide +kernel
theorem dX12_sevenTo_14 : decode cX12_sevenTo 14 = .ok (.iinc 2 1, 3) := by decide +kernel
theorem dX12_sevenTo_17 : decode cX12_sevenTo 17 = .ok (.goto (-13), 3) := by decide +kernel
theorem dX12_sevenTo_20 : decode cX12_sevenTo 20 = .ok (.iload_n 1, 1) := by decide +kernel
theorem dX12_sevenTo_21 : decode cX12_sevenTo 21 = .ok (.ireturn, 1) := by decide +kernel
set_option maxHeartbeats 4000000 in
set_option maxRecDepth 100000 in
theorem kL_X12_sevenTo_4 {X : GC} {E : GE} (C : Cx X E cX12_sevenTo RX12 1 3) (x0 : Int32) {r : Int32} (hret : RtI X E cX12_sevenTo .int 0 0 (fun w => w = (W_X12_sevenTo E)) r) : ∀ (n : Nat) (s : Int32 × Int32), L_X12_sevenTo_4 x0 n s = some r → Gx X E 0 0 (W_X12_sevenTo E) 4 [(0, .int x0), (1, .int s.1), (2, .int s.2)] [] := by
  unfold L_X12_sevenTo_4
  refine lp_ind _ (fun go ih s h => ?_)
  refine g_iload_n (pc := 4) C dX12_sevenTo_4 rfl 2 rfl ?_
  refine g_iload_n (pc := 5) C dX12_sevenTo_5 rfl 0 rfl ?_
  refine g_icmp_ge (pc := 6) (tgt := 20) C dX12_sevenTo_6 (by decide) h (fun h => ?_) (fun h => ?_)
  · refine g_iload_n (pc := 20) C dX12_sevenTo_20 rfl 1 rfl ?_
    cases h
    exact hret _ _ _ dX12_sevenTo_21 rfl rfl
  · refine g_iload_n (pc := 9) C dX12_sevenTo_9 rfl 1 rfl ?_
    refine g_bipush (pc := 10) (v := 7) C dX12_sevenTo_10 (by decide) ?_
    refine g_imul (pc := 12) C dX12_sevenTo_12 ?_
    refine g_nm h (fun v1 h => ?_)
    refine g_istore_n (pc := 13) (lv' := [(1, .int v1), (0, .int x0), (2, .int s.2)]) C dX12_sevenTo_13 rfl (by decide) rfl ?_
    refine g_iincn (pc := 14) (j := 2) (d := 1) (lv' := fun v2 => [(2, .int v2), (1, .int v1), (0, .int x0)]) C dX12_sevenTo_14 rfl (by decide) (by decide) (fun _ => rfl) h (fun v2 h => ?_)
    refine g_goto (pc := 17) (tgt := 4) C dX12_sevenTo_17 (by decide) ?_
    refine g_sub [2, 1, 0] rfl ?_
    exact ih _ h
set_option maxHeartbeats 4000000 in
set_option maxRecDepth 100000 in
theorem c_X12_sevenTo (l : Launch) (E : GE) (x0 : Int32) (r : Int32) (h : f_X12_sevenTo x0 = some r) : Cn l E yX12_sevenTo cX12_sevenTo 3 (some .int) 1 0 0 [.int x0] (W_X12_sevenTo E) (fun w => w = (W_X12_sevenTo E)) (some (.int r)) := by
  refine Cn.ofI (by decide +kernel) (Nat.le_of_ble_eq_true rfl) (fun X hX hR C hret => ?_)
  subst hX
  show Gx X E 0 0 (W_X12_sevenTo E) 0 [(0, .int x0)] []
  unfold f_X12_sevenTo at h
  refine g_iconst (pc := 0) (v := 1) C dX12_sevenTo_0 (by decide) ?_
  refine g_istore_n (pc := 1) (lv' := [(1, .int (1 : Int32)), (0, .int x0)]) C dX12_sevenTo_1 rfl (by decide) rfl ?_
  refine g_iconst (pc := 2) (v := 0) C dX12_sevenTo_2 (by decide) ?_
  refine g_istore_n (pc := 3) (lv' := [(2, .int (0 : Int32)), (1, .int (1 : Int32)), (0, .int x0)]) C dX12_sevenTo_3 rfl (by decide) rfl ?_
  refine g_sub [2, 1, 0] rfl ?_
  refine kL_X12_sevenTo_4 C x0 hret  _ _ h
abbrev W_X12_size (E : GE) : va_W := []
def f_X12_size (x0 : Int32) : Option (Int32) := if 0 ≤ x0 then (some x0) else some (-x0)
theorem dX12_size_0 : decode cX12_size 0 = .ok (.iload_n 0, 1) := by decide +kernel
theorem dX12_size_1 : decode cX12_size 1 = .ok (.ifCond .ge 8, 3) := by decide +kernel
theorem dX12_size_4 : decode cX12_size 4 = .ok (.iload_n 0, 1) := by decide +kernel
theorem dX12_size_5 : decode cX12_size 5 = .ok (.ineg, 1) := by decide +kernel
theorem dX12_size_6 : decode cX12_size 6 = .ok (.goto 4, 3) := by decide +kernel
theorem dX12_size_9 : decode cX12_size 9 = .ok (.iload_n 0, 1) := by decide +kernel
theorem dX12_size_10 : decode cX12_size 10 = .ok (.ireturn, 1) := by decide +kernel
set_option maxHeartbeats 4000000 in
set_option maxRecDepth 100000 in
theorem c_X12_size (l : Launch) (E : GE) (x0 : Int32) (r : Int32) (h : f_X12_size x0 = some r) : Cn l E yX12_size cX12_size 1 (some .int) 1 0 0 [.int x0] (W_X12_size E) (fun w => w = (W_X12_size E)) (some (.int r)) := by
  refine Cn.ofI (by decide +kernel) (Nat.le_of_ble_eq_true rfl) (fun X hX hR C hret => ?_)
  subst hX
  show Gx X E 0 0 (W_X12_size E) 0 [(0, .int x0)] []
  unfold f_X12_size at h
  refine g_iload_n (pc := 0) C dX12_size_0 rfl 0 rfl ?_
  refine g_if_ge (pc := 1) (tgt := 9) C dX12_size_1 (by decide) h (fun h => ?_) (fun h => ?_)
  · refine g_iload_n (pc := 9) C dX12_size_9 rfl 0 rfl ?_
    cases h
    exact hret _ _ _ dX12_size_10 rfl rfl
  · refine g_iload_n (pc := 4) C dX12_size_4 rfl 0 rfl ?_
    refine g_ineg (pc := 5) C dX12_size_5 ?_
    refine g_goto (pc := 6) (tgt := 10) C dX12_size_6 (by decide) ?_
    cases h
    exact hret _ _ _ dX12_size_10 rfl rfl
abbrev W_X12_sumSign (E : GE) : va_W := []
def f_X12_sumSign (x0 : Int32) : Option (Int32) := if x0 = (43 : Int32) then (some (2 : Int32)) else if x0 = (45 : Int32) then (some (3 : Int32)) else if x0 = (42 : Int32) then (some (4 : Int32)) else if x0 = (47 : Int32) then (some (5 : Int32)) else if x0 = (37 : Int32) then (some (6 : Int32)) else some (-1 : Int32)
theorem dX12_sumSign_0 : decode cX12_sumSign 0 = .ok (.iload_n 0, 1) := by decide +kernel
theorem dX12_sumSign_1 : decode cX12_sumSign 1 = .ok (.bipush 43, 2) := by decide +kernel
theorem dX12_sumSign_3 : decode cX12_sumSign 3 = .ok (.if_icmp .ne 7, 3) := by decide +kernel
theorem dX12_sumSign_6 : decode cX12_sumSign 6 = .ok (.iconst 2, 1) := by decide +kernel
theorem dX12_sumSign_7 : decode cX12_sumSign 7 = .ok (.goto 45, 3) := by decide +kernel
theorem dX12_sumSign_10 : decode cX12_sumSign 10 = .ok (.iload_n 0, 1) := by decide +kernel
theorem dX12_sumSign_11 : decode cX12_sumSign 11 = .ok (.bipush 45, 2) := by decide +kernel
theorem dX12_sumSign_13 : decode cX12_sumSign 13 = .ok (.if_icmp .ne 7, 3) := by decide +kernel
theorem dX12_sumSign_16 : decode cX12_sumSign 16 = .ok (.iconst 3, 1) := by decide +kernel
theorem dX12_sumSign_17 : decode cX12_sumSign 17 = .ok (.goto 35, 3) := by decide +kernel
theorem dX12_sumSign_20 : decode cX12_sumSign 20 = .ok (.iload_n 0, 1) := by decide +kernel
theorem dX12_sumSign_21 : decode cX12_sumSign 21 = .ok (.bipush 42, 2) := by decide +kernel
theorem dX12_sumSign_23 : decode cX12_sumSign 23 = .ok (.if_icmp .ne 7, 3) := by decide +kernel
theorem dX12_sumSign_26 : decode cX12_sumSign 26 = .ok (.iconst 4, 1) := by decide +kernel
theorem dX12_sumSign_27 : decode cX12_sumSign 27 = .ok (.goto 25, 3) := by decide +kernel
theorem dX12_sumSign_30 : decode cX12_sumSign 30 = .ok (.iload_n 0, 1) := by decide +kernel
theorem dX12_sumSign_31 : decode cX12_sumSign 31 = .ok (.bipush 47, 2) := by decide +kernel
theorem dX12_sumSign_33 : decode cX12_sumSign 33 = .ok (.if_icmp .ne 7, 3) := by decide +kernel
theorem dX12_sumSign_36 : decode cX12_sumSign 36 = .ok (.iconst 5, 1) := by decide +kernel
theorem dX12_sumSign_37 : decode cX12_sumSign 37 = .ok (.goto 15, 3) := by decide +kernel
theorem dX12_sumSign_40 : decode cX12_sumSign 40 = .ok (.iload_n 0, 1) := by decide +kernel
theorem dX12_sumSign_41 : decode cX12_sumSign 41 = .ok (.bipush 37, 2) := by decide +kernel
theorem dX12_sumSign_43 : decode cX12_sumSign 43 = .ok (.if_icmp .ne 8, 3) := by decide +kernel
theorem dX12_sumSign_46 : decode cX12_sumSign 46 = .ok (.bipush 6, 2) := by decide +kernel
theorem dX12_sumSign_48 : decode cX12_sumSign 48 = .ok (.goto 4, 3) := by decide +kernel
theorem dX12_sumSign_51 : decode cX12_sumSign 51 = .ok (.iconst (-1), 1) := by decide +kernel
theorem dX12_sumSign_52 : decode cX12_sumSign 52 = .ok (.ireturn, 1) := by decide +kernel
set_option maxHeartbeats 4000000 in
set_option maxRecDepth 100000 in
theorem c_X12_sumSign (l : Launch) (E : GE) (x0 : Int32) (r : Int32) (h : f_X12_sumSign x0 = some r) : Cn l E yX12_sumSign cX12_sumSign 1 (some .int) 1 0 0 [.int x0] (W_X12_sumSign E) (fun w => w = (W_X12_sumSign E)) (some (.int r)) := by
  refine Cn.ofI (by decide +kernel) (Nat.le_of_ble_eq_true rfl) (fun X hX hR C hret => ?_)
  subst hX
  show Gx X E 0 0 (W_X12_sumSign E) 0 [(0, .int x0)] []
  unfold f_X12_sumSign at h
  refine g_iload_n (pc := 0) C dX12_sumSign_0 rfl 0 rfl ?_
  refine g_bipush (pc := 1) (v := 43) C dX12_sumSign_1 (by decide) ?_
  refine g_icmp_ne (pc := 3) (tgt := 10) C dX12_sumSign_3 (by decide) h (fun h => ?_) (fun h => ?_)
  · refine g_iload_n (pc := 10) C dX12_sumSign_10 rfl 0 rfl ?_
    refine g_bipush (pc := 11) (v := 45) C dX12_sumSign_11 (by decide) ?_
    refine g_icmp_ne (pc := 13) (tgt := 20) C dX12_sumSign_13 (by decide) h (fun h => ?_) (fun h => ?_)
    · refine g_iload_n (pc := 20) C dX12_sumSign_20 rfl 0 rfl ?_
      refine g_bipush (pc := 21) (v := 42) C dX12_sumSign_21 (by decide) ?_
      refine g_icmp_ne (pc := 23) (tgt := 30) C dX12_sumSign_23 (by decide) h (fun h => ?_) (fun h => ?_)
      · refine g_iload_n (pc := 30) C dX12_sumSign_30 rfl 0 rfl ?_
        refine g_bipush (pc := 31) (v := 47) C dX12_sumSign_31 (by decide) ?_
        refine g_icmp_ne (pc := 33) (tgt := 40) C dX12_sumSign_33 (by decide) h (fun h => ?_) (fun h => ?_)
        · refine g_iload_n (pc := 40) C dX12_sumSign_40 rfl 0 rfl ?_
          refine g_bipush (pc := 41) (v := 37) C dX12_sumSign_41 (by decide) ?_
          refine g_icmp_ne (pc := 43) (tgt := 51) C dX12_sumSign_43 (by decide) h (fun h => ?_) (fun h => ?_)
          · refine g_iconst (pc := 51) (v := -1) C dX12_sumSign_51 (by decide) ?_
            cases h
            exact hret _ _ _ dX12_sumSign_52 rfl rfl
          · refine g_bipush (pc := 46) (v := 6) C dX12_sumSign_46 (by decide) ?_
            refine g_goto (pc := 48) (tgt := 52) C dX12_sumSign_48 (by decide) ?_
            cases h
            exact hret _ _ _ dX12_sumSign_52 rfl rfl
        · refine g_iconst (pc := 36) (v := 5) C dX12_sumSign_36 (by decide) ?_
          refine g_goto (pc := 37) (tgt := 52) C dX12_sumSign_37 (by decide) ?_
          cases h
          exact hret _ _ _ dX12_sumSign_52 rfl rfl
      · refine g_iconst (pc := 26) (v := 4) C dX12_sumSign_26 (by decide) ?_
        refine g_goto (pc := 27) (tgt := 52) C dX12_sumSign_27 (by decide) ?_
        cases h
        exact hret _ _ _ dX12_sumSign_52 rfl rfl
    · refine g_iconst (pc := 16) (v := 3) C dX12_sumSign_16 (by decide) ?_
      refine g_goto (pc := 17) (tgt := 52) C dX12_sumSign_17 (by decide) ?_
      cases h
      exact hret _ _ _ dX12_sumSign_52 rfl rfl
  · refine g_iconst (pc := 6) (v := 2) C dX12_sumSign_6 (by decide) ?_
    refine g_goto (pc := 7) (tgt := 52) C dX12_sumSign_7 (by decide) ?_
    cases h
    exact hret _ _ _ dX12_sumSign_52 rfl rfl
abbrev W_X12_types (E : GE) (O_t : Nat) (a_t : Nat → Nat) (t_toldDoors : Int32) (t_barredDoors : Int32) (t_taped : Int32) (t_place0 : Int32) (t_length0 : Int32) (t_fault : Int32) (t_number0 : Int32) (t_open : Int32) (t_codeMany : Int32) (t_waiting : Int32) (t_saidMany : Int32) (t_clauses : Int32) (t_newMany : Int32) (t_rounds : Int32) (t_pinFrom : Int32) (t_pinTimes : Int32) (t_lines : Int32) (t_wasTold : Int32) (t_wasBarred : Int32) (t_goesNow : Int32) (t_jamsNow : Int32) (t_queued : Int32) (t_isKept : Int32) (t_tape : (Nat → Int32)) : va_W := [(O_t, ob_X12 a_t t_toldDoors t_barredDoors t_taped t_place0 t_length0 t_fault t_number0 t_open t_codeMany t_waiting t_saidMany t_clauses t_newMany t_rounds t_pinFrom t_pinTimes t_lines t_wasTold t_wasBarred t_goesNow t_jamsNow t_queued t_isKept), (a_t 13, .inl (E.2.2.1, 260, .inl t_tape))]
def L_X12_types_2 (x1 : Int32) : Nat → Int32 × Int32 × (Nat → Int32) → Option (Int32 × (Nat → Int32)) := lp fun go s => if s.1 < 0 then (some (s.2.1, s.2.2)) else wr s.2.2 260 s.2.1 (vp_nar .byte ((x1 >>> (((8 : Int32) * s.1) &&& 31))).toInt8.toInt32) fun g1 => nm (s.2.1 + (1 : Int32)) fun v2 => nm (s.1 + (-1 : Int32)) fun v3 => go (v3, v2, g1)
def f_X12_types (t_taped : Int32) (t_tape : (Nat → Int32)) (x1 : Int32) : Option (Int32 × (Nat → Int32)) := L_X12_types_2 x1 fu ((3 : Int32), t_taped, t_tape)
theorem dX12_types_0 : decode cX12_types 0 = .ok (.iconst 3, 1) := by decide +kernel
theorem dX12_types_1 : decode cX12_types 1 = .ok (.istore_n 2, 1) := by decide +kernel
theorem dX12_types_2 : decode cX12_types 2 = .ok (.iload_n 2, 1) := by decide +kernel
theorem dX12_types_3 : decode cX12_types 3 = .ok (.ifCond .lt 35, 3) := by decide +kernel
theorem dX12_types_6 : decode cX12_types 6 = .ok (.aload_n 0, 1) := by decide +kernel
theorem dX12_types_7 : decode cX12_types 7 = .ok (.getfield 43, 3) := by decide +kernel
theorem dX12_types_10 : decode cX12_types 10 = .ok (.aload_n 0, 1) := by decide +kernel
theorem dX12_types_11 : decode cX12_types 11 = .ok (.getfield 139, 3) := by decide +kernel
theorem dX12_types_14 : decode cX12_types 14 = .ok (.iload_n 1, 1) := by decide +kernel
theorem dX12_types_15 : decode cX12_types 15 = .ok (.bipush 8, 2) := by decide +kernel
theorem dX12_types_17 : decode cX12_types 17 = .ok (.iload_n 2, 1) := by decide +kernel
theorem dX12_types_18 : decode cX12_types 18 = .ok (.imul, 1) := by decide +kernel
theorem dX12_types_19 : decode cX12_types 19 = .ok (.ishr, 1) := by decide +kernel
theorem dX12_types_20 : decode cX12_types 20 = .ok (.i2b, 1) := by decide +kernel
theorem dX12_types_21 : decode cX12_types 21 = .ok (.bastore, 1) := by decide +kernel
theorem dX12_types_22 : decode cX12_types 22 = .ok (.aload_n 0, 1) := by decide +kernel
theorem dX12_types_23 : decode cX12_types 23 = .ok (.aload_n 0, 1) := by decide +kernel
theorem dX12_types_24 : decode cX12_types 24 = .ok (.getfield 139, 3) := by decide +kernel
theorem dX12_types_27 : decode cX12_types 27 = .ok (.iconst 1, 1) := by decide +kernel
theorem dX12_types_28 : decode cX12_types 28 = .ok (.iadd, 1) := by decide +kernel
theorem dX12_types_29 : decode cX12_types 29 = .ok (.putfield 139, 3) := by decide +kernel
theorem dX12_types_32 : decode cX12_types 32 = .ok (.iinc 2 (-1), 3) := by decide +kernel
theorem dX12_types_35 : decode cX12_types 35 = .ok (.goto (-33), 3) := by decide +kernel
theorem dX12_types_38 : decode cX12_types 38 = .ok (.return_, 1) := by decide +kernel
set_option maxHeartbeats 4000000 in
set_option maxRecDepth 100000 in
theorem kL_X12_types_2 {X : GC} {E : GE} (C : Cx X E cX12_types RX12 1 3) (o_t : Nat) (a_t : Nat → Nat) (t_toldDoors : Int32) (t_barredDoors : Int32) (t_place0 : Int32) (t_length0 : Int32) (t_fault : Int32) (t_number0 : Int32) (t_open : Int32) (t_codeMany : Int32) (t_waiting : Int32) (t_saidMany : Int32) (t_clauses : Int32) (t_newMany : Int32) (t_rounds : Int32) (t_pinFrom : Int32) (t_pinTimes : Int32) (t_lines : Int32) (t_wasTold : Int32) (t_wasBarred : Int32) (t_goesNow : Int32) (t_jamsNow : Int32) (t_queued : Int32) (t_isKept : Int32) (x1 : Int32) {r : Int32 × (Nat → Int32)} (hret : RtV X E cX12_types 0 0 (fun w => w = (W_X12_types E o_t a_t t_toldDoors t_barredDoors r.1 t_place0 t_length0 t_fault t_number0 t_open t_codeMany t_waiting t_saidMany t_clauses t_newMany t_rounds t_pinFrom t_pinTimes t_lines t_wasTold t_wasBarred t_goesNow t_jamsNow t_queued t_isKept r.2))) : ∀ (n : Nat) (s : Int32 × Int32 × (Nat → Int32)), L_X12_types_2 x1 n s = some r → Gx X E 0 0 (W_X12_types E o_t a_t t_toldDoors t_barredDoors s.2.1 t_place0 t_length0 t_fault t_number0 t_open t_codeMany t_waiting t_saidMany t_clauses t_newMany t_rounds t_pinFrom t_pinTimes t_lines t_wasTold t_wasBarred t_goesNow t_jamsNow t_queued t_isKept s.2.2) 2 [(0, .ref o_t), (1, .int x1), (2, .int s.1)] [] := by
  unfold L_X12_types_2
  refine lp_ind _ (fun go ih s h => ?_)
  refine g_iload_n (pc := 2) C dX12_types_2 rfl 2 rfl ?_
  refine g_if_lt (pc := 3) (tgt := 38) C dX12_types_3 (by decide) h (fun h => ?_) (fun h => ?_)
  · cases h
    exact hret _ _ _ dX12_types_38 rfl
  · refine g_aload_n (pc := 6) C dX12_types_6 rfl 0 rfl ?_
    refine g_get (pc := 7) C fl_X12_43 dX12_types_7 0 rfl rfl ?_
    refine g_aload_n (pc := 10) C dX12_types_10 rfl 0 rfl ?_
    refine g_get (pc := 11) C fl_X12_139 dX12_types_11 0 rfl rfl ?_
    refine g_iload_n (pc := 14) C dX12_types_14 rfl 1 rfl ?_
    refine g_bipush (pc := 15) (v := 8) C dX12_types_15 (by decide) ?_
    refine g_iload_n (pc := 17) C dX12_types_17 rfl 2 rfl ?_
    refine g_imul (pc := 18) C dX12_types_18 ?_
    refine g_ishr (pc := 19) C dX12_types_19 ?_
    refine g_i2b (pc := 20) C dX12_types_20 ?_
    refine g_bast (pc := 21) C dX12_types_21 1 rfl h (fun g1 h => ?_)
    refine g_ws (ws' := (W_X12_types E o_t a_t t_toldDoors t_barredDoors s.2.1 t_place0 t_length0 t_fault t_number0 t_open t_codeMany t_waiting t_saidMany t_clauses t_newMany t_rounds t_pinFrom t_pinTimes t_lines t_wasTold t_wasBarred t_goesNow t_jamsNow t_queued t_isKept g1)) rfl ?_
    refine g_aload_n (pc := 22) C dX12_types_22 rfl 0 rfl ?_
    refine g_aload_n (pc := 23) C dX12_types_23 rfl 0 rfl ?_
    refine g_get (pc := 24) C fl_X12_139 dX12_types_24 0 rfl rfl ?_
    refine g_iconst (pc := 27) (v := 1) C dX12_types_27 (by decide) ?_
    refine g_iadd (pc := 28) C dX12_types_28 ?_
    refine g_nm h (fun v2 h => ?_)
    refine g_put (pc := 29) (ws' := (W_X12_types E o_t a_t t_toldDoors t_barredDoors v2 t_place0 t_length0 t_fault t_number0 t_open t_codeMany t_waiting t_saidMany t_clauses t_newMany t_rounds t_pinFrom t_pinTimes t_lines t_wasTold t_wasBarred t_goesNow t_jamsNow t_queued t_isKept g1)) C .int fl_X12_139 dX12_types_29 0 rfl (by decide +kernel) rfl rfl (Nat.le_of_ble_eq_true rfl) rfl ?_
    refine g_iincn (pc := 32) (j := 2) (d := -1) (lv' := fun v3 => [(2, .int v3), (0, .ref o_t), (1, .int x1)]) C dX12_types_32 rfl (by decide) (by decide) (fun _ => rfl) h (fun v3 h => ?_)
    refine g_goto (pc := 35) (tgt := 2) C dX12_types_35 (by decide) ?_
    refine g_sub [1, 2, 0] rfl ?_
    exact ih _ h
set_option maxHeartbeats 4000000 in
set_option maxRecDepth 100000 in
theorem c_X12_types (l : Launch) (E : GE) (o_t : Nat) (a_t : Nat → Nat) (t_toldDoors : Int32) (t_barredDoors : Int32) (t_taped : Int32) (t_place0 : Int32) (t_length0 : Int32) (t_fault : Int32) (t_number0 : Int32) (t_open : Int32) (t_codeMany : Int32) (t_waiting : Int32) (t_saidMany : Int32) (t_clauses : Int32) (t_newMany : Int32) (t_rounds : Int32) (t_pinFrom : Int32) (t_pinTimes : Int32) (t_lines : Int32) (t_wasTold : Int32) (t_wasBarred : Int32) (t_goesNow : Int32) (t_jamsNow : Int32) (t_queued : Int32) (t_isKept : Int32) (t_tape : (Nat → Int32)) (x1 : Int32) (r : Int32 × (Nat → Int32)) (h : f_X12_types t_taped t_tape x1 = some r) : Cn l E yX12_types cX12_types 3 none 1 0 0 [.ref o_t, .int x1] (W_X12_types E o_t a_t t_toldDoors t_barredDoors t_taped t_place0 t_length0 t_fault t_number0 t_open t_codeMany t_waiting t_saidMany t_clauses t_newMany t_rounds t_pinFrom t_pinTimes t_lines t_wasTold t_wasBarred t_goesNow t_jamsNow t_queued t_isKept t_tape) (fun w => w = (W_X12_types E o_t a_t t_toldDoors t_barredDoors r.1 t_place0 t_length0 t_fault t_number0 t_open t_codeMany t_waiting t_saidMany t_clauses t_newMany t_rounds t_pinFrom t_pinTimes t_lines t_wasTold t_wasBarred t_goesNow t_jamsNow t_queued t_isKept r.2)) none := by
  refine Cn.ofV (by decide +kernel) (Nat.le_of_ble_eq_true rfl) (fun X hX hR C hret => ?_)
  subst hX
  show Gx X E 0 0 (W_X12_types E o_t a_t t_toldDoors t_barredDoors t_taped t_place0 t_length0 t_fault t_number0 t_open t_codeMany t_waiting t_saidMany t_clauses t_newMany t_rounds t_pinFrom t_pinTimes t_lines t_wasTold t_wasBarred t_goesNow t_jamsNow t_queued t_isKept t_tape) 0 [(0, .ref o_t), (1, .int x1)] []
  unfold f_X12_types at h
  refine g_iconst (pc := 0) (v := 3) C dX12_types_0 (by decide) ?_
  refine g_istore_n (pc := 1) (lv' := [(2, .int (3 : Int32)), (0, .ref o_t), (1, .int x1)]) C dX12_types_1 rfl (by decide) rfl ?_
  refine g_sub [1, 2, 0] rfl ?_
  refine kL_X12_types_2 C o_t a_t t_toldDoors t_barredDoors t_place0 t_length0 t_fault t_number0 t_open t_codeMany t_waiting t_saidMany t_clauses t_newMany t_rounds t_pinFrom t_pinTimes t_lines t_wasTold t_wasBarred t_goesNow t_jamsNow t_queued t_isKept x1 hret  _ _ h
abbrev W_X12_waitTop (E : GE) (O_t : Nat) (a_t : Nat → Nat) (t_toldDoors : Int32) (t_barredDoors : Int32) (t_taped : Int32) (t_place0 : Int32) (t_length0 : Int32) (t_fault : Int32) (t_number0 : Int32) (t_open : Int32) (t_codeMany : Int32) (t_waiting : Int32) (t_saidMany : Int32) (t_clauses : Int32) (t_newMany : Int32) (t_rounds : Int32) (t_pinFrom : Int32) (t_pinTimes : Int32) (t_lines : Int32) (t_wasTold : Int32) (t_wasBarred : Int32) (t_goesNow : Int32) (t_jamsNow : Int32) (t_queued : Int32) (t_isKept : Int32) (t_waitsAt : (Nat → Int32)) : va_W := [(O_t, ob_X12 a_t t_toldDoors t_barredDoors t_taped t_place0 t_length0 t_fault t_number0 t_open t_codeMany t_waiting t_saidMany t_clauses t_newMany t_rounds t_pinFrom t_pinTimes t_lines t_wasTold t_wasBarred t_goesNow t_jamsNow t_queued t_isKept), (a_t 25, .inl (E.2.1, 260, .inl t_waitsAt))]
def f_X12_waitTop (t_waiting : Int32) (t_waitsAt : (Nat → Int32)) : Option (Int32) := if t_waiting = 0 then (some (-1 : Int32)) else rd t_waitsAt 260 (t_waiting - (1 : Int32)) fun v1 => dv v1 (1048576 : Int32) fun v2 => some v2
theorem dX12_waitTop_0 : decode cX12_waitTop 0 = .ok (.aload_n 0, 1) := by decide +kernel
theorem dX12_waitTop_1 : decode cX12_waitTop 1 = .ok (.getfield 176, 3) := by decide +kernel
theorem dX12_waitTop_4 : decode cX12_waitTop 4 = .ok (.ifCond .ne 7, 3) := by decide +kernel
theorem dX12_waitTop_7 : decode cX12_waitTop 7 = .ok (.iconst (-1), 1) := by decide +kernel
theorem dX12_waitTop_8 : decode cX12_waitTop 8 = .ok (.goto 17, 3) := by decide +kernel
theorem dX12_waitTop_11 : decode cX12_waitTop 11 = .ok (.aload_n 0, 1) := by decide +kernel
theorem dX12_waitTop_12 : decode cX12_waitTop 12 = .ok (.getfield 50, 3) := by decide +kernel
theorem dX12_waitTop_15 : decode cX12_waitTop 15 = .ok (.aload_n 0, 1) := by decide +kernel
theorem dX12_waitTop_16 : decode cX12_waitTop 16 = .ok (.getfield 176, 3) := by decide +kernel
theorem dX12_waitTop_19 : decode cX12_waitTop 19 = .ok (.iconst 1, 1) := by decide +kernel
theorem dX12_waitTop_20 : decode cX12_waitTop 20 = .ok (.isub, 1) := by decide +kernel
theorem dX12_waitTop_21 : decode cX12_waitTop 21 = .ok (.iaload, 1) := by decide +kernel
theorem dX12_waitTop_22 : decode cX12_waitTop 22 = .ok (.ldc 172, 2) := by decide +kernel
theorem dX12_waitTop_24 : decode cX12_waitTop 24 = .ok (.idiv, 1) := by decide +kernel
theorem dX12_waitTop_25 : decode cX12_waitTop 25 = .ok (.ireturn, 1) := by decide +kernel
set_option maxHeartbeats 4000000 in
set_option maxRecDepth 100000 in
theorem c_X12_waitTop (l : Launch) (E : GE) (o_t : Nat) (a_t : Nat → Nat) (t_toldDoors : Int32) (t_barredDoors : Int32) (t_taped : Int32) (t_place0 : Int32) (t_length0 : Int32) (t_fault : Int32) (t_number0 : Int32) (t_open : Int32) (t_codeMany : Int32) (t_waiting : Int32) (t_saidMany : Int32) (t_clauses : Int32) (t_newMany : Int32) (t_rounds : Int32) (t_pinFrom : Int32) (t_pinTimes : Int32) (t_lines : Int32) (t_wasTold : Int32) (t_wasBarred : Int32) (t_goesNow : Int32) (t_jamsNow : Int32) (t_queued : Int32) (t_isKept : Int32) (t_waitsAt : (Nat → Int32)) (r : Int32) (h : f_X12_waitTop t_waiting t_waitsAt = some r) : Cn l E yX12_waitTop cX12_waitTop 1 (some .int) 1 0 0 [.ref o_t] (W_X12_waitTop E o_t a_t t_toldDoors t_barredDoors t_taped t_place0 t_length0 t_fault t_number0 t_open t_codeMany t_waiting t_saidMany t_clauses t_newMany t_rounds t_pinFrom t_pinTimes t_lines t_wasTold t_wasBarred t_goesNow t_jamsNow t_queued t_isKept t_waitsAt) (fun w => w = (W_X12_waitTop E o_t a_t t_toldDoors t_barredDoors t_taped t_place0 t_length0 t_fault t_number0 t_open t_codeMany t_waiting t_saidMany t_clauses t_newMany t_rounds t_pinFrom t_pinTimes t_lines t_wasTold t_wasBarred t_goesNow t_jamsNow t_queued t_isKept t_waitsAt)) (some (.int r)) := by
  refine Cn.ofI (by decide +kernel) (Nat.le_of_ble_eq_true rfl) (fun X hX hR C hret => ?_)
  subst hX
  show Gx X E 0 0 (W_X12_waitTop E o_t a_t t_toldDoors t_barredDoors t_taped t_place0 t_length0 t_fault t_number0 t_open t_codeMany t_waiting t_saidMany t_clauses t_newMany t_rounds t_pinFrom t_pinTimes t_lines t_wasTold t_wasBarred t_goesNow t_jamsNow t_queued t_isKept t_waitsAt) 0 [(0, .ref o_t)] []
  unfold f_X12_waitTop at h
  refine g_aload_n (pc := 0) C dX12_waitTop_0 rfl 0 rfl ?_
  refine g_get (pc := 1) C fl_X12_176 dX12_waitTop_1 0 rfl rfl ?_
  refine g_if_ne (pc := 4) (tgt := 11) C dX12_waitTop_4 (by decide) h (fun h => ?_) (fun h => ?_)
  · refine g_aload_n (pc := 11) C dX12_waitTop_11 rfl 0 rfl ?_
    refine g_get (pc := 12) C fl_X12_50 dX12_waitTop_12 0 rfl rfl ?_
    refine g_aload_n (pc := 15) C dX12_waitTop_15 rfl 0 rfl ?_
    refine g_get (pc := 16) C fl_X12_176 dX12_waitTop_16 0 rfl rfl ?_
    refine g_iconst (pc := 19) (v := 1) C dX12_waitTop_19 (by decide) ?_
    refine g_isub (pc := 20) C dX12_waitTop_20 ?_
    refine g_iald (pc := 21) C dX12_waitTop_21 1 rfl h (fun v1 h => ?_)
    refine g_ldc (pc := 22) C dX12_waitTop_22 ct_X12_172 ?_
    refine g_idiv (pc := 24) C dX12_waitTop_24 h (fun v2 h => ?_)
    cases h
    exact hret _ _ _ dX12_waitTop_25 rfl rfl
  · refine g_iconst (pc := 7) (v := -1) C dX12_waitTop_7 (by decide) ?_
    refine g_goto (pc := 8) (tgt := 25) C dX12_waitTop_8 (by decide) ?_
    cases h
    exact hret _ _ _ dX12_waitTop_25 rfl rfl
abbrev W_X12_wrongAt (E : GE) (O_t : Nat) (a_t : Nat → Nat) (t_toldDoors : Int32) (t_barredDoors : Int32) (t_taped : Int32) (t_place0 : Int32) (t_length0 : Int32) (t_fault : Int32) (t_number0 : Int32) (t_open : Int32) (t_codeMany : Int32) (t_waiting : Int32) (t_saidMany : Int32) (t_clauses : Int32) (t_newMany : Int32) (t_rounds : Int32) (t_pinFrom : Int32) (t_pinTimes : Int32) (t_lines : Int32) (t_wasTold : Int32) (t_wasBarred : Int32) (t_goesNow : Int32) (t_jamsNow : Int32) (t_queued : Int32) (t_isKept : Int32) : va_W := [(O_t, ob_X12 a_t t_toldDoors t_barredDoors t_taped t_place0 t_length0 t_fault t_number0 t_open t_codeMany t_waiting t_saidMany t_clauses t_newMany t_rounds t_pinFrom t_pinTimes t_lines t_wasTold t_wasBarred t_goesNow t_jamsNow t_queued t_isKept)]
def f_X12_wrongAt (t_fault : Int32) (x1 : Int32) (x2 : Int32) : Option (Int32 × Int32) := nm (((-1000 : Int32) * x1) - x2) fun v1 => some ((0 : Int32), v1)
theorem dX12_wrongAt_0 : decode cX12_wrongAt 0 = .ok (.aload_n 0, 1) := by decide +kernel
theorem dX12_wrongAt_1 : decode cX12_wrongAt 1 = .ok (.sipush (-1000), 3) := by decide +kernel
theorem dX12_wrongAt_4 : decode cX12_wrongAt 4 = .ok (.iload_n 1, 1) := by decide +kernel
theorem dX12_wrongAt_5 : decode cX12_wrongAt 5 = .ok (.imul, 1) := by decide +kernel
theorem dX12_wrongAt_6 : decode cX12_wrongAt 6 = .ok (.iload_n 2, 1) := by decide +kernel
theorem dX12_wrongAt_7 : decode cX12_wrongAt 7 = .ok (.isub, 1) := by decide +kernel
theorem dX12_wrongAt_8 : decode cX12_wrongAt 8 = .ok (.putfield 156, 3) := by decide +kernel
theorem dX12_wrongAt_11 : decode cX12_wrongAt 11 = .ok (.iconst 0, 1) := by decide +kernel
theorem dX12_wrongAt_12 : decode cX12_wrongAt 12 = .ok (.ireturn, 1) := by decide +kernel
set_option maxHeartbeats 4000000 in
set_option maxRecDepth 100000 in
theorem c_X12_wrongAt (l : Launch) (E : GE) (o_t : Nat) (a_t : Nat → Nat) (t_toldDoors : Int32) (t_barredDoors : Int32) (t_taped : Int32) (t_place0 : Int32) (t_length0 : Int32) (t_fault : Int32) (t_number0 : Int32) (t_open : Int32) (t_codeMany : Int32) (t_waiting : Int32) (t_saidMany : Int32) (t_clauses : Int32) (t_newMany : Int32) (t_rounds : Int32) (t_pinFrom : Int32) (t_pinTimes : Int32) (t_lines : Int32) (t_wasTold : Int32) (t_wasBarred : Int32) (t_goesNow : Int32) (t_jamsNow : Int32) (t_queued : Int32) (t_isKept : Int32) (x1 : Int32) (x2 : Int32) (r : Int32 × Int32) (h : f_X12_wrongAt t_fault x1 x2 = some r) : Cn l E yX12_wrongAt cX12_wrongAt 3 (some .boolean) 1 0 0 [.ref o_t, .int x1, .int x2] (W_X12_wrongAt E o_t a_t t_toldDoors t_barredDoors t_taped t_place0 t_length0 t_fault t_number0 t_open t_codeMany t_waiting t_saidMany t_clauses t_newMany t_rounds t_pinFrom t_pinTimes t_lines t_wasTold t_wasBarred t_goesNow t_jamsNow t_queued t_isKept) (fun w => w = (W_X12_wrongAt E o_t a_t t_toldDoors t_barredDoors t_taped t_place0 t_length0 r.2 t_number0 t_open t_codeMany t_waiting t_saidMany t_clauses t_newMany t_rounds t_pinFrom t_pinTimes t_lines t_wasTold t_wasBarred t_goesNow t_jamsNow t_queued t_isKept)) (some (.int r.1)) := by
  refine Cn.ofI (by decide +kernel) (Nat.le_of_ble_eq_true rfl) (fun X hX hR C hret => ?_)
  subst hX
  show Gx X E 0 0 (W_X12_wrongAt E o_t a_t t_toldDoors t_barredDoors t_taped t_place0 t_length0 t_fault t_number0 t_open t_codeMany t_waiting t_saidMany t_clauses t_newMany t_rounds t_pinFrom t_pinTimes t_lines t_wasTold t_wasBarred t_goesNow t_jamsNow t_queued t_isKept) 0 [(0, .ref o_t), (1, .int x1), (2, .int x2)] []
  unfold f_X12_wrongAt at h
  refine g_aload_n (pc := 0) C dX12_wrongAt_0 rfl 0 rfl ?_
  refine g_sipush (pc := 1) (v := -1000) C dX12_wrongAt_1 (by decide) ?_
  refine g_iload_n (pc := 4) C dX12_wrongAt_4 rfl 1 rfl ?_
  refine g_imul (pc := 5) C dX12_wrongAt_5 ?_
  refine g_iload_n (pc := 6) C dX12_wrongAt_6 rfl 2 rfl ?_
  refine g_isub (pc := 7) C dX12_wrongAt_7 ?_
  refine g_nm h (fun v1 h => ?_)
  refine g_put (pc := 8) (ws' := (W_X12_wrongAt E o_t a_t t_toldDoors t_barredDoors t_taped t_place0 t_length0 v1 t_number0 t_open t_codeMany t_waiting t_saidMany t_clauses t_newMany t_rounds t_pinFrom t_pinTimes t_lines t_wasTold t_wasBarred t_goesNow t_jamsNow t_queued t_isKept)) C .int fl_X12_156 dX12_wrongAt_8 0 rfl (by decide +kernel) rfl rfl (Nat.le_of_ble_eq_true rfl) rfl ?_
  refine g_iconst (pc := 11) (v := 0) C dX12_wrongAt_11 (by decide) ?_
  cases h
  exact hret _ _ _ dX12_wrongAt_12 nb0 rfl
abbrev W_X12_alikeTo (E : GE) (O_t : Nat) (a_t : Nat → Nat) (t_toldDoors : Int32) (t_barredDoors : Int32) (t_taped : Int32) (t_place0 : Int32) (t_length0 : Int32) (t_fault : Int32) (t_number0 : Int32) (t_open : Int32) (t_codeMany : Int32) (t_waiting : Int32) (t_saidMany : Int32) (t_clauses : Int32) (t_newMany : Int32) (t_rounds : Int32) (t_pinFrom : Int32) (t_pinTimes : Int32) (t_lines : Int32) (t_wasTold : Int32) (t_wasBarred : Int32) (t_goesNow : Int32) (t_jamsNow : Int32) (t_queued : Int32) (t_isKept : Int32) (t_tape : (Nat → Int32)) : va_W := [(O_t, ob_X12 a_t t_toldDoors t_barredDoors t_taped t_place0 t_length0 t_fault t_number0 t_open t_codeMany t_waiting t_saidMany t_clauses t_newMany t_rounds t_pinFrom t_pinTimes t_lines t_wasTold t_wasBarred t_goesNow t_jamsNow t_queued t_isKept), (a_t 13, .inl (E.2.2.1, 260, .inl t_tape))]
def L_X12_alikeTo_5 (t_tape : (Nat → Int32)) (x1 : Int32) (x2 : Int32) : Nat → Int32 × Int32 → Option (Int32) := lp fun go s => if x1 ≤ s.2 then (some s.1) else (f_X12_octet t_tape s.2).bind fun u1 => if u1 = x2 then (nm (s.1 + (1 : Int32)) fun v3 => nm (s.2 + (1 : Int32)) fun v4 => go (v3, v4)) else nm (s.2 + (1 : Int32)) fun v2 => go (s.1, v2)
def f_X12_alikeTo (t_tape : (Nat → Int32)) (x1 : Int32) (x2 : Int32) : Option (Int32) := L_X12_alikeTo_5 t_tape x1 x2 fu ((0 : Int32), (0 : Int32))
theorem dX12_alikeTo_0 : decode cX12_alikeTo 0 = .ok (.iconst 0, 1) := by decide +kernel
theorem dX12_alikeTo_1 : decode cX12_alikeTo 1 = .ok (.istore_n 3, 1) := by decide +kernel
theorem dX12_alikeTo_2 : decode cX12_alikeTo 2 = .ok (.iconst 0, 1) := by decide +kernel
theorem dX12_alikeTo_3 : decode cX12_alikeTo 3 = .ok (.istore 4, 2) := by decide +kernel
theorem dX12_alikeTo_5 : decode cX12_alikeTo 5 = .ok (.iload 4, 2) := by decide +kernel
theorem dX12_alikeTo_7 : decode cX12_alikeTo 7 = .ok (.iload_n 1, 1) := by decide +kernel
theorem dX12_alikeTo_8 : decode cX12_alikeTo 8 = .ok (.if_icmp .ge 23, 3) := by decide +kernel
theorem dX12_alikeTo_11 : decode cX12_alikeTo 11 = .ok (.aload_n 0, 1) := by decide +kernel
theorem dX12_alikeTo_12 : decode cX12_alikeTo 12 = .ok (.iload 4, 2) := by decide +kernel
theorem dX12_alikeTo_14 : decode cX12_alikeTo 14 = .ok (.invokevirtual 387, 3) := by decide +kernel
theorem dX12_alikeTo_17 : decode cX12_alikeTo 17 = .ok (.iload_n 2, 1) := by decide +kernel
theorem dX12_alikeTo_18 : decode cX12_alikeTo 18 = .ok (.if_icmp .ne 7, 3) := by decide +kernel
theorem dX12_alikeTo_21 : decode cX12_alikeTo 21 = .ok (.iload_n 3, 1) := by decide +kernel
theorem dX12_alikeTo_22 : decode cX12_alikeTo 22 = .ok (.iconst 1, 1) := by decide +kernel
theorem dX12_alikeTo_23 : decode cX12_alikeTo 23 = .ok (.iadd, 1) := by decide +kernel
theorem dX12_alikeTo_24 : decode cX12_alikeTo 24 = .ok (.istore_n 3, 1) := by decide +kernel
theorem dX12_alikeTo_25 : decode cX12_alikeTo 25 = .ok (.iinc 4 1, 3) := by decide +kernel
theorem dX12_alikeTo_28 : decode cX12_alikeTo 28 = .ok (.goto (-23), 3) := by decide +kernel
theorem dX12_alikeTo_31 : decode cX12_alikeTo 31 = .ok (.iload_n 3, 1) := by decide +kernel
theorem dX12_alikeTo_32 : decode cX12_alikeTo 32 = .ok (.ireturn, 1) := by decide +kernel
set_option maxHeartbeats 4000000 in
set_option maxRecDepth 100000 in
theorem kL_X12_alikeTo_5 {X : GC} {E : GE} (C : Cx X E cX12_alikeTo RX12 2 5) (o_t : Nat) (a_t : Nat → Nat) (t_toldDoors : Int32) (t_barredDoors : Int32) (t_taped : Int32) (t_place0 : Int32) (t_length0 : Int32) (t_fault : Int32) (t_number0 : Int32) (t_open : Int32) (t_codeMany : Int32) (t_waiting : Int32) (t_saidMany : Int32) (t_clauses : Int32) (t_newMany : Int32) (t_rounds : Int32) (t_pinFrom : Int32) (t_pinTimes : Int32) (t_lines : Int32) (t_wasTold : Int32) (t_wasBarred : Int32) (t_goesNow : Int32) (t_jamsNow : Int32) (t_queued : Int32) (t_isKept : Int32) (t_tape : (Nat → Int32)) (x1 : Int32) (x2 : Int32) {r : Int32} (hret : RtI X E cX12_alikeTo .int 0 0 (fun w => w = (W_X12_alikeTo E o_t a_t t_toldDoors t_barredDoors t_taped t_place0 t_length0 t_fault t_number0 t_open t_codeMany t_waiting t_saidMany t_clauses t_newMany t_rounds t_pinFrom t_pinTimes t_lines t_wasTold t_wasBarred t_goesNow t_jamsNow t_queued t_isKept t_tape)) r) : ∀ (n : Nat) (s : Int32 × Int32), L_X12_alikeTo_5 t_tape x1 x2 n s = some r → Gx X E 0 0 (W_X12_alikeTo E o_t a_t t_toldDoors t_barredDoors t_taped t_place0 t_length0 t_fault t_number0 t_open t_codeMany t_waiting t_saidMany t_clauses t_newMany t_rounds t_pinFrom t_pinTimes t_lines t_wasTold t_wasBarred t_goesNow t_jamsNow t_queued t_isKept t_tape) 5 [(0, .ref o_t), (1, .int x1), (2, .int x2), (3, .int s.1), (4, .int s.2)] [] := by
  unfold L_X12_alikeTo_5
  refine lp_ind _ (fun go ih s h => ?_)
  refine g_iload (pc := 5) C dX12_alikeTo_5 4 rfl ?_
  refine g_iload_n (pc := 7) C dX12_alikeTo_7 rfl 1 rfl ?_
  refine g_icmp_ge (pc := 8) (tgt := 31) C dX12_alikeTo_8 (by decide) h (fun h => ?_) (fun h => ?_)
  · refine g_iload_n (pc := 31) C dX12_alikeTo_31 rfl 3 rfl ?_
    cases h
    exact hret _ _ _ dX12_alikeTo_32 rfl rfl
  · refine g_aload_n (pc := 11) C dX12_alikeTo_11 rfl 0 rfl ?_
    refine g_iload (pc := 12) C dX12_alikeTo_12 4 rfl ?_
    obtain ⟨u1, hu1, h⟩ := bs h
    refine g_callV (pc := 14) (st := []) (st1 := [.int u1]) (ws' := (W_X12_alikeTo E o_t a_t t_toldDoors t_barredDoors t_taped t_place0 t_length0 t_fault t_number0 t_open t_codeMany t_waiting t_saidMany t_clauses t_newMany t_rounds t_pinFrom t_pinTimes t_lines t_wasTold t_wasBarred t_goesNow t_jamsNow t_queued t_isKept t_tape)) C mv_X12_octet mi_X12_octet ml_X12_387 (c_X12_octet X.2.1 E o_t a_t t_toldDoors t_barredDoors t_taped t_place0 t_length0 t_fault t_number0 t_open t_codeMany t_waiting t_saidMany t_clauses t_newMany t_rounds t_pinFrom t_pinTimes t_lines t_wasTold t_wasBarred t_goesNow t_jamsNow t_queued t_isKept t_tape s.2 u1 hu1) dX12_alikeTo_14 (by decide) rfl (Nat.le_of_ble_eq_true rfl) 0 11 rfl rfl [0, 1] rfl (by decide) rfl rfl rfl rfl ?_
    refine g_iload_n (pc := 17) C dX12_alikeTo_17 rfl 2 rfl ?_
    refine g_icmp_ne (pc := 18) (tgt := 25) C dX12_alikeTo_18 (by decide) h (fun h => ?_) (fun h => ?_)
    · refine g_iincn (pc := 25) (j := 4) (d := 1) (lv' := fun v2 => [(4, .int v2), (0, .ref o_t), (1, .int x1), (2, .int x2), (3, .int s.1)]) C dX12_alikeTo_25 rfl (by decide) (by decide) (fun _ => rfl) h (fun v2 h => ?_)
      refine g_goto (pc := 28) (tgt := 5) C dX12_alikeTo_28 (by decide) ?_
      refine g_sub [1, 2, 3, 4, 0] rfl ?_
      exact ih _ h
    · refine g_iload_n (pc := 21) C dX12_alikeTo_21 rfl 3 rfl ?_
      refine g_iconst (pc := 22) (v := 1) C dX12_alikeTo_22 (by decide) ?_
      refine g_iadd (pc := 23) C dX12_alikeTo_23 ?_
      refine g_nm h (fun v3 h => ?_)
      refine g_istore_n (pc := 24) (lv' := [(3, .int v3), (0, .ref o_t), (1, .int x1), (2, .int x2), (4, .int s.2)]) C dX12_alikeTo_24 rfl (by decide) rfl ?_
      refine g_iincn (pc := 25) (j := 4) (d := 1) (lv' := fun v4 => [(4, .int v4), (3, .int v3), (0, .ref o_t), (1, .int x1), (2, .int x2)]) C dX12_alikeTo_25 rfl (by decide) (by decide) (fun _ => rfl) h (fun v4 h => ?_)
      refine g_goto (pc := 28) (tgt := 5) C dX12_alikeTo_28 (by decide) ?_
      refine g_sub [2, 3, 4, 1, 0] rfl ?_
      exact ih _ h
set_option maxHeartbeats 4000000 in
set_option maxRecDepth 100000 in
theorem c_X12_alikeTo (l : Launch) (E : GE) (o_t : Nat) (a_t : Nat → Nat) (t_toldDoors : Int32) (t_barredDoors : Int32) (t_taped : Int32) (t_place0 : Int32) (t_length0 : Int32) (t_fault : Int32) (t_number0 : Int32) (t_open : Int32) (t_codeMany : Int32) (t_waiting : Int32) (t_saidMany : Int32) (t_clauses : Int32) (t_newMany : Int32) (t_rounds : Int32) (t_pinFrom : Int32) (t_pinTimes : Int32) (t_lines : Int32) (t_wasTold : Int32) (t_wasBarred : Int32) (t_goesNow : Int32) (t_jamsNow : Int32) (t_queued : Int32) (t_isKept : Int32) (t_tape : (Nat → Int32)) (x1 : Int32) (x2 : Int32) (r : Int32) (h : f_X12_alikeTo t_tape x1 x2 = some r) : Cn l E yX12_alikeTo cX12_alikeTo 5 (some .int) 2 0 0 [.ref o_t, .int x1, .int x2] (W_X12_alikeTo E o_t a_t t_toldDoors t_barredDoors t_taped t_place0 t_length0 t_fault t_number0 t_open t_codeMany t_waiting t_saidMany t_clauses t_newMany t_rounds t_pinFrom t_pinTimes t_lines t_wasTold t_wasBarred t_goesNow t_jamsNow t_queued t_isKept t_tape) (fun w => w = (W_X12_alikeTo E o_t a_t t_toldDoors t_barredDoors t_taped t_place0 t_length0 t_fault t_number0 t_open t_codeMany t_waiting t_saidMany t_clauses t_newMany t_rounds t_pinFrom t_pinTimes t_lines t_wasTold t_wasBarred t_goesNow t_jamsNow t_queued t_isKept t_tape)) (some (.int r)) := by
  refine Cn.ofI (by decide +kernel) (Nat.le_of_ble_eq_true rfl) (fun X hX hR C hret => ?_)
  subst hX
  show Gx X E 0 0 (W_X12_alikeTo E o_t a_t t_toldDoors t_barredDoors t_taped t_place0 t_length0 t_fault t_number0 t_open t_codeMany t_waiting t_saidMany t_clauses t_newMany t_rounds t_pinFrom t_pinTimes t_lines t_wasTold t_wasBarred t_goesNow t_jamsNow t_queued t_isKept t_tape) 0 [(0, .ref o_t), (1, .int x1), (2, .int x2)] []
  unfold f_X12_alikeTo at h
  refine g_iconst (pc := 0) (v := 0) C dX12_alikeTo_0 (by decide) ?_
  refine g_istore_n (pc := 1) (lv' := [(3, .int (0 : Int32)), (0, .ref o_t), (1, .int x1), (2, .int x2)]) C dX12_alikeTo_1 rfl (by decide) rfl ?_
  refine g_iconst (pc := 2) (v := 0) C dX12_alikeTo_2 (by decide) ?_
  refine g_istore (pc := 3) (lv' := [(4, .int (0 : Int32)), (3, .int (0 : Int32)), (0, .ref o_t), (1, .int x1), (2, .int x2)]) C dX12_alikeTo_3 (by decide) rfl ?_
  refine g_sub [2, 3, 4, 1, 0] rfl ?_
  refine kL_X12_alikeTo_5 C o_t a_t t_toldDoors t_barredDoors t_taped t_place0 t_length0 t_fault t_number0 t_open t_codeMany t_waiting t_saidMany t_clauses t_newMany t_rounds t_pinFrom t_pinTimes t_lines t_wasTold t_wasBarred t_goesNow t_jamsNow t_queued t_isKept t_tape x1 x2 hret  _ _ h
abbrev W_X12_closesSums (E : GE) (O_t : Nat) (a_t : Nat → Nat) (t_toldDoors : Int32) (t_barredDoors : Int32) (t_taped : Int32) (t_place0 : Int32) (t_length0 : Int32) (t_fault : Int32) (t_number0 : Int32) (t_open : Int32) (t_codeMany : Int32) (t_waiting : Int32) (t_saidMany : Int32) (t_clauses : Int32) (t_newMany : Int32) (t_rounds : Int32) (t_pinFrom : Int32) (t_pinTimes : Int32) (t_lines : Int32) (t_wasTold : Int32) (t_wasBarred : Int32) (t_goesNow : Int32) (t_jamsNow : Int32) (t_queued : Int32) (t_isKept : Int32) (t_said : (Nat → Int32)) (t_waitsAt : (Nat → Int32)) : va_W := [(O_t, ob_X12 a_t t_toldDoors t_barredDoors t_taped t_place0 t_length0 t_fault t_number0 t_open t_codeMany t_waiting t_saidMany t_clauses t_newMany t_rounds t_pinFrom t_pinTimes t_lines t_wasTold t_wasBarred t_goesNow t_jamsNow t_queued t_isKept), (a_t 24, .inl (E.2.1, 260, .inl t_said)), (a_t 25, .inl (E.2.1, 260, .inl t_waitsAt))]
def L_X12_closesSums_0 (t_waitsAt : (Nat → Int32)) (x1 : Int32) : Nat → Int32 × Int32 × (Nat → Int32) → Option (Int32 × Int32 × (Nat → Int32)) := lp fun go s => (f_X12_waitTop s.2.1 t_waitsAt).bind fun u1 => jn (fun s2 : Unit => (f_X12_waitTop s.2.1 t_waitsAt).bind fun u3 => (f_X12_notes s.1 s.2.2 u3 (0 : Int32)).bind fun u4 => nm (s.2.1 - (1 : Int32)) fun v5 => go (u4.1, v5, u4.2)) fun j37 => jn (fun s6 : Unit => if x1 = 0 then (some (s.1, s.2.1, s.2.2)) else (f_X12_waitTop s.2.1 t_waitsAt).bind fun u7 => if u7 = (2 : Int32) then (j37 ()) else (f_X12_waitTop s.2.1 t_waitsAt).bind fun u8 => if u8 = (3 : Int32) then (j37 ()) else some (s.1, s.2.1, s.2.2)) fun j17 => if u1 < (4 : Int32) then (j17 ()) else (f_X12_waitTop s.2.1 t_waitsAt).bind fun u9 => if u9 ≤ (6 : Int32) then (j37 ()) else j17 ()
def f_X12_closesSums (t_codeMany : Int32) (t_waiting : Int32) (t_said : (Nat → Int32)) (t_waitsAt : (Nat → Int32)) (x1 : Int32) : Option (Int32 × Int32 × (Nat → Int32)) := L_X12_closesSums_0 t_waitsAt x1 fu (t_codeMany, t_waiting, t_said)
theorem dX12_closesSums_0 : decode cX12_closesSums 0 = .ok (.aload_n 0, 1) := by decide +kernel
theorem dX12_closesSums_1 : decode cX12_closesSums 1 = .ok (.invokevirtual 179, 3) := by decide +kernel
theorem dX12_closesSums_4 : decode cX12_closesSums 4 = .ok (.iconst 4, 1) := by decide +kernel
theorem dX12_closesSums_5 : decode cX12_closesSums 5 = .ok (.if_icmp .lt 12, 3) := by decide +kernel
theorem dX12_closesSums_8 : decode cX12_closesSums 8 = .ok (.aload_n 0, 1) := by decide +kernel
theorem dX12_closesSums_9 : decode cX12_closesSums 9 = .ok (.invokevirtual 179, 3) := by decide +kernel
theorem dX12_closesSums_12 : decode cX12_closesSums 12 = .ok (.bipush 6, 2) := by decide +kernel
theorem dX12_closesSums_14 : decode cX12_closesSums 14 = .ok (.if_icmp .le 23, 3) := by decide +kernel
theorem dX12_closesSums_17 : decode cX12_closesSums 17 = .ok (.iload_n 1, 1) := by decide +kernel
theorem dX12_closesSums_18 : decode cX12_closesSums 18 = .ok (.ifCond .eq 41, 3) := by decide +kernel
theorem dX12_closesSums_21 : decode cX12_closesSums 21 = .ok (.aload_n 0, 1) := by decide +kernel
theorem dX12_closesSums_22 : decode cX12_closesSums 22 = .ok (.invokevirtual 179, 3) := by decide +kernel
theorem dX12_closesSums_25 : decode cX12_closesSums 25 = .ok (.iconst 2, 1) := by decide +kernel
theorem dX12_closesSums_26 : decode cX12_closesSums 26 = .ok (.if_icmp .eq 11, 3) := by decide +kernel
theorem dX12_closesSums_29 : decode cX12_closesSums 29 = .ok (.aload_n 0, 1) := by decide +kernel
theorem dX12_closesSums_30 : decode cX12_closesSums 30 = .ok (.invokevirtual 179, 3) := by decide +kernel
theorem dX12_closesSums_33 : decode cX12_closesSums 33 = .ok (.iconst 3, 1) := by decide +kernel
theorem dX12_closesSums_34 : decode cX12_closesSums 34 = .ok (.if_icmp .ne 25, 3) := by decide +kernel
theorem dX12_closesSums_37 : decode cX12_closesSums 37 = .ok (.aload_n 0, 1) := by decide +kernel
theorem dX12_closesSums_38 : decode cX12_closesSums 38 = .ok (.aload_n 0, 1) := by decide +kernel
theorem dX12_closesSums_39 : decode cX12_closesSums 39 = .ok (.invokevirtual 179, 3) := by decide +kernel
theorem dX12_closesSums_42 : decode cX12_closesSums 42 = .ok (.iconst 0, 1) := by decide +kernel
theorem dX12_closesSums_43 : decode cX12_closesSums 43 = .ok (.invokevirtual 182, 3) := by decide +kernel
theorem dX12_closesSums_46 : decode cX12_closesSums 46 = .ok (.aload_n 0, 1) := by decide +kernel
theorem dX12_closesSums_47 : decode cX12_closesSums 47 = .ok (.aload_n 0, 1) := by decide +kernel
theorem dX12_closesSums_48 : decode cX12_closesSums 48 = .ok (.getfield 176, 3) := by decide +kernel
theorem dX12_closesSums_51 : decode cX12_closesSums 51 = .ok (.iconst 1, 1) := by decide +kernel
theorem dX12_closesSums_52 : decode cX12_closesSums 52 = .ok (.isub, 1) := by decide +kernel
theorem dX12_closesSums_53 : decode cX12_closesSums 53 = .ok (.putfield 176, 3) := by decide +kernel
theorem dX12_closesSums_56 : decode cX12_closesSums 56 = .ok (.goto (-56), 3) := by decide +kernel
theorem dX12_closesSums_59 : decode cX12_closesSums 59 = .ok (.return_, 1) := by decide +kernel
set_option maxHeartbeats 4000000 in
set_option maxRecDepth 100000 in
theorem kL_X12_closesSums_0 {X : GC} {E : GE} (C : Cx X E cX12_closesSums RX12 2 2) (o_t : Nat) (a_t : Nat → Nat) (t_toldDoors : Int32) (t_barredDoors : Int32) (t_taped : Int32) (t_place0 : Int32) (t_length0 : Int32) (t_fault : Int32) (t_number0 : Int32) (t_open : Int32) (t_saidMany : Int32) (t_clauses : Int32) (t_newMany : Int32) (t_rounds : Int32) (t_pinFrom : Int32) (t_pinTimes : Int32) (t_lines : Int32) (t_wasTold : Int32) (t_wasBarred : Int32) (t_goesNow : Int32) (t_jamsNow : Int32) (t_queued : Int32) (t_isKept : Int32) (t_waitsAt : (Nat → Int32)) (x1 : Int32) {r : Int32 × Int32 × (Nat → Int32)} (hret : RtV X E cX12_closesSums 0 0 (fun w => w = (W_X12_closesSums E o_t a_t t_toldDoors t_barredDoors t_taped t_place0 t_length0 t_fault t_number0 t_open r.1 r.2.1 t_saidMany t_clauses t_newMany t_rounds t_pinFrom t_pinTimes t_lines t_wasTold t_wasBarred t_goesNow t_jamsNow t_queued t_isKept r.2.2 t_waitsAt))) : ∀ (n : Nat) (s : Int32 × Int32 × (Nat → Int32)), L_X12_closesSums_0 t_waitsAt x1 n s = some r → Gx X E 0 0 (W_X12_closesSums E o_t a_t t_toldDoors t_barredDoors t_taped t_place0 t_length0 t_fault t_number0 t_open s.1 s.2.1 t_saidMany t_clauses t_newMany t_rounds t_pinFrom t_pinTimes t_lines t_wasTold t_wasBarred t_goesNow t_jamsNow t_queued t_isKept s.2.2 t_waitsAt) 0 [(0, .ref o_t), (1, .int x1)] [] := by
  unfold L_X12_closesSums_0
  refine lp_ind _ (fun go ih s h => ?_)
  refine g_aload_n (pc := 0) C dX12_closesSums_0 rfl 0 rfl ?_
  obtain ⟨u1, hu1, h⟩ := bs h
  refine g_callV (pc := 1) (st := []) (st1 := [.int u1]) (ws' := (W_X12_closesSums E o_t a_t t_toldDoors t_barredDoors t_taped t_place0 t_length0 t_fault t_number0 t_open s.1 s.2.1 t_saidMany t_clauses t_newMany t_rounds t_pinFrom t_pinTimes t_lines t_wasTold t_wasBarred t_goesNow t_jamsNow t_queued t_isKept s.2.2 t_waitsAt)) C mv_X12_waitTop mi_X12_waitTop ml_X12_179 (c_X12_waitTop X.2.1 E o_t a_t t_toldDoors t_barredDoors t_taped t_place0 t_length0 t_fault t_number0 t_open s.1 s.2.1 t_saidMany t_clauses t_newMany t_rounds t_pinFrom t_pinTimes t_lines t_wasTold t_wasBarred t_goesNow t_jamsNow t_queued t_isKept t_waitsAt u1 hu1) dX12_closesSums_1 (by decide) rfl (Nat.le_of_ble_eq_true rfl) 0 11 rfl rfl [0, 2] rfl (by decide) rfl rfl rfl rfl ?_
  refine g_iconst (pc := 4) (v := 4) C dX12_closesSums_4 (by decide) ?_
  refine g_jn (fun s2 : Unit => Gx X E 0 0 (W_X12_closesSums E o_t a_t t_toldDoors t_barredDoors t_taped t_place0 t_length0 t_fault t_number0 t_open s.1 s.2.1 t_saidMany t_clauses t_newMany t_rounds t_pinFrom t_pinTimes t_lines t_wasTold t_wasBarred t_goesNow t_jamsNow t_queued t_isKept s.2.2 t_waitsAt) 37 [(0, .ref o_t), (1, .int x1)] []) h (fun s2 h => ?_) (fun j37 hj37 h => ?_)
  · refine g_aload_n (pc := 37) C dX12_closesSums_37 rfl 0 rfl ?_
    refine g_aload_n (pc := 38) C dX12_closesSums_38 rfl 0 rfl ?_
    obtain ⟨u3, hu3, h⟩ := bs h
    refine g_callV (pc := 39) (st := [.ref o_t]) (st1 := [.int u3, .ref o_t]) (ws' := (W_X12_closesSums E o_t a_t t_toldDoors t_barredDoors t_taped t_place0 t_length0 t_fault t_number0 t_open s.1 s.2.1 t_saidMany t_clauses t_newMany t_rounds t_pinFrom t_pinTimes t_lines t_wasTold t_wasBarred t_goesNow t_jamsNow t_queued t_isKept s.2.2 t_waitsAt)) C mv_X12_waitTop mi_X12_waitTop ml_X12_179 (c_X12_waitTop X.2.1 E o_t a_t t_toldDoors t_barredDoors t_taped t_place0 t_length0 t_fault t_number0 t_open s.1 s.2.1 t_saidMany t_clauses t_newMany t_rounds t_pinFrom t_pinTimes t_lines t_wasTold t_wasBarred t_goesNow t_jamsNow t_queued t_isKept t_waitsAt u3 hu3) dX12_closesSums_39 (by decide) rfl (Nat.le_of_ble_eq_true rfl) 0 11 rfl rfl [0, 2] rfl (by decide) rfl rfl rfl rfl ?_
    refine g_iconst (pc := 42) (v := 0) C dX12_closesSums_42 (by decide) ?_
    obtain ⟨u4, hu4, h⟩ := bs h
    refine g_callV (pc := 43) (st := []) (st1 := []) (ws' := (W_X12_closesSums E o_t a_t t_toldDoors t_barredDoors t_taped t_place0 t_length0 t_fault t_number0 t_open u4.1 s.2.1 t_saidMany t_clauses t_newMany t_rounds t_pinFrom t_pinTimes t_lines t_wasTold t_wasBarred t_goesNow t_jamsNow t_queued t_isKept u4.2 t_waitsAt)) C mv_X12_notes mi_X12_notes ml_X12_182 (c_X12_notes X.2.1 E o_t a_t t_toldDoors t_barredDoors t_taped t_place0 t_length0 t_fault t_number0 t_open s.1 s.2.1 t_saidMany t_clauses t_newMany t_rounds t_pinFrom t_pinTimes t_lines t_wasTold t_wasBarred t_goesNow t_jamsNow t_queued t_isKept s.2.2 u3 (0 : Int32) u4 hu4) dX12_closesSums_43 (by decide) rfl (Nat.le_of_ble_eq_true rfl) 0 11 rfl rfl [0, 1] rfl (by decide) rfl rfl rfl rfl ?_
    refine g_aload_n (pc := 46) C dX12_closesSums_46 rfl 0 rfl ?_
    refine g_aload_n (pc := 47) C dX12_closesSums_47 rfl 0 rfl ?_
    refine g_get (pc := 48) C fl_X12_176 dX12_closesSums_48 0 rfl rfl ?_
    refine g_iconst (pc := 51) (v := 1) C dX12_closesSums_51 (by decide) ?_
    refine g_isub (pc := 52) C dX12_closesSums_52 ?_
    refine g_nm h (fun v5 h => ?_)
    refine g_put (pc := 53) (ws' := (W_X12_closesSums E o_t a_t t_toldDoors t_barredDoors t_taped t_place0 t_length0 t_fault t_number0 t_open u4.1 v5 t_saidMany t_clauses t_newMany t_rounds t_pinFrom t_pinTimes t_lines t_wasTold t_wasBarred t_goesNow t_jamsNow t_queued t_isKept u4.2 t_waitsAt)) C .int fl_X12_176 dX12_closesSums_53 0 rfl (by decide +kernel) rfl rfl (Nat.le_of_ble_eq_true rfl) rfl ?_
    refine g_goto (pc := 56) (tgt := 0) C dX12_closesSums_56 (by decide) ?_
    exact ih _ h
  refine g_jn (fun s6 : Unit => Gx X E 0 0 (W_X12_closesSums E o_t a_t t_toldDoors t_barredDoors t_taped t_place0 t_length0 t_fault t_number0 t_open s.1 s.2.1 t_saidMany t_clauses t_newMany t_rounds t_pinFrom t_pinTimes t_lines t_wasTold t_wasBarred t_goesNow t_jamsNow t_queued t_isKept s.2.2 t_waitsAt) 17 [(0, .ref o_t), (1, .int x1)] []) h (fun s6 h => ?_) (fun j17 hj17 h => ?_)
  · refine g_iload_n (pc := 17) C dX12_closesSums_17 rfl 1 rfl ?_
    refine g_if_eq (pc := 18) (tgt := 59) C dX12_closesSums_18 (by decide) h (fun h => ?_) (fun h => ?_)
    · cases h
      exact hret _ _ _ dX12_closesSums_59 rfl
    · refine g_aload_n (pc := 21) C dX12_closesSums_21 rfl 0 rfl ?_
      obtain ⟨u7, hu7, h⟩ := bs h
      refine g_callV (pc := 22) (st := []) (st1 := [.int u7]) (ws' := (W_X12_closesSums E o_t a_t t_toldDoors t_barredDoors t_taped t_place0 t_length0 t_fault t_number0 t_open s.1 s.2.1 t_saidMany t_clauses t_newMany t_rounds t_pinFrom t_pinTimes t_lines t_wasTold t_wasBarred t_goesNow t_jamsNow t_queued t_isKept s.2.2 t_waitsAt)) C mv_X12_waitTop mi_X12_waitTop ml_X12_179 (c_X12_waitTop X.2.1 E o_t a_t t_toldDoors t_barredDoors t_taped t_place0 t_length0 t_fault t_number0 t_open s.1 s.2.1 t_saidMany t_clauses t_newMany t_rounds t_pinFrom t_pinTimes t_lines t_wasTold t_wasBarred t_goesNow t_jamsNow t_queued t_isKept t_waitsAt u7 hu7) dX12_closesSums_22 (by decide) rfl (Nat.le_of_ble_eq_true rfl) 0 11 rfl rfl [0, 2] rfl (by decide) rfl rfl rfl rfl ?_
      refine g_iconst (pc := 25) (v := 2) C dX12_closesSums_25 (by decide) ?_
      refine g_icmp_eq (pc := 26) (tgt := 37) C dX12_closesSums_26 (by decide) h (fun h => ?_) (fun h => ?_)
      · exact hj37 _ h
      · refine g_aload_n (pc := 29) C dX12_closesSums_29 rfl 0 rfl ?_
        obtain ⟨u8, hu8, h⟩ := bs h
        refine g_callV (pc := 30) (st := []) (st1 := [.int u8]) (ws' := (W_X12_closesSums E o_t a_t t_toldDoors t_barredDoors t_taped t_place0 t_length0 t_fault t_number0 t_open s.1 s.2.1 t_saidMany t_clauses t_newMany t_rounds t_pinFrom t_pinTimes t_lines t_wasTold t_wasBarred t_goesNow t_jamsNow t_queued t_isKept s.2.2 t_waitsAt)) C mv_X12_waitTop mi_X12_waitTop ml_X12_179 (c_X12_waitTop X.2.1 E o_t a_t t_toldDoors t_barredDoors t_taped t_place0 t_length0 t_fault t_number0 t_open s.1 s.2.1 t_saidMany t_clauses t_newMany t_rounds t_pinFrom t_pinTimes t_lines t_wasTold t_wasBarred t_goesNow t_jamsNow t_queued t_isKept t_waitsAt u8 hu8) dX12_closesSums_30 (by decide) rfl (Nat.le_of_ble_eq_true rfl) 0 11 rfl rfl [0, 2] rfl (by decide) rfl rfl rfl rfl ?_
        refine g_iconst (pc := 33) (v := 3) C dX12_closesSums_33 (by decide) ?_
        refine g_icmp_ne (pc := 34) (tgt := 59) C dX12_closesSums_34 (by decide) h (fun h => ?_) (fun h => ?_)
        · cases h
          exact hret _ _ _ dX12_closesSums_59 rfl
        · exact hj37 _ h
  refine g_icmp_lt (pc := 5) (tgt := 17) C dX12_closesSums_5 (by decide) h (fun h => ?_) (fun h => ?_)
  · exact hj17 _ h
  · refine g_aload_n (pc := 8) C dX12_closesSums_8 rfl 0 rfl ?_
    obtain ⟨u9, hu9, h⟩ := bs h
    refine g_callV (pc := 9) (st := []) (st1 := [.int u9]) (ws' := (W_X12_closesSums E o_t a_t t_toldDoors t_barredDoors t_taped t_place0 t_length0 t_fault t_number0 t_open s.1 s.2.1 t_saidMany t_clauses t_newMany t_rounds t_pinFrom t_pinTimes t_lines t_wasTold t_wasBarred t_goesNow t_jamsNow t_queued t_isKept s.2.2 t_waitsAt)) C mv_X12_waitTop mi_X12_waitTop ml_X12_179 (c_X12_waitTop X.2.1 E o_t a_t t_toldDoors t_barredDoors t_taped t_place0 t_length0 t_fault t_number0 t_open s.1 s.2.1 t_saidMany t_clauses t_newMany t_rounds t_pinFrom t_pinTimes t_lines t_wasTold t_wasBarred t_goesNow t_jamsNow t_queued t_isKept t_waitsAt u9 hu9) dX12_closesSums_9 (by decide) rfl (Nat.le_of_ble_eq_true rfl) 0 11 rfl rfl [0, 2] rfl (by decide) rfl rfl rfl rfl ?_
    refine g_bipush (pc := 12) (v := 6) C dX12_closesSums_12 (by decide) ?_
    refine g_icmp_le (pc := 14) (tgt := 37) C dX12_closesSums_14 (by decide) h (fun h => ?_) (fun h => ?_)
    · exact hj37 _ h
    · exact hj17 _ h
set_option maxHeartbeats 4000000 in
set_option maxRecDepth 100000 in
theorem c_X12_closesSums (l : Launch) (E : GE) (o_t : Nat) (a_t : Nat → Nat) (t_toldDoors : Int32) (t_barredDoors : Int32) (t_taped : Int32) (t_place0 : Int32) (t_length0 : Int32) (t_fault : Int32) (t_number0 : Int32) (t_open : Int32) (t_codeMany : Int32) (t_waiting : Int32) (t_saidMany : Int32) (t_clauses : Int32) (t_newMany : Int32) (t_rounds : Int32) (t_pinFrom : Int32) (t_pinTimes : Int32) (t_lines : Int32) (t_wasTold : Int32) (t_wasBarred : Int32) (t_goesNow : Int32) (t_jamsNow : Int32) (t_queued : Int32) (t_isKept : Int32) (t_said : (Nat → Int32)) (t_waitsAt : (Nat → Int32)) (x1 : Int32) (r : Int32 × Int32 × (Nat → Int32)) (h : f_X12_closesSums t_codeMany t_waiting t_said t_waitsAt x1 = some r) : Cn l E yX12_closesSums cX12_closesSums 2 none 2 0 0 [.ref o_t, .int x1] (W_X12_closesSums E o_t a_t t_toldDoors t_barredDoors t_taped t_place0 t_length0 t_fault t_number0 t_open t_codeMany t_waiting t_saidMany t_clauses t_newMany t_rounds t_pinFrom t_pinTimes t_lines t_wasTold t_wasBarred t_goesNow t_jamsNow t_queued t_isKept t_said t_waitsAt) (fun w => w = (W_X12_closesSums E o_t a_t t_toldDoors t_barredDoors t_taped t_place0 t_length0 t_fault t_number0 t_open r.1 r.2.1 t_saidMany t_clauses t_newMany t_rounds t_pinFrom t_pinTimes t_lines t_wasTold t_wasBarred t_goesNow t_jamsNow t_queued t_isKept r.2.2 t_waitsAt)) none := by
  refine Cn.ofV (by decide +kernel) (Nat.le_of_ble_eq_true rfl) (fun X hX hR C hret => ?_)
  subst hX
  show Gx X E 0 0 (W_X12_closesSums E o_t a_t t_toldDoors t_barredDoors t_taped t_place0 t_length0 t_fault t_number0 t_open t_codeMany t_waiting t_saidMany t_clauses t_newMany t_rounds t_pinFrom t_pinTimes t_lines t_wasTold t_wasBarred t_goesNow t_jamsNow t_queued t_isKept t_said t_waitsAt) 0 [(0, .ref o_t), (1, .int x1)] []
  unfold f_X12_closesSums at h
  refine kL_X12_closesSums_0 C o_t a_t t_toldDoors t_barredDoors t_taped t_place0 t_length0 t_fault t_number0 t_open t_saidMany t_clauses t_newMany t_rounds t_pinFrom t_pinTimes t_lines t_wasTold t_wasBarred t_goesNow t_jamsNow t_queued t_isKept t_waitsAt x1 hret  _ _ h
abbrev W_X12_dials (E : GE) (O_t : Nat) (a_t : Nat → Nat) (t_toldDoors : Int32) (t_barredDoors : Int32) (t_taped : Int32) (t_place0 : Int32) (t_length0 : Int32) (t_fault : Int32) (t_number0 : Int32) (t_open : Int32) (t_codeMany : Int32) (t_waiting : Int32) (t_saidMany : Int32) (t_clauses : Int32) (t_newMany : Int32) (t_rounds : Int32) (t_pinFrom : Int32) (t_pinTimes : Int32) (t_lines : Int32) (t_wasTold : Int32) (t_wasBarred : Int32) (t_goesNow : Int32) (t_jamsNow : Int32) (t_queued : Int32) (t_isKept : Int32) (t_tape : (Nat → Int32)) (t_turnsOf : (Nat → Int32)) : va_W := [(O_t, ob_X12 a_t t_toldDoors t_barredDoors t_taped t_place0 t_length0 t_fault t_number0 t_open t_codeMany t_waiting t_saidMany t_clauses t_newMany t_rounds t_pinFrom t_pinTimes t_lines t_wasTold t_wasBarred t_goesNow t_jamsNow t_queued t_isKept), (a_t 13, .inl (E.2.2.1, 260, .inl t_tape)), (a_t 55, .inl (E.2.1, 7, .inl t_turnsOf))]
def L_X12_dials_28 (t_taped : Int32) (t_tape : (Nat → Int32)) (t_turnsOf : (Nat → Int32)) (x1 : Int32) (k0 : Int32 → Option (Int32 × Int32 × (Nat → Int32))) : Nat → Int32 × Int32 → Option (Int32 × Int32 × (Nat → Int32)) := lp fun go s => if x1 ≤ s.2 then (k0 s.1) else (f_X12_octet t_tape s.2).bind fun u2 => if u2 ≤ (5 : Int32) then (nm (s.1 * (6 : Int32)) fun v3 => nm (s.2 + (1 : Int32)) fun v4 => go (v3, v4)) else some ((-3 : Int32), t_taped, t_turnsOf)
def L_X12_dials_79 (t_taped : Int32) (t_tape : (Nat → Int32)) (x1 : Int32) (x2 : Int32) (x3 : Int32) (x4 : Int32) (k0 : Int32 × (Nat → Int32) → Option (Int32 × Int32 × (Nat → Int32))) : Nat → Int32 × Int32 × Int32 × (Nat → Int32) → Option (Int32 × Int32 × (Nat → Int32)) := lp fun go s => if (7 : Int32) ≤ s.2.2.1 then (k0 (s.2.1, s.2.2.2)) else (f_X12_in s.2.2.1 (1 : Int32) x1).bind fun u6 => jn (fun s7 : Int32 => wr s.2.2.2 7 s.2.2.1 s7 fun g8 => rd g8 7 s.2.2.1 fun v9 => nm (s.2.1 + v9) fun v10 => (f_X12_in s.2.2.1 (1 : Int32) x1).bind fun u11 => if u11 = 0 then (nm (s.2.2.1 + (1 : Int32)) fun v12 => go (s.1, v10, v12, g8)) else dv s.1 (6 : Int32) fun v13 => nm (s.2.2.1 + (1 : Int32)) fun v14 => go (v13, v10, v14, g8)) fun j111 => if u6 = 0 then (j111 (0 : Int32)) else rm s.1 (6 : Int32) fun v15 => j111 v15
def L_X12_dials_153 (t_taped : Int32) (t_tape : (Nat → Int32)) (t_turnsOf : (Nat → Int32)) (x1 : Int32) (x2 : Int32) (x3 : Int32) (x4 : Int32) (x6 : Int32) (k0 : Int32 → Option (Int32 × Int32 × (Nat → Int32))) : Nat → Int32 × Int32 → Option (Int32 × Int32 × (Nat → Int32)) := lp fun go s => if x1 ≤ s.2 then (k0 s.1) else if s.1 = 0 then (nm (s.2 + (1 : Int32)) fun v17 => go ((0 : Int32), v17)) else (f_X12_octet t_tape s.2).bind fun u18 => rd t_turnsOf 7 s.2 fun v19 => rd t_turnsOf 7 (s.2 + (1 : Int32)) fun v20 => rd t_turnsOf 7 (s.2 + (2 : Int32)) fun v21 => rm (((u18 + v19) + v20) + v21) (6 : Int32) fun v22 => if v22 = 0 then (nm (s.2 + (1 : Int32)) fun v24 => go ((1 : Int32), v24)) else nm (s.2 + (1 : Int32)) fun v23 => go ((0 : Int32), v23)
def L_X12_dials_63 (t_taped : Int32) (t_tape : (Nat → Int32)) (x1 : Int32) (x2 : Int32) (k0 : Int32 × (Nat → Int32) → Option (Int32 × Int32 × (Nat → Int32))) : Nat → Int32 × Int32 × (Nat → Int32) → Option (Int32 × Int32 × (Nat → Int32)) := lp fun go s => if x2 ≤ s.2.1 then (k0 (s.1, s.2.2)) else L_X12_dials_79 t_taped t_tape x1 x2 s.1 s.2.1 (fun s16 => L_X12_dials_153 t_taped t_tape s16.2 x1 x2 s.1 s.2.1 s16.1 (fun s25 => if s25 = 0 then (nm (s.2.1 + (1 : Int32)) fun v26 => go (s.1, v26, s16.2)) else (f_X12_min s.1 s16.1).bind fun u27 => nm (s.2.1 + (1 : Int32)) fun v28 => go (u27, v28, s16.2)) fu ((1 : Int32), (0 : Int32))) fu (s.2.1, (0 : Int32), (0 : Int32), s.2.2)
def f_X12_dials (t_taped : Int32) (t_tape : (Nat → Int32)) (t_turnsOf : (Nat → Int32)) (x1 : Int32) : Option (Int32 × Int32 × (Nat → Int32)) := (f_X12_in x1 (2 : Int32) (5 : Int32)).bind fun u1 => if u1 = 0 then (some ((-1 : Int32), t_taped, t_turnsOf)) else if x1 ≤ t_taped then (L_X12_dials_28 (0 : Int32) t_tape t_turnsOf x1 (fun s5 => L_X12_dials_63 (0 : Int32) t_tape x1 s5 (fun s29 => if s29.1 = (1000000 : Int32) then (some ((-2 : Int32), (0 : Int32), s29.2)) else some (s29.1, (0 : Int32), s29.2)) fu ((1000000 : Int32), (0 : Int32), t_turnsOf)) fu ((1 : Int32), (0 : Int32))) else some ((-1 : Int32), t_taped, t_turnsOf)
theorem dX12_dials_0 : decode cX12_dials 0 = .ok (.iload_n 1, 1) := by decide +kernel
theorem dX12_dials_1 : decode cX12_dials 1 = .ok (.iconst 2, 1) := by decide +kernel
theorem dX12_dials_2 : decode cX12_dials 2 = .ok (.iconst 5, 1) := by decide +kernel
theorem dX12_dials_3 : decode cX12_dials 3 = .ok (.invokestatic 117, 3) := by decide +kernel
theorem dX12_dials_6 : decode cX12_dials 6 = .ok (.ifCond .eq 11, 3) := by decide +kernel
theorem dX12_dials_9 : decode cX12_dials 9 = .ok (.iload_n 1, 1) := by decide +kernel
theorem dX12_dials_10 : decode cX12_dials 10 = .ok (.aload_n 0, 1) := by decide +kernel
theorem dX12_dials_11 : decode cX12_dials 11 = .ok (.getfield 139, 3) := by decide +kernel
theorem dX12_dials_14 : decode cX12_dials 14 = .ok (.if_icmp .le 5, 3) := by decide +kernel
theorem dX12_dials_17 : decode cX12_dials 17 = .ok (.iconst (-1), 1) := by decide +kernel
theorem dX12_dials_18 : decode cX12_dials 18 = .ok (.ireturn, 1) := by decide +kernel
theorem dX12_dials_19 : decode cX12_dials 19 = .ok (.aload_n 0, 1) := by decide +kernel
theorem dX12_dials_20 : decode cX12_dials 20 = .ok (.iconst 0, 1) := by decide +kernel
theorem dX12_dials_21 : decode cX12_dials 21 = .ok (.putfield 139, 3) := by decide +kernel
theorem dX12_dials_24 : decode cX12_dials 24 = .ok (.iconst 1, 1) := by decide +kernel
theorem dX12_dials_25 : decode cX12_dials 25 = .ok (.istore_n 2, 1) := by decide +kernel
theorem dX12_dials_26 : decode cX12_dials 26 = .ok (.iconst 0, 1) := by decide +kernel
theorem dX12_dials_27 : decode cX12_dials 27 = .ok (.istore_n 3, 1) := by decide +kernel
theorem dX12_dials_28 : decode cX12_dials 28 = .ok (.iload_n 3, 1) := by decide +kernel
theorem dX12_dials_29 : decode cX12_dials 29 = .ok (.iload_n 1, 1) := by decide +kernel
theorem dX12_dials_30 : decode cX12_dials 30 = .ok (.if_icmp .ge 26, 3) := by decide +kernel
theorem dX12_dials_33 : decode cX12_dials 33 = .ok (.aload_n 0, 1) := by decide +kernel
theorem dX12_dials_34 : decode cX12_dials 34 = .ok (.iload_n 3, 1) := by decide +kernel
theorem dX12_dials_35 : decode cX12_dials 35 = .ok (.invokevirtual 387, 3) := by decide +kernel
theorem dX12_dials_38 : decode cX12_dials 38 = .ok (.iconst 5, 1) := by decide +kernel
theorem dX12_dials_39 : decode cX12_dials 39 = .ok (.if_icmp .le 6, 3) := by decide +kernel
theorem dX12_dials_42 : decode cX12_dials 42 = .ok (.bipush (-3), 2) := by decide +kernel
theorem dX12_dials_44 : decode cX12_dials 44 = .ok (.ireturn, 1) := by decide +kernel
theorem dX12_dials_45 : decode cX12_dials 45 = .ok (.iload_n 2, 1) := by decide +kernel
theorem dX12_dials_46 : decode cX12_dials 46 = .ok (.bipush 6, 2) := by decide +kernel
theorem dX12_dials_48 : decode cX12_dials 48 = .ok (.imul, 1) := by decide +kernel
theorem dX12_dials_49 : decode cX12_dials 49 = .ok (.istore_n 2, 1) := by decide +kernel
theorem dX12_dials_50 : decode cX12_dials 50 = .ok (.iinc 3 1, 3) := by decide +kernel
theorem dX12_dials_53 : decode cX12_dials 53 = .ok (.goto (-25), 3) := by decide +kernel
theorem dX12_dials_56 : decode cX12_dials 56 = .ok (.ldc_w 383, 3) := by decide +kernel
theorem dX12_dials_59 : decode cX12_dials 59 = .ok (.istore_n 3, 1) := by decide +kernel
theorem dX12_dials_60 : decode cX12_dials 60 = .ok (.iconst 0, 1) := by decide +kernel
theorem dX12_dials_61 : decode cX12_dials 61 = .ok (.istore 4, 2) := by decide +kernel
theorem dX12_dials_63 : decode cX12_dials 63 = .ok (.iload 4, 2) := by decide +kernel
theorem dX12_dials_65 : decode cX12_dials 65 = .ok (.iload_n 2, 1) := by decide +kernel
theorem dX12_dials_66 : decode cX12_dials 66 = .ok (.if_icmp .ge 169, 3) := by decide +kernel
theorem dX12_dials_69 : decode cX12_dials 69 = .ok (.iload 4, 2) := by decide +kernel
theorem dX12_dials_71 : decode cX12_dials 71 = .ok (.istore 5, 2) := by decide +kernel
theorem dX12_dials_73 : decode cX12_dials 73 = .ok (.iconst 0, 1) := by decide +kernel
theorem dX12_dials_74 : decode cX12_dials 74 = .ok (.istore 6, 2) := by decide +kernel
theorem dX12_dials_76 : decode cX12_dials 76 = .ok (.iconst 0, 1) := by decide +kernel
theorem dX12_dials_77 : decode cX12_dials 77 = .ok (.istore 7, 2) := by decide +kernel
theorem dX12_dials_79 : decode cX12_dials 79 = .ok (.iload 7, 2) := by decide +kernel
theorem dX12_dials_81 : decode cX12_dials 81 = .ok (.bipush 7, 2) := by decide +kernel
theorem dX12_dials_83 : decode cX12_dials 83 = .ok (.if_icmp .ge 64, 3) := by decide +kernel
theorem dX12_dials_86 : decode cX12_dials 86 = .ok (.aload_n 0, 1) := by decide +kernel
theorem dX12_dials_87 : decode cX12_dials 87 = .ok (.getfield 111, 3) := by decide +kernel
theorem dX12_dials_90 : decode cX12_dials 90 = .ok (.iload 7, 2) := by decide +kernel
theorem dX12_dials_92 : decode cX12_dials 92 = .ok (.iload 7, 2) := by decide +kernel
theorem dX12_dials_94 : decode cX12_dials 94 = .ok (.iconst 1, 1) := by decide +kernel
theorem dX12_dials_95 : decode cX12_dials 95 = .ok (.iload_n 1, 1) := by decide +kernel
theorem dX12_dials_96 : decode cX12_dials 96 = .ok (.invokestatic 117, 3) := by decide +kernel
theorem dX12_dials_99 : decode cX12_dials 99 = .ok (.ifCond .eq 11, 3) := by decide +kernel
theorem dX12_dials_102 : decode cX12_dials 102 = .ok (.iload 5, 2) := by decide +kernel
theorem dX12_dials_104 : decode cX12_dials 104 = .ok (.bipush 6, 2) := by decide +kernel
theorem dX12_dials_106 : decode cX12_dials 106 = .ok (.irem, 1) := by decide +kernel
theorem dX12_dials_107 : decode cX12_dials 107 = .ok (.goto 4, 3) := by decide +kernel
theorem dX12_dials_110 : decode cX12_dials 110 = .ok (.iconst 0, 1) := by decide +kernel
theorem dX12_dials_111 : decode cX12_dials 111 = .ok (.iastore, 1) := by decide +kernel
theorem dX12_dials_112 : decode cX12_dials 112 = .ok (.iload 6, 2) := by decide +kernel
theorem dX12_dials_114 : decode cX12_dials 114 = .ok (.aload_n 0, 1) := by decide +kernel
theorem dX12_dials_115 : decode cX12_dials 115 = .ok (.getfield 111, 3) := by decide +kernel
theorem dX12_dials_118 : decode cX12_dials 118 = .ok (.iload 7, 2) := by decide +kernel
theorem dX12_dials_120 : decode cX12_dials 120 = .ok (.iaload, 1) := by decide +kernel
theorem dX12_dials_121 : decode cX12_dials 121 = .ok (.iadd, 1) := by decide +kernel
theorem dX12_dials_122 : decode cX12_dials 122 = .ok (.istore 6, 2) := by decide +kernel
theorem dX12_dials_124 : decode cX12_dials 124 = .ok (.iload 7, 2) := by decide +kernel
theorem dX12_dials_126 : decode cX12_dials 126 = .ok (.iconst 1, 1) := by decide +kernel
theorem dX12_dials_127 : decode cX12_dials 127 = .ok (.iload_n 1, 1) := by decide +kernel
theorem dX12_dials_128 : decode cX12_dials 128 = .ok (.invokestatic 117, 3) := by decide +kernel
theorem dX12_dials_131 : decode cX12_dials 131 = .ok (.ifCond .eq 10, 3) := by decide +kernel
theorem dX12_dials_134 : decode cX12_dials 134 = .ok (.iload 5, 2) := by decide +kernel
theorem dX12_dials_136 : decode cX12_dials 136 = .ok (.bipush 6, 2) := by decide +kernel
theorem dX12_dials_138 : decode cX12_dials 138 = .ok (.idiv, 1) := by decide +kernel
theorem dX12_dials_139 : decode cX12_dials 139 = .ok (.istore 5, 2) := by decide +kernel
theorem dX12_dials_141 : decode cX12_dials 141 = .ok (.iinc 7 1, 3) := by decide +kernel
theorem dX12_dials_144 : decode cX12_dials 144 = .ok (.goto (-65), 3) := by decide +kernel
theorem dX12_dials_147 : decode cX12_dials 147 = .ok (.iconst 1, 1) := by decide +kernel
theorem dX12_dials_148 : decode cX12_dials 148 = .ok (.istore 7, 2) := by decide +kernel
theorem dX12_dials_150 : decode cX12_dials 150 = .ok (.iconst 0, 1) := by decide +kernel
theorem dX12_dials_151 : decode cX12_dials 151 = .ok (.istore 8, 2) := by decide +kernel
theorem dX12_dials_153 : decode cX12_dials 153 = .ok (.iload 8, 2) := by decide +kernel
theorem dX12_dials_155 : decode cX12_dials 155 = .ok (.iload_n 1, 1) := by decide +kernel
theorem dX12_dials_156 : decode cX12_dials 156 = .ok (.if_icmp .ge 61, 3) := by decide +kernel
theorem dX12_dials_159 : decode cX12_dials 159 = .ok (.iload 7, 2) := by decide +kernel
theorem dX12_dials_161 : decode cX12_dials 161 = .ok (.ifCond .eq 47, 3) := by decide +kernel
theorem dX12_dials_164 : decode cX12_dials 164 = .ok (.aload_n 0, 1) := by decide +kernel
theorem dX12_dials_165 : decode cX12_dials 165 = .ok (.iload 8, 2) := by decide +kernel
theorem dX12_dials_167 : decode cX12_dials 167 = .ok (.invokevirtual 387, 3) := by decide +kernel
theorem dX12_dials_170 : decode cX12_dials 170 = .ok (.aload_n 0, 1) := by decide +kernel
theorem dX12_dials_171 : decode cX12_dials 171 = .ok (.getfield 111, 3) := by decide +kernel
theorem dX12_dials_174 : decode cX12_dials 174 = .ok (.iload 8, 2) := by decide +kernel
theorem dX12_dials_176 : decode cX12_dials 176 = .ok (.iaload, 1) := by decide +kernel
theorem dX12_dials_177 : decode cX12_dials 177 = .ok (.iadd, 1) := by decide +kernel
theorem dX12_dials_178 : decode cX12_dials 178 = .ok (.aload_n 0, 1) := by decide +kernel
theorem dX12_dials_179 : decode cX12_dials 179 = .ok (.getfield 111, 3) := by decide +kernel
theorem dX12_dials_182 : decode cX12_dials 182 = .ok (.iload 8, 2) := by decide +kernel
theorem dX12_dials_184 : decode cX12_dials 184 = .ok (.iconst 1, 1) := by decide +kernel
theorem dX12_dials_185 : decode cX12_dials 185 = .ok (.iadd, 1) := by decide +kernel
theorem dX12_dials_186 : decode cX12_dials 186 = .ok (.iaload, 1) := by decide +kernel
theorem dX12_dials_187 : decode cX12_dials 187 = .ok (.iadd, 1) := by decide +kernel
theorem dX12_dials_188 : decode cX12_dials 188 = .ok (.aload_n 0, 1) := by decide +kernel
theorem dX12_dials_189 : decode cX12_dials 189 = .ok (.getfield 111, 3) := by decide +kernel
theorem dX12_dials_192 : decode cX12_dials 192 = .ok (.iload 8, 2) := by decide +kernel
theorem dX12_dials_194 : decode cX12_dials 194 = .ok (.iconst 2, 1) := by decide +kernel
theorem dX12_dials_195 : decode cX12_dials 195 = .ok (.iadd, 1) := by decide +kernel
theorem dX12_dials_196 : decode cX12_dials 196 = .ok (.iaload, 1) := by decide +kernel
theorem dX12_dials_197 : decode cX12_dials 197 = .ok (.iadd, 1) := by decide +kernel
theorem dX12_dials_198 : decode cX12_dials 198 = .ok (.bipush 6, 2) := by decide +kernel
theorem dX12_dials_200 : decode cX12_dials 200 = .ok (.irem, 1) := by decide +kernel
theorem dX12_dials_201 : decode cX12_dials 201 = .ok (.ifCond .ne 7, 3) := by decide +kernel
theorem dX12_dials_204 : decode cX12_dials 204 = .ok (.iconst 1, 1) := by decide +kernel
theorem dX12_dials_205 : decode cX12_dials 205 = .ok (.goto 4, 3) := by decide +kernel
theorem dX12_dials_208 : decode cX12_dials 208 = .ok (.iconst 0, 1) := by decide +kernel
theorem dX12_dials_209 : decode cX12_dials 209 = .ok (.istore 7, 2) := by decide +kernel
theorem dX12_dials_211 : decode cX12_dials 211 = .ok (.iinc 8 1, 3) := by decide +kernel
theorem dX12_dials_214 : decode cX12_dials 214 = .ok (.goto (-61), 3) := by decide +kernel
theorem dX12_dials_217 : decode cX12_dials 217 = .ok (.iload 7, 2) := by decide +kernel
theorem dX12_dials_219 : decode cX12_dials 219 = .ok (.ifCond .eq 10, 3) := by decide +kernel
theorem dX12_dials_222 : decode cX12_dials 222 = .ok (.iload_n 3, 1) := by decide +kernel
theorem dX12_dials_223 : decode cX12_dials 223 = .ok (.iload 6, 2) := by decide +kernel
theorem dX12_dials_225 : decode cX12_dials 225 = .ok (.invokestatic 345, 3) := by decide +kernel
theorem dX12_dials_228 : decode cX12_dials 228 = .ok (.istore_n 3, 1) := by decide +kernel
theorem dX12_dials_229 : decode cX12_dials 229 = .ok (.iinc 4 1, 3) := by decide +kernel
theorem dX12_dials_232 : decode cX12_dials 232 = .ok (.goto (-169), 3) := by decide +kernel
theorem dX12_dials_235 : decode cX12_dials 235 = .ok (.iload_n 3, 1) := by decide +kernel
theorem dX12_dials_236 : decode cX12_dials 236 = .ok (.ldc_w 383, 3) := by decide +kernel
theorem dX12_dials_239 : decode cX12_dials 239 = .ok (.if_icmp .ne 8, 3) := by decide +kernel
theorem dX12_dials_242 : decode cX12_dials 242 = .ok (.bipush (-2), 2) := by decide +kernel
theorem dX12_dials_244 : decode cX12_dials 244 = .ok (.goto 4, 3) := by decide +kernel
theorem dX12_dials_247 : decode cX12_dials 247 = .ok (.iload_n 3, 1) := by decide +kernel
theorem dX12_dials_248 : decode cX12_dials 248 = .ok (.ireturn, 1) := by decide +kernel
set_option maxHeartbeats 4000000 in
set_option maxRecDepth 100000 in
theorem kL_X12_dials_28 {X : GC} {E : GE} (C : Cx X E cX12_dials RX12 2 9) (o_t : Nat) (a_t : Nat → Nat) (t_toldDoors : Int32) (t_barredDoors : Int32) (t_place0 : Int32) (t_length0 : Int32) (t_fault : Int32) (t_number0 : Int32) (t_open : Int32) (t_codeMany : Int32) (t_waiting : Int32) (t_saidMany : Int32) (t_clauses : Int32) (t_newMany : Int32) (t_rounds : Int32) (t_pinFrom : Int32) (t_pinTimes : Int32) (t_lines : Int32) (t_wasTold : Int32) (t_wasBarred : Int32) (t_goesNow : Int32) (t_jamsNow : Int32) (t_queued : Int32) (t_isKept : Int32) (t_taped : Int32) (t_tape : (Nat → Int32)) (t_turnsOf : (Nat → Int32)) (x1 : Int32) (k0 : Int32 → Option (Int32 × Int32 × (Nat → Int32))) {r : Int32 × Int32 × (Nat → Int32)} (hret : RtI X E cX12_dials .int 0 0 (fun w => w = (W_X12_dials E o_t a_t t_toldDoors t_barredDoors r.2.1 t_place0 t_length0 t_fault t_number0 t_open t_codeMany t_waiting t_saidMany t_clauses t_newMany t_rounds t_pinFrom t_pinTimes t_lines t_wasTold t_wasBarred t_goesNow t_jamsNow t_queued t_isKept t_tape r.2.2)) r.1) (hk0 : ∀ u, k0 u = some r → Gx X E 0 0 (W_X12_dials E o_t a_t t_toldDoors t_barredDoors t_taped t_place0 t_length0 t_fault t_number0 t_open t_codeMany t_waiting t_saidMany t_clauses t_newMany t_rounds t_pinFrom t_pinTimes t_lines t_wasTold t_wasBarred t_goesNow t_jamsNow t_queued t_isKept t_tape t_turnsOf) 56 [(0, .ref o_t), (1, .int x1), (2, .int u)] []) : ∀ (n : Nat) (s : Int32 × Int32), L_X12_dials_28 t_taped t_tape t_turnsOf x1 k0 n s = some r → Gx X E 0 0 (W_X12_dials E o_t a_t t_toldDoors t_barredDoors t_taped t_place0 t_length0 t_fault t_number0 t_open t_codeMany t_waiting t_saidMany t_clauses t_newMany t_rounds t_pinFrom t_pinTimes t_lines t_wasTold t_wasBarred t_goesNow t_jamsNow t_queued t_isKept t_tape t_turnsOf) 28 [(0, .ref o_t), (1, .int x1), (2, .int s.1), (3, .int s.2)] [] := by
  unfold L_X12_dials_28
  refine lp_ind _ (fun go ih s h => ?_)
  refine g_iload_n (pc := 28) C dX12_dials_28 rfl 3 rfl ?_
  refine g_iload_n (pc := 29) C dX12_dials_29 rfl 1 rfl ?_
  refine g_icmp_ge (pc := 30) (tgt := 56) C dX12_dials_30 (by decide) h (fun h => ?_) (fun h => ?_)
  · refine g_sub [0, 1, 2] rfl ?_
    exact hk0 _ h
  · refine g_aload_n (pc := 33) C dX12_dials_33 rfl 0 rfl ?_
    refine g_iload_n (pc := 34) C dX12_dials_34 rfl 3 rfl ?_
    obtain ⟨u2, hu2, h⟩ := bs h
    refine g_callV (pc := 35) (st := []) (st1 := [.int u2]) (ws' := (W_X12_dials E o_t a_t t_toldDoors t_barredDoors t_taped t_place0 t_length0 t_fault t_number0 t_open t_codeMany t_waiting t_saidMany t_clauses t_newMany t_rounds t_pinFrom t_pinTimes t_lines t_wasTold t_wasBarred t_goesNow t_jamsNow t_queued t_isKept t_tape t_turnsOf)) C mv_X12_octet mi_X12_octet ml_X12_387 (c_X12_octet X.2.1 E o_t a_t t_toldDoors t_barredDoors t_taped t_place0 t_length0 t_fault t_number0 t_open t_codeMany t_waiting t_saidMany t_clauses t_newMany t_rounds t_pinFrom t_pinTimes t_lines t_wasTold t_wasBarred t_goesNow t_jamsNow t_queued t_isKept t_tape s.2 u2 hu2) dX12_dials_35 (by decide) rfl (Nat.le_of_ble_eq_true rfl) 0 11 rfl rfl [0, 1] rfl (by decide) rfl rfl rfl rfl ?_
    refine g_iconst (pc := 38) (v := 5) C dX12_dials_38 (by decide) ?_
    refine g_icmp_le (pc := 39) (tgt := 45) C dX12_dials_39 (by decide) h (fun h => ?_) (fun h => ?_)
    · refine g_iload_n (pc := 45) C dX12_dials_45 rfl 2 rfl ?_
      refine g_bipush (pc := 46) (v := 6) C dX12_dials_46 (by decide) ?_
      refine g_imul (pc := 48) C dX12_dials_48 ?_
      refine g_nm h (fun v3 h => ?_)
      refine g_istore_n (pc := 49) (lv' := [(2, .int v3), (0, .ref o_t), (1, .int x1), (3, .int s.2)]) C dX12_dials_49 rfl (by decide) rfl ?_
      refine g_iincn (pc := 50) (j := 3) (d := 1) (lv' := fun v4 => [(3, .int v4), (2, .int v3), (0, .ref o_t), (1, .int x1)]) C dX12_dials_50 rfl (by decide) (by decide) (fun _ => rfl) h (fun v4 h => ?_)
      refine g_goto (pc := 53) (tgt := 28) C dX12_dials_53 (by decide) ?_
      refine g_sub [2, 3, 1, 0] rfl ?_
      exact ih _ h
    · refine g_bipush (pc := 42) (v := -3) C dX12_dials_42 (by decide) ?_
      cases h
      exact hret _ _ _ dX12_dials_44 rfl rfl
set_option maxHeartbeats 4000000 in
set_option maxRecDepth 100000 in
theorem kL_X12_dials_79 {X : GC} {E : GE} (C : Cx X E cX12_dials RX12 2 9) (o_t : Nat) (a_t : Nat → Nat) (t_toldDoors : Int32) (t_barredDoors : Int32) (t_place0 : Int32) (t_length0 : Int32) (t_fault : Int32) (t_number0 : Int32) (t_open : Int32) (t_codeMany : Int32) (t_waiting : Int32) (t_saidMany : Int32) (t_clauses : Int32) (t_newMany : Int32) (t_rounds : Int32) (t_pinFrom : Int32) (t_pinTimes : Int32) (t_lines : Int32) (t_wasTold : Int32) (t_wasBarred : Int32) (t_goesNow : Int32) (t_jamsNow : Int32) (t_queued : Int32) (t_isKept : Int32) (t_taped : Int32) (t_tape : (Nat → Int32)) (x1 : Int32) (x2 : Int32) (x3 : Int32) (x4 : Int32) (k0 : Int32 × (Nat → Int32) → Option (Int32 × Int32 × (Nat → Int32))) {r : Int32 × Int32 × (Nat → Int32)} (hret : RtI X E cX12_dials .int 0 0 (fun w => w = (W_X12_dials E o_t a_t t_toldDoors t_barredDoors r.2.1 t_place0 t_length0 t_fault t_number0 t_open t_codeMany t_waiting t_saidMany t_clauses t_newMany t_rounds t_pinFrom t_pinTimes t_lines t_wasTold t_wasBarred t_goesNow t_jamsNow t_queued t_isKept t_tape r.2.2)) r.1) (hk0 : ∀ u, k0 u = some r → Gx X E 0 0 (W_X12_dials E o_t a_t t_toldDoors t_barredDoors t_taped t_place0 t_length0 t_fault t_number0 t_open t_codeMany t_waiting t_saidMany t_clauses t_newMany t_rounds t_pinFrom t_pinTimes t_lines t_wasTold t_wasBarred t_goesNow t_jamsNow t_queued t_isKept t_tape u.2) 147 [(0, .ref o_t), (1, .int x1), (2, .int x2), (3, .int x3), (4, .int x4), (6, .int u.1)] []) : ∀ (n : Nat) (s : Int32 × Int32 × Int32 × (Nat → Int32)), L_X12_dials_79 t_taped t_tape x1 x2 x3 x4 k0 n s = some r → Gx X E 0 0 (W_X12_dials E o_t a_t t_toldDoors t_barredDoors t_taped t_place0 t_length0 t_fault t_number0 t_open t_codeMany t_waiting t_saidMany t_clauses t_newMany t_rounds t_pinFrom t_pinTimes t_lines t_wasTold t_wasBarred t_goesNow t_jamsNow t_queued t_isKept t_tape s.2.2.2) 79 [(0, .ref o_t), (1, .int x1), (2, .int x2), (3, .int x3), (4, .int x4), (5, .int s.1), (6, .int s.2.1), (7, .int s.2.2.1)] [] := by
  unfold L_X12_dials_79
  refine lp_ind _ (fun go ih s h => ?_)
  refine g_iload (pc := 79) C dX12_dials_79 7 rfl ?_
  refine g_bipush (pc := 81) (v := 7) C dX12_dials_81 (by decide) ?_
  refine g_icmp_ge (pc := 83) (tgt := 147) C dX12_dials_83 (by decide) h (fun h => ?_) (fun h => ?_)
  · refine g_sub [0, 1, 2, 3, 4, 6] rfl ?_
    exact hk0 _ h
  · refine g_aload_n (pc := 86) C dX12_dials_86 rfl 0 rfl ?_
    refine g_get (pc := 87) C fl_X12_111 dX12_dials_87 0 rfl rfl ?_
    refine g_iload (pc := 90) C dX12_dials_90 7 rfl ?_
    refine g_iload (pc := 92) C dX12_dials_92 7 rfl ?_
    refine g_iconst (pc := 94) (v := 1) C dX12_dials_94 (by decide) ?_
    refine g_iload_n (pc := 95) C dX12_dials_95 rfl 1 rfl ?_
    obtain ⟨u6, hu6, h⟩ := bs h
    refine g_callS (pc := 96) (st := [.int s.2.2.1, .ref (a_t 55)]) (st1 := [.int u6, .int s.2.2.1, .ref (a_t 55)]) (ws' := (W_X12_dials E o_t a_t t_toldDoors t_barredDoors t_taped t_place0 t_length0 t_fault t_number0 t_open t_codeMany t_waiting t_saidMany t_clauses t_newMany t_rounds t_pinFrom t_pinTimes t_lines t_wasTold t_wasBarred t_goesNow t_jamsNow t_queued t_isKept t_tape s.2.2.2)) C mv_X12_in ms_X12_in ml_X12_117 (c_X12_in X.2.1 E s.2.2.1 (1 : Int32) x1 u6 hu6) dX12_dials_96 (by decide) rfl (Nat.le_of_ble_eq_true rfl) [] rfl (by decide) rfl rfl rfl rfl ?_
    refine g_jn (fun s7 : Int32 => Gx X E 0 0 (W_X12_dials E o_t a_t t_toldDoors t_barredDoors t_taped t_place0 t_length0 t_fault t_number0 t_open t_codeMany t_waiting t_saidMany t_clauses t_newMany t_rounds t_pinFrom t_pinTimes t_lines t_wasTold t_wasBarred t_goesNow t_jamsNow t_queued t_isKept t_tape s.2.2.2) 111 [(0, .ref o_t), (1, .int x1), (2, .int x2), (3, .int x3), (4, .int x4), (5, .int s.1), (6, .int s.2.1), (7, .int s.2.2.1)] [.int s7, .int s.2.2.1, .ref (a_t 55)]) h (fun s7 h => ?_) (fun j111 hj111 h => ?_)
    · refine g_iast (pc := 111) C dX12_dials_111 2 rfl h (fun g8 h => ?_)
      refine g_ws (ws' := (W_X12_dials E o_t a_t t_toldDoors t_barredDoors t_taped t_place0 t_length0 t_fault t_number0 t_open t_codeMany t_waiting t_saidMany t_clauses t_newMany t_rounds t_pinFrom t_pinTimes t_lines t_wasTold t_wasBarred t_goesNow t_jamsNow t_queued t_isKept t_tape g8)) rfl ?_
      refine g_iload (pc := 112) C dX12_dials_112 6 rfl ?_
      refine g_aload_n (pc := 114) C dX12_dials_114 rfl 0 rfl ?_
      refine g_get (pc := 115) C fl_X12_111 dX12_dials_115 0 rfl rfl ?_
      refine g_iload (pc := 118) C dX12_dials_118 7 rfl ?_
      refine g_iald (pc := 120) C dX12_dials_120 2 rfl h (fun v9 h => ?_)
      refine g_iadd (pc := 121) C dX12_dials_121 ?_
      refine g_nm h (fun v10 h => ?_)
      refine g_istore (pc := 122) (lv' := [(6, .int v10), (0, .ref o_t), (1, .int x1), (2, .int x2), (3, .int x3), (4, .int x4), (5, .int s.1), (7, .int s.2.2.1)]) C dX12_dials_122 (by decide) rfl ?_
      refine g_iload (pc := 124) C dX12_dials_124 7 rfl ?_
      refine g_iconst (pc := 126) (v := 1) C dX12_dials_126 (by decide) ?_
      refine g_iload_n (pc := 127) C dX12_dials_127 rfl 2 rfl ?_
      obtain ⟨u11, hu11, h⟩ := bs h
      refine g_callS (pc := 128) (st := []) (st1 := [.int u11]) (ws' := (W_X12_dials E o_t a_t t_toldDoors t_barredDoors t_taped t_place0 t_length0 t_fault t_number0 t_open t_codeMany t_waiting t_saidMany t_clauses t_newMany t_rounds t_pinFrom t_pinTimes t_lines t_wasTold t_wasBarred t_goesNow t_jamsNow t_queued t_isKept t_tape g8)) C mv_X12_in ms_X12_in ml_X12_117 (c_X12_in X.2.1 E s.2.2.1 (1 : Int32) x1 u11 hu11) dX12_dials_128 (by decide) rfl (Nat.le_of_ble_eq_true rfl) [] rfl (by decide) rfl rfl rfl rfl ?_
      refine g_if_eq (pc := 131) (tgt := 141) C dX12_dials_131 (by decide) h (fun h => ?_) (fun h => ?_)
      · refine g_iincn (pc := 141) (j := 7) (d := 1) (lv' := fun v12 => [(7, .int v12), (6, .int v10), (0, .ref o_t), (1, .int x1), (2, .int x2), (3, .int x3), (4, .int x4), (5, .int s.1)]) C dX12_dials_141 rfl (by decide) (by decide) (fun _ => rfl) h (fun v12 h => ?_)
        refine g_goto (pc := 144) (tgt := 79) C dX12_dials_144 (by decide) ?_
        refine g_sub [2, 3, 4, 5, 6, 7, 1, 0] rfl ?_
        exact ih _ h
      · refine g_iload (pc := 134) C dX12_dials_134 6 rfl ?_
        refine g_bipush (pc := 136) (v := 6) C dX12_dials_136 (by decide) ?_
        refine g_idiv (pc := 138) C dX12_dials_138 h (fun v13 h => ?_)
        refine g_istore (pc := 139) (lv' := [(5, .int v13), (6, .int v10), (0, .ref o_t), (1, .int x1), (2, .int x2), (3, .int x3), (4, .int x4), (7, .int s.2.2.1)]) C dX12_dials_139 (by decide) rfl ?_
        refine g_iincn (pc := 141) (j := 7) (d := 1) (lv' := fun v14 => [(7, .int v14), (5, .int v13), (6, .int v10), (0, .ref o_t), (1, .int x1), (2, .int x2), (3, .int x3), (4, .int x4)]) C dX12_dials_141 rfl (by decide) (by decide) (fun _ => rfl) h (fun v14 h => ?_)
        refine g_goto (pc := 144) (tgt := 79) C dX12_dials_144 (by decide) ?_
        refine g_sub [3, 4, 5, 6, 7, 1, 2, 0] rfl ?_
        exact ih _ h
    refine g_if_eq (pc := 99) (tgt := 110) C dX12_dials_99 (by decide) h (fun h => ?_) (fun h => ?_)
    · refine g_iconst (pc := 110) (v := 0) C dX12_dials_110 (by decide) ?_
      exact hj111 _ h
    · refine g_iload (pc := 102) C dX12_dials_102 5 rfl ?_
      refine g_bipush (pc := 104) (v := 6) C dX12_dials_104 (by decide) ?_
      refine g_irem (pc := 106) C dX12_dials_106 h (fun v15 h => ?_)
      refine g_goto (pc := 107) (tgt := 111) C dX12_dials_107 (by decide) ?_
      exact hj111 _ h
set_option maxHeartbeats 4000000 in
set_option maxRecDepth 100000 in
theorem kL_X12_dials_153 {X : GC} {E : GE} (C : Cx X E cX12_dials RX12 2 9) (o_t : Nat) (a_t : Nat → Nat) (t_toldDoors : Int32) (t_barredDoors : Int32) (t_place0 : Int32) (t_length0 : Int32) (t_fault : Int32) (t_number0 : Int32) (t_open : Int32) (t_codeMany : Int32) (t_waiting : Int32) (t_saidMany : Int32) (t_clauses : Int32) (t_newMany : Int32) (t_rounds : Int32) (t_pinFrom : Int32) (t_pinTimes : Int32) (t_lines : Int32) (t_wasTold : Int32) (t_wasBarred : Int32) (t_goesNow : Int32) (t_jamsNow : Int32) (t_queued : Int32) (t_isKept : Int32) (t_taped : Int32) (t_tape : (Nat → Int32)) (t_turnsOf : (Nat → Int32)) (x1 : Int32) (x2 : Int32) (x3 : Int32) (x4 : Int32) (x6 : Int32) (k0 : Int32 → Option (Int32 × Int32 × (Nat → Int32))) {r : Int32 × Int32 × (Nat → Int32)} (hret : RtI X E cX12_dials .int 0 0 (fun w => w = (W_X12_dials E o_t a_t t_toldDoors t_barredDoors r.2.1 t_place0 t_length0 t_fault t_number0 t_open t_codeMany t_waiting t_saidMany t_clauses t_newMany t_rounds t_pinFrom t_pinTimes t_lines t_wasTold t_wasBarred t_goesNow t_jamsNow t_queued t_isKept t_tape r.2.2)) r.1) (hk0 : ∀ u, k0 u = some r → Gx X E 0 0 (W_X12_dials E o_t a_t t_toldDoors t_barredDoors t_taped t_place0 t_length0 t_fault t_number0 t_open t_codeMany t_waiting t_saidMany t_clauses t_newMany t_rounds t_pinFrom t_pinTimes t_lines t_wasTold t_wasBarred t_goesNow t_jamsNow t_queued t_isKept t_tape t_turnsOf) 217 [(0, .ref o_t), (1, .int x1), (2, .int x2), (3, .int x3), (4, .int x4), (6, .int x6), (7, .int u)] []) : ∀ (n : Nat) (s : Int32 × Int32), L_X12_dials_153 t_taped t_tape t_turnsOf x1 x2 x3 x4 x6 k0 n s = some r → Gx X E 0 0 (W_X12_dials E o_t a_t t_toldDoors t_barredDoors t_taped t_place0 t_length0 t_fault t_number0 t_open t_codeMany t_waiting t_saidMany t_clauses t_newMany t_rounds t_pinFrom t_pinTimes t_lines t_wasTold t_wasBarred t_goesNow t_jamsNow t_queued t_isKept t_tape t_turnsOf) 153 [(0, .ref o_t), (1, .int x1), (2, .int x2), (3, .int x3), (4, .int x4), (6, .int x6), (7, .int s.1), (8, .int s.2)] [] := by
  unfold L_X12_dials_153
  refine lp_ind _ (fun go ih s h => ?_)
  refine g_iload (pc := 153) C dX12_dials_153 7 rfl ?_
  refine g_iload_n (pc := 155) C dX12_dials_155 rfl 1 rfl ?_
  refine g_icmp_ge (pc := 156) (tgt := 217) C dX12_dials_156 (by decide) h (fun h => ?_) (fun h => ?_)
  · refine g_sub [0, 1, 2, 3, 4, 5, 6] rfl ?_
    exact hk0 _ h
  · refine g_iload (pc := 159) C dX12_dials_159 6 rfl ?_
    refine g_if_eq (pc := 161) (tgt := 208) C dX12_dials_161 (by decide) h (fun h => ?_) (fun h => ?_)
    · refine g_iconst (pc := 208) (v := 0) C dX12_dials_208 (by decide) ?_
      refine g_istore (pc := 209) (lv' := [(7, .int (0 : Int32)), (0, .ref o_t), (1, .int x1), (2, .int x2), (3, .int x3), (4, .int x4), (6, .int x6), (8, .int s.2)]) C dX12_dials_209 (by decide) rfl ?_
      refine g_iincn (pc := 211) (j := 7) (d := 1) (lv' := fun v17 => [(8, .int v17), (7, .int (0 : Int32)), (0, .ref o_t), (1, .int x1), (2, .int x2), (3, .int x3), (4, .int x4), (6, .int x6)]) C dX12_dials_211 rfl (by decide) (by decide) (fun _ => rfl) h (fun v17 h => ?_)
      refine g_goto (pc := 214) (tgt := 153) C dX12_dials_214 (by decide) ?_
      refine g_sub [2, 3, 4, 5, 6, 7, 1, 0] rfl ?_
      exact ih _ h
    · refine g_aload_n (pc := 164) C dX12_dials_164 rfl 0 rfl ?_
      refine g_iload (pc := 165) C dX12_dials_165 7 rfl ?_
      obtain ⟨u18, hu18, h⟩ := bs h
      refine g_callV (pc := 167) (st := []) (st1 := [.int u18]) (ws' := (W_X12_dials E o_t a_t t_toldDoors t_barredDoors t_taped t_place0 t_length0 t_fault t_number0 t_open t_codeMany t_waiting t_saidMany t_clauses t_newMany t_rounds t_pinFrom t_pinTimes t_lines t_wasTold t_wasBarred t_goesNow t_jamsNow t_queued t_isKept t_tape t_turnsOf)) C mv_X12_octet mi_X12_octet ml_X12_387 (c_X12_octet X.2.1 E o_t a_t t_toldDoors t_barredDoors t_taped t_place0 t_length0 t_fault t_number0 t_open t_codeMany t_waiting t_saidMany t_clauses t_newMany t_rounds t_pinFrom t_pinTimes t_lines t_wasTold t_wasBarred t_goesNow t_jamsNow t_queued t_isKept t_tape s.2 u18 hu18) dX12_dials_167 (by decide) rfl (Nat.le_of_ble_eq_true rfl) 0 11 rfl rfl [0, 1] rfl (by decide) rfl rfl rfl rfl ?_
      refine g_aload_n (pc := 170) C dX12_dials_170 rfl 0 rfl ?_
      refine g_get (pc := 171) C fl_X12_111 dX12_dials_171 0 rfl rfl ?_
      refine g_iload (pc := 174) C dX12_dials_174 7 rfl ?_
      refine g_iald (pc := 176) C dX12_dials_176 2 rfl h (fun v19 h => ?_)
      refine g_iadd (pc := 177) C dX12_dials_177 ?_
      refine g_aload_n (pc := 178) C dX12_dials_178 rfl 0 rfl ?_
      refine g_get (pc := 179) C fl_X12_111 dX12_dials_179 0 rfl rfl ?_
      refine g_iload (pc := 182) C dX12_dials_182 7 rfl ?_
      refine g_iconst (pc := 184) (v := 1) C dX12_dials_184 (by decide) ?_
      refine g_iadd (pc := 185) C dX12_dials_185 ?_
      refine g_iald (pc := 186) C dX12_dials_186 2 rfl h (fun v20 h => ?_)
      refine g_iadd (pc := 187) C dX12_dials_187 ?_
      refine g_aload_n (pc := 188) C dX12_dials_188 rfl 0 rfl ?_
      refine g_get (pc := 189) C fl_X12_111 dX12_dials_189 0 rfl rfl ?_
      refine g_iload (pc := 192) C dX12_dials_192 7 rfl ?_
      refine g_iconst (pc := 194) (v := 2) C dX12_dials_194 (by decide) ?_
      refine g_iadd (pc := 195) C dX12_dials_195 ?_
      refine g_iald (pc := 196) C dX12_dials_196 2 rfl h (fun v21 h => ?_)
      refine g_iadd (pc := 197) C dX12_dials_197 ?_
      refine g_bipush (pc := 198) (v := 6) C dX12_dials_198 (by decide) ?_
      refine g_irem (pc := 200) C dX12_dials_200 h (fun v22 h => ?_)
      refine g_if_ne (pc := 201) (tgt := 208) C dX12_dials_201 (by decide) h (fun h => ?_) (fun h => ?_)
      · refine g_iconst (pc := 208) (v := 0) C dX12_dials_208 (by decide) ?_
        refine g_istore (pc := 209) (lv' := [(7, .int (0 : Int32)), (0, .ref o_t), (1, .int x1), (2, .int x2), (3, .int x3), (4, .int x4), (6, .int x6), (8, .int s.2)]) C dX12_dials_209 (by decide) rfl ?_
        refine g_iincn (pc := 211) (j := 7) (d := 1) (lv' := fun v23 => [(8, .int v23), (7, .int (0 : Int32)), (0, .ref o_t), (1, .int x1), (2, .int x2), (3, .int x3), (4, .int x4), (6, .int x6)]) C dX12_dials_211 rfl (by decide) (by decide) (fun _ => rfl) h (fun v23 h => ?_)
        refine g_goto (pc := 214) (tgt := 153) C dX12_dials_214 (by decide) ?_
        refine g_sub [2, 3, 4, 5, 6, 7, 1, 0] rfl ?_
        exact ih _ h
      · refine g_iconst (pc := 204) (v := 1) C dX12_dials_204 (by decide) ?_
        refine g_goto (pc := 205) (tgt := 209) C dX12_dials_205 (by decide) ?_
        refine g_istore (pc := 209) (lv' := [(7, .int (1 : Int32)), (0, .ref o_t), (1, .int x1), (2, .int x2), (3, .int x3), (4, .int x4), (6, .int x6), (8, .int s.2)]) C dX12_dials_209 (by decide) rfl ?_
        refine g_iincn (pc := 211) (j := 7) (d := 1) (lv' := fun v24 => [(8, .int v24), (7, .int (1 : Int32)), (0, .ref o_t), (1, .int x1), (2, .int x2), (3, .int x3), (4, .int x4), (6, .int x6)]) C dX12_dials_211 rfl (by decide) (by decide) (fun _ => rfl) h (fun v24 h => ?_)
        refine g_goto (pc := 214) (tgt := 153) C dX12_dials_214 (by decide) ?_
        refine g_sub [2, 3, 4, 5, 6, 7, 1, 0] rfl ?_
        exact ih _ h
set_option maxHeartbeats 4000000 in
set_option maxRecDepth 100000 in
theorem kL_X12_dials_63 {X : GC} {E : GE} (C : Cx X E cX12_dials RX12 2 9) (o_t : Nat) (a_t : Nat → Nat) (t_toldDoors : Int32) (t_barredDoors : Int32) (t_place0 : Int32) (t_length0 : Int32) (t_fault : Int32) (t_number0 : Int32) (t_open : Int32) (t_codeMany : Int32) (t_waiting : Int32) (t_saidMany : Int32) (t_clauses : Int32) (t_newMany : Int32) (t_rounds : Int32) (t_pinFrom : Int32) (t_pinTimes : Int32) (t_lines : Int32) (t_wasTold : Int32) (t_wasBarred : Int32) (t_goesNow : Int32) (t_jamsNow : Int32) (t_queued : Int32) (t_isKept : Int32) (t_taped : Int32) (t_tape : (Nat → Int32)) (x1 : Int32) (x2 : Int32) (k0 : Int32 × (Nat → Int32) → Option (Int32 × Int32 × (Nat → Int32))) {r : Int32 × Int32 × (Nat → Int32)} (hret : RtI X E cX12_dials .int 0 0 (fun w => w = (W_X12_dials E o_t a_t t_toldDoors t_barredDoors r.2.1 t_place0 t_length0 t_fault t_number0 t_open t_codeMany t_waiting t_saidMany t_clauses t_newMany t_rounds t_pinFrom t_pinTimes t_lines t_wasTold t_wasBarred t_goesNow t_jamsNow t_queued t_isKept t_tape r.2.2)) r.1) (hk0 : ∀ u, k0 u = some r → Gx X E 0 0 (W_X12_dials E o_t a_t t_toldDoors t_barredDoors t_taped t_place0 t_length0 t_fault t_number0 t_open t_codeMany t_waiting t_saidMany t_clauses t_newMany t_rounds t_pinFrom t_pinTimes t_lines t_wasTold t_wasBarred t_goesNow t_jamsNow t_queued t_isKept t_tape u.2) 235 [(3, .int u.1)] []) : ∀ (n : Nat) (s : Int32 × Int32 × (Nat → Int32)), L_X12_dials_63 t_taped t_tape x1 x2 k0 n s = some r → Gx X E 0 0 (W_X12_dials E o_t a_t t_toldDoors t_barredDoors t_taped t_place0 t_length0 t_fault t_number0 t_open t_codeMany t_waiting t_saidMany t_clauses t_newMany t_rounds t_pinFrom t_pinTimes t_lines t_wasTold t_wasBarred t_goesNow t_jamsNow t_queued t_isKept t_tape s.2.2) 63 [(0, .ref o_t), (1, .int x1), (2, .int x2), (3, .int s.1), (4, .int s.2.1)] [] := by
  unfold L_X12_dials_63
  refine lp_ind _ (fun go ih s h => ?_)
  refine g_iload (pc := 63) C dX12_dials_63 4 rfl ?_
  refine g_iload_n (pc := 65) C dX12_dials_65 rfl 2 rfl ?_
  refine g_icmp_ge (pc := 66) (tgt := 235) C dX12_dials_66 (by decide) h (fun h => ?_) (fun h => ?_)
  · refine g_sub [3] rfl ?_
    exact hk0 _ h
  · refine g_iload (pc := 69) C dX12_dials_69 4 rfl ?_
    refine g_istore (pc := 71) (lv' := [(5, .int s.2.1), (0, .ref o_t), (1, .int x1), (2, .int x2), (3, .int s.1), (4, .int s.2.1)]) C dX12_dials_71 (by decide) rfl ?_
    refine g_iconst (pc := 73) (v := 0) C dX12_dials_73 (by decide) ?_
    refine g_istore (pc := 74) (lv' := [(6, .int (0 : Int32)), (5, .int s.2.1), (0, .ref o_t), (1, .int x1), (2, .int x2), (3, .int s.1), (4, .int s.2.1)]) C dX12_dials_74 (by decide) rfl ?_
    refine g_iconst (pc := 76) (v := 0) C dX12_dials_76 (by decide) ?_
    refine g_istore (pc := 77) (lv' := [(7, .int (0 : Int32)), (6, .int (0 : Int32)), (5, .int s.2.1), (0, .ref o_t), (1, .int x1), (2, .int x2), (3, .int s.1), (4, .int s.2.1)]) C dX12_dials_77 (by decide) rfl ?_
    refine g_sub [3, 4, 5, 6, 7, 2, 1, 0] rfl ?_
    refine kL_X12_dials_79 C o_t a_t t_toldDoors t_barredDoors t_place0 t_length0 t_fault t_number0 t_open t_codeMany t_waiting t_saidMany t_clauses t_newMany t_rounds t_pinFrom t_pinTimes t_lines t_wasTold t_wasBarred t_goesNow t_jamsNow t_queued t_isKept t_taped t_tape x1 x2 s.1 s.2.1 _ hret (fun s16 h => ?_) _ _ h
    refine g_iconst (pc := 147) (v := 1) C dX12_dials_147 (by decide) ?_
    refine g_istore (pc := 148) (lv' := [(7, .int (1 : Int32)), (0, .ref o_t), (1, .int x1), (2, .int x2), (3, .int s.1), (4, .int s.2.1), (6, .int s16.1)]) C dX12_dials_148 (by decide) rfl ?_
    refine g_iconst (pc := 150) (v := 0) C dX12_dials_150 (by decide) ?_
    refine g_istore (pc := 151) (lv' := [(8, .int (0 : Int32)), (7, .int (1 : Int32)), (0, .ref o_t), (1, .int x1), (2, .int x2), (3, .int s.1), (4, .int s.2.1), (6, .int s16.1)]) C dX12_dials_151 (by decide) rfl ?_
    refine g_sub [2, 3, 4, 5, 6, 7, 1, 0] rfl ?_
    refine kL_X12_dials_153 C o_t a_t t_toldDoors t_barredDoors t_place0 t_length0 t_fault t_number0 t_open t_codeMany t_waiting t_saidMany t_clauses t_newMany t_rounds t_pinFrom t_pinTimes t_lines t_wasTold t_wasBarred t_goesNow t_jamsNow t_queued t_isKept t_taped t_tape s16.2 x1 x2 s.1 s.2.1 s16.1 _ hret (fun s25 h => ?_) _ _ h
    refine g_iload (pc := 217) C dX12_dials_217 6 rfl ?_
    refine g_if_eq (pc := 219) (tgt := 229) C dX12_dials_219 (by decide) h (fun h => ?_) (fun h => ?_)
    · refine g_iincn (pc := 229) (j := 4) (d := 1) (lv' := fun v26 => [(4, .int v26), (0, .ref o_t), (1, .int x1), (2, .int x2), (3, .int s.1), (6, .int s16.1), (7, .int s25)]) C dX12_dials_229 rfl (by decide) (by decide) (fun _ => rfl) h (fun v26 h => ?_)
      refine g_goto (pc := 232) (tgt := 63) C dX12_dials_232 (by decide) ?_
      refine g_sub [1, 2, 3, 4, 0] rfl ?_
      exact ih _ h
    · refine g_iload_n (pc := 222) C dX12_dials_222 rfl 3 rfl ?_
      refine g_iload (pc := 223) C dX12_dials_223 5 rfl ?_
      obtain ⟨u27, hu27, h⟩ := bs h
      refine g_callS (pc := 225) (st := []) (st1 := [.int u27]) (ws' := (W_X12_dials E o_t a_t t_toldDoors t_barredDoors t_taped t_place0 t_length0 t_fault t_number0 t_open t_codeMany t_waiting t_saidMany t_clauses t_newMany t_rounds t_pinFrom t_pinTimes t_lines t_wasTold t_wasBarred t_goesNow t_jamsNow t_queued t_isKept t_tape s16.2)) C mv_X12_min ms_X12_min ml_X12_345 (c_X12_min X.2.1 E s.1 s16.1 u27 hu27) dX12_dials_225 (by decide) rfl (Nat.le_of_ble_eq_true rfl) [] rfl (by decide) rfl rfl rfl rfl ?_
      refine g_istore_n (pc := 228) (lv' := [(3, .int u27), (0, .ref o_t), (1, .int x1), (2, .int x2), (4, .int s.2.1), (6, .int s16.1), (7, .int s25)]) C dX12_dials_228 rfl (by decide) rfl ?_
      refine g_iincn (pc := 229) (j := 4) (d := 1) (lv' := fun v28 => [(4, .int v28), (3, .int u27), (0, .ref o_t), (1, .int x1), (2, .int x2), (6, .int s16.1), (7, .int s25)]) C dX12_dials_229 rfl (by decide) (by decide) (fun _ => rfl) h (fun v28 h => ?_)
      refine g_goto (pc := 232) (tgt := 63) C dX12_dials_232 (by decide) ?_
      refine g_sub [2, 3, 4, 1, 0] rfl ?_
      exact ih _ h
set_option maxHeartbeats 4000000 in
set_option maxRecDepth 100000 in
theorem c_X12_dials (l : Launch) (E : GE) (o_t : Nat) (a_t : Nat → Nat) (t_toldDoors : Int32) (t_barredDoors : Int32) (t_taped : Int32) (t_place0 : Int32) (t_length0 : Int32) (t_fault : Int32) (t_number0 : Int32) (t_open : Int32) (t_codeMany : Int32) (t_waiting : Int32) (t_saidMany : Int32) (t_clauses : Int32) (t_newMany : Int32) (t_rounds : Int32) (t_pinFrom : Int32) (t_pinTimes : Int32) (t_lines : Int32) (t_wasTold : Int32) (t_wasBarred : Int32) (t_goesNow : Int32) (t_jamsNow : Int32) (t_queued : Int32) (t_isKept : Int32) (t_tape : (Nat → Int32)) (t_turnsOf : (Nat → Int32)) (x1 : Int32) (r : Int32 × Int32 × (Nat → Int32)) (h : f_X12_dials t_taped t_tape t_turnsOf x1 = some r) : Cn l E yX12_dials cX12_dials 9 (some .int) 2 0 0 [.ref o_t, .int x1] (W_X12_dials E o_t a_t t_toldDoors t_barredDoors t_taped t_place0 t_length0 t_fault t_number0 t_open t_codeMany t_waiting t_saidMany t_clauses t_newMany t_rounds t_pinFrom t_pinTimes t_lines t_wasTold t_wasBarred t_goesNow t_jamsNow t_queued t_isKept t_tape t_turnsOf) (fun w => w = (W_X12_dials E o_t a_t t_toldDoors t_barredDoors r.2.1 t_place0 t_length0 t_fault t_number0 t_open t_codeMany t_waiting t_saidMany t_clauses t_newMany t_rounds t_pinFrom t_pinTimes t_lines t_wasTold t_wasBarred t_goesNow t_jamsNow t_queued t_isKept t_tape r.2.2)) (some (.int r.1)) := by
  refine Cn.ofI (by decide +kernel) (Nat.le_of_ble_eq_true rfl) (fun X hX hR C hret => ?_)
  subst hX
  show Gx X E 0 0 (W_X12_dials E o_t a_t t_toldDoors t_barredDoors t_taped t_place0 t_length0 t_fault t_number0 t_open t_codeMany t_waiting t_saidMany t_clauses t_newMany t_rounds t_pinFrom t_pinTimes t_lines t_wasTold t_wasBarred t_goesNow t_jamsNow t_queued t_isKept t_tape t_turnsOf) 0 [(0, .ref o_t), (1, .int x1)] []
  unfold f_X12_dials at h
  refine g_iload_n (pc := 0) C dX12_dials_0 rfl 1 rfl ?_
  refine g_iconst (pc := 1) (v := 2) C dX12_dials_1 (by decide) ?_
  refine g_iconst (pc := 2) (v := 5) C dX12_dials_2 (by decide) ?_
  obtain ⟨u1, hu1, h⟩ := bs h
  refine g_callS (pc := 3) (st := []) (st1 := [.int u1]) (ws' := (W_X12_dials E o_t a_t t_toldDoors t_barredDoors t_taped t_place0 t_length0 t_fault t_number0 t_open t_codeMany t_waiting t_saidMany t_clauses t_newMany t_rounds t_pinFrom t_pinTimes t_lines t_wasTold t_wasBarred t_goesNow t_jamsNow t_queued t_isKept t_tape t_turnsOf)) C mv_X12_in ms_X12_in ml_X12_117 (c_X12_in X.2.1 E x1 (2 : Int32) (5 : Int32) u1 hu1) dX12_dials_3 (by decide) rfl (Nat.le_of_ble_eq_true rfl) [] rfl (by decide) rfl rfl rfl rfl ?_
  refine g_if_eq (pc := 6) (tgt := 17) C dX12_dials_6 (by decide) h (fun h => ?_) (fun h => ?_)
  · refine g_iconst (pc := 17) (v := -1) C dX12_dials_17 (by decide) ?_
    cases h
    exact hret _ _ _ dX12_dials_18 rfl rfl
  · refine g_iload_n (pc := 9) C dX12_dials_9 rfl 1 rfl ?_
    refine g_aload_n (pc := 10) C dX12_dials_10 rfl 0 rfl ?_
    refine g_get (pc := 11) C fl_X12_139 dX12_dials_11 0 rfl rfl ?_
    refine g_icmp_le (pc := 14) (tgt := 19) C dX12_dials_14 (by decide) h (fun h => ?_) (fun h => ?_)
    · refine g_aload_n (pc := 19) C dX12_dials_19 rfl 0 rfl ?_
      refine g_iconst (pc := 20) (v := 0) C dX12_dials_20 (by decide) ?_
      refine g_put (pc := 21) (ws' := (W_X12_dials E o_t a_t t_toldDoors t_barredDoors (0 : Int32) t_place0 t_length0 t_fault t_number0 t_open t_codeMany t_waiting t_saidMany t_clauses t_newMany t_rounds t_pinFrom t_pinTimes t_lines t_wasTold t_wasBarred t_goesNow t_jamsNow t_queued t_isKept t_tape t_turnsOf)) C .int fl_X12_139 dX12_dials_21 0 rfl (by decide +kernel) rfl rfl (Nat.le_of_ble_eq_true rfl) rfl ?_
      refine g_iconst (pc := 24) (v := 1) C dX12_dials_24 (by decide) ?_
      refine g_istore_n (pc := 25) (lv' := [(2, .int (1 : Int32)), (0, .ref o_t), (1, .int x1)]) C dX12_dials_25 rfl (by decide) rfl ?_
      refine g_iconst (pc := 26) (v := 0) C dX12_dials_26 (by decide) ?_
      refine g_istore_n (pc := 27) (lv' := [(3, .int (0 : Int32)), (2, .int (1 : Int32)), (0, .ref o_t), (1, .int x1)]) C dX12_dials_27 rfl (by decide) rfl ?_
      refine g_sub [2, 3, 1, 0] rfl ?_
      refine kL_X12_dials_28 C o_t a_t t_toldDoors t_barredDoors t_place0 t_length0 t_fault t_number0 t_open t_codeMany t_waiting t_saidMany t_clauses t_newMany t_rounds t_pinFrom t_pinTimes t_lines t_wasTold t_wasBarred t_goesNow t_jamsNow t_queued t_isKept (0 : Int32) t_tape t_turnsOf x1 _ hret (fun s5 h => ?_) _ _ h
      refine g_ldcw (pc := 56) C dX12_dials_56 ct_X12_383 ?_
      refine g_istore_n (pc := 59) (lv' := [(3, .int (1000000 : Int32)), (0, .ref o_t), (1, .int x1), (2, .int s5)]) C dX12_dials_59 rfl (by decide) rfl ?_
      refine g_iconst (pc := 60) (v := 0) C dX12_dials_60 (by decide) ?_
      refine g_istore (pc := 61) (lv' := [(4, .int (0 : Int32)), (3, .int (1000000 : Int32)), (0, .ref o_t), (1, .int x1), (2, .int s5)]) C dX12_dials_61 (by decide) rfl ?_
      refine g_sub [2, 3, 4, 1, 0] rfl ?_
      refine kL_X12_dials_63 C o_t a_t t_toldDoors t_barredDoors t_place0 t_length0 t_fault t_number0 t_open t_codeMany t_waiting t_saidMany t_clauses t_newMany t_rounds t_pinFrom t_pinTimes t_lines t_wasTold t_wasBarred t_goesNow t_jamsNow t_queued t_isKept (0 : Int32) t_tape x1 s5 _ hret (fun s29 h => ?_) _ _ h
      refine g_iload_n (pc := 235) C dX12_dials_235 rfl 0 rfl ?_
      refine g_ldcw (pc := 236) C dX12_dials_236 ct_X12_383 ?_
      refine g_icmp_ne (pc := 239) (tgt := 247) C dX12_dials_239 (by decide) h (fun h => ?_) (fun h => ?_)
      · refine g_iload_n (pc := 247) C dX12_dials_247 rfl 0 rfl ?_
        cases h
        exact hret _ _ _ dX12_dials_248 rfl rfl
      · refine g_bipush (pc := 242) (v := -2) C dX12_dials_242 (by decide) ?_
        refine g_goto (pc := 244) (tgt := 248) C dX12_dials_244 (by decide) ?_
        cases h
        exact hret _ _ _ dX12_dials_248 rfl rfl
    · refine g_iconst (pc := 17) (v := -1) C dX12_dials_17 (by decide) ?_
      cases h
      exact hret _ _ _ dX12_dials_18 rfl rfl
