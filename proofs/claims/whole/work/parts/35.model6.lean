abbrev W_X12_landings (E : GE) (O_t : Nat) (a_t : Nat → Nat) (t_toldDoors : Int32) (t_barredDoors : Int32) (t_taped : Int32) (t_place0 : Int32) (t_length0 : Int32) (t_fault : Int32) (t_number0 : Int32) (t_open : Int32) (t_codeMany : Int32) (t_waiting : Int32) (t_saidMany : Int32) (t_clauses : Int32) (t_newMany : Int32) (t_rounds : Int32) (t_pinFrom : Int32) (t_pinTimes : Int32) (t_lines : Int32) (t_wasTold : Int32) (t_wasBarred : Int32) (t_goesNow : Int32) (t_jamsNow : Int32) (t_queued : Int32) (t_isKept : Int32) (t_oneOf : (Nat → Int32)) (t_otherOf : (Nat → Int32)) : va_W := [(O_t, ob_X12 a_t t_toldDoors t_barredDoors t_taped t_place0 t_length0 t_fault t_number0 t_open t_codeMany t_waiting t_saidMany t_clauses t_newMany t_rounds t_pinFrom t_pinTimes t_lines t_wasTold t_wasBarred t_goesNow t_jamsNow t_queued t_isKept), (a_t 4, .inl (E.2.1, 24, .inl t_oneOf)), (a_t 5, .inl (E.2.1, 24, .inl t_otherOf))]
def L_X12_landings_54 (t_toldDoors : Int32) (t_barredDoors : Int32) (t_oneOf : (Nat → Int32)) (t_otherOf : (Nat → Int32)) (x1 : Int32) (x2 : Int32) (k0 : Int32 × Int32 → Option (Int32)) : Nat → Int32 × Int32 × Int32 → Option (Int32) := lp fun go s => if s.2.2 < 0 then (k0 (s.1, s.2.1)) else (f_X12_canOpen t_toldDoors t_barredDoors s.2.2).bind fun u4 => if u4 = 0 then (nm (s.2.2 + (-1 : Int32)) fun v5 => go (s.1, s.2.1, v5)) else (f_X12_groups t_toldDoors t_barredDoors t_oneOf t_otherOf s.2.2).bind fun u6 => if u6 = x2 then (nm (s.2.2 + (-1 : Int32)) fun v9 => go (s.1, s.2.1, v9)) else nm (s.1 + (1 : Int32)) fun v7 => nm (s.2.2 + (-1 : Int32)) fun v8 => go (v7, s.2.2, v8)
def f_X12_landings (t_toldDoors : Int32) (t_barredDoors : Int32) (t_oneOf : (Nat → Int32)) (t_otherOf : (Nat → Int32)) (x1 : Int32) : Option (Int32) := (f_X12_in x1 (0 : Int32) (15 : Int32)).bind fun u1 => if u1 = 0 then ((f_X12_in x1 (100 : Int32) (102 : Int32)).bind fun u2 => if u2 = 0 then (some (-1 : Int32)) else (f_X12_groups t_toldDoors t_barredDoors t_oneOf t_otherOf (-1 : Int32)).bind fun u3 => if x1 = (100 : Int32) then (some u3) else L_X12_landings_54 t_toldDoors t_barredDoors t_oneOf t_otherOf x1 u3 (fun s10 => if x1 = (101 : Int32) then (some s10.1) else some s10.2) fu ((0 : Int32), (-2 : Int32), (23 : Int32))) else (f_X12_groupOf t_toldDoors t_barredDoors t_oneOf t_otherOf x1 (-1 : Int32)).bind fun u11 => some u11
theorem dX12_landings_0 : decode cX12_landings 0 = .ok (.iload_n 1, 1) := by decide +kernel
theorem dX12_landings_1 : decode cX12_landings 1 = .ok (.iconst 0, 1) := by decide +kernel
theorem dX12_landings_2 : decode cX12_landings 2 = .ok (.bipush 15, 2) := by decide +kernel
theorem dX12_landings_4 : decode cX12_landings 4 = .ok (.invokestatic 117, 3) := by decide +kernel
theorem dX12_landings_7 : decode cX12_landings 7 = .ok (.ifCond .eq 10, 3) := by decide +kernel
theorem dX12_landings_10 : decode cX12_landings 10 = .ok (.aload_n 0, 1) := by decide +kernel
theorem dX12_landings_11 : decode cX12_landings 11 = .ok (.iload_n 1, 1) := by decide +kernel
theorem dX12_landings_12 : decode cX12_landings 12 = .ok (.iconst (-1), 1) := by decide +kernel
theorem dX12_landings_13 : decode cX12_landings 13 = .ok (.invokevirtual 390, 3) := by decide +kernel
theorem dX12_landings_16 : decode cX12_landings 16 = .ok (.ireturn, 1) := by decide +kernel
theorem dX12_landings_17 : decode cX12_landings 17 = .ok (.iload_n 1, 1) := by decide +kernel
theorem dX12_landings_18 : decode cX12_landings 18 = .ok (.bipush 100, 2) := by decide +kernel
theorem dX12_landings_20 : decode cX12_landings 20 = .ok (.bipush 102, 2) := by decide +kernel
theorem dX12_landings_22 : decode cX12_landings 22 = .ok (.invokestatic 117, 3) := by decide +kernel
theorem dX12_landings_25 : decode cX12_landings 25 = .ok (.ifCond .ne 5, 3) := by decide +kernel
theorem dX12_landings_28 : decode cX12_landings 28 = .ok (.iconst (-1), 1) := by decide +kernel
theorem dX12_landings_29 : decode cX12_landings 29 = .ok (.ireturn, 1) := by decide +kernel
theorem dX12_landings_30 : decode cX12_landings 30 = .ok (.aload_n 0, 1) := by decide +kernel
theorem dX12_landings_31 : decode cX12_landings 31 = .ok (.iconst (-1), 1) := by decide +kernel
theorem dX12_landings_32 : decode cX12_landings 32 = .ok (.invokevirtual 393, 3) := by decide +kernel
theorem dX12_landings_35 : decode cX12_landings 35 = .ok (.istore_n 2, 1) := by decide +kernel
theorem dX12_landings_36 : decode cX12_landings 36 = .ok (.iload_n 1, 1) := by decide +kernel
theorem dX12_landings_37 : decode cX12_landings 37 = .ok (.bipush 100, 2) := by decide +kernel
theorem dX12_landings_39 : decode cX12_landings 39 = .ok (.if_icmp .ne 5, 3) := by decide +kernel
theorem dX12_landings_42 : decode cX12_landings 42 = .ok (.iload_n 2, 1) := by decide +kernel
theorem dX12_landings_43 : decode cX12_landings 43 = .ok (.ireturn, 1) := by decide +kernel
theorem dX12_landings_44 : decode cX12_landings 44 = .ok (.iconst 0, 1) := by decide +kernel
theorem dX12_landings_45 : decode cX12_landings 45 = .ok (.istore_n 3, 1) := by decide +kernel
theorem dX12_landings_46 : decode cX12_landings 46 = .ok (.bipush (-2), 2) := by decide +kernel
theorem dX12_landings_48 : decode cX12_landings 48 = .ok (.istore 4, 2) := by decide +kernel
theorem dX12_landings_50 : decode cX12_landings 50 = .ok (.bipush 23, 2) := by decide +kernel
theorem dX12_landings_52 : decode cX12_landings 52 = .ok (.istore 5, 2) := by decide +kernel
theorem dX12_landings_54 : decode cX12_landings 54 = .ok (.iload 5, 2) := by decide +kernel
theorem dX12_landings_56 : decode cX12_landings 56 = .ok (.ifCond .lt 39, 3) := by decide +kernel
theorem dX12_landings_59 : decode cX12_landings 59 = .ok (.aload_n 0, 1) := by decide +kernel
theorem dX12_landings_60 : decode cX12_landings 60 = .ok (.iload 5, 2) := by decide +kernel
theorem dX12_landings_62 : decode cX12_landings 62 = .ok (.invokevirtual 329, 3) := by decide +kernel
theorem dX12_landings_65 : decode cX12_landings 65 = .ok (.ifCond .eq 24, 3) := by decide +kernel
theorem dX12_landings_68 : decode cX12_landings 68 = .ok (.aload_n 0, 1) := by decide +kernel
theorem dX12_landings_69 : decode cX12_landings 69 = .ok (.iload 5, 2) := by decide +kernel
theorem dX12_landings_71 : decode cX12_landings 71 = .ok (.invokevirtual 393, 3) := by decide +kernel
theorem dX12_landings_74 : decode cX12_landings 74 = .ok (.iload_n 2, 1) := by decide +kernel
theorem dX12_landings_75 : decode cX12_landings 75 = .ok (.if_icmp .ne 6, 3) := by decide +kernel
theorem dX12_landings_78 : decode cX12_landings 78 = .ok (.goto 11, 3) := by decide +kernel
theorem dX12_landings_81 : decode cX12_landings 81 = .ok (.iload_n 3, 1) := by decide +kernel
theorem dX12_landings_82 : decode cX12_landings 82 = .ok (.iconst 1, 1) := by decide +kernel
theorem dX12_landings_83 : decode cX12_landings 83 = .ok (.iadd, 1) := by decide +kernel
theorem dX12_landings_84 : decode cX12_landings 84 = .ok (.istore_n 3, 1) := by decide +kernel
theorem dX12_landings_85 : decode cX12_landings 85 = .ok (.iload 5, 2) := by decide +kernel
theorem dX12_landings_87 : decode cX12_landings 87 = .ok (.istore 4, 2) := by decide +kernel
theorem dX12_landings_89 : decode cX12_landings 89 = .ok (.iinc 5 (-1), 3) := by decide +kernel
theorem dX12_landings_92 : decode cX12_landings 92 = .ok (.goto (-38), 3) := by decide +kernel
theorem dX12_landings_95 : decode cX12_landings 95 = .ok (.iload_n 1, 1) := by decide +kernel
theorem dX12_landings_96 : decode cX12_landings 96 = .ok (.bipush 101, 2) := by decide +kernel
theorem dX12_landings_98 : decode cX12_landings 98 = .ok (.if_icmp .ne 7, 3) := by decide +kernel
theorem dX12_landings_101 : decode cX12_landings 101 = .ok (.iload_n 3, 1) := by decide +kernel
theorem dX12_landings_102 : decode cX12_landings 102 = .ok (.goto 5, 3) := by decide +kernel
theorem dX12_landings_105 : decode cX12_landings 105 = .ok (.iload 4, 2) := by decide +kernel
theorem dX12_landings_107 : decode cX12_landings 107 = .ok (.ireturn, 1) := by decide +kernel
set_option maxHeartbeats 4000000 in
set_option maxRecDepth 100000 in
theorem kL_X12_landings_54 {X : GC} {E : GE} (C : Cx X E cX12_landings RX12 6 6) (o_t : Nat) (a_t : Nat → Nat) (t_taped : Int32) (t_place0 : Int32) (t_length0 : Int32) (t_fault : Int32) (t_number0 : Int32) (t_open : Int32) (t_codeMany : Int32) (t_waiting : Int32) (t_saidMany : Int32) (t_clauses : Int32) (t_newMany : Int32) (t_rounds : Int32) (t_pinFrom : Int32) (t_pinTimes : Int32) (t_lines : Int32) (t_wasTold : Int32) (t_wasBarred : Int32) (t_goesNow : Int32) (t_jamsNow : Int32) (t_queued : Int32) (t_isKept : Int32) (t_toldDoors : Int32) (t_barredDoors : Int32) (t_oneOf : (Nat → Int32)) (t_otherOf : (Nat → Int32)) (x1 : Int32) (x2 : Int32) (k0 : Int32 × Int32 → Option (Int32)) {r : Int32} (hret : RtI X E cX12_landings .int 0 0 (fun w => w = (W_X12_landings E o_t a_t t_toldDoors t_barredDoors t_taped t_place0 t_length0 t_fault t_number0 t_open t_codeMany t_waiting t_saidMany t_clauses t_newMany t_rounds t_pinFrom t_pinTimes t_lines t_wasTold t_wasBarred t_goesNow t_jamsNow t_queued t_isKept t_oneOf t_otherOf)) r) (hk0 : ∀ u, k0 u = some r → Gx X E 0 0 (W_X12_landings E o_t a_t t_toldDoors t_barredDoors t_taped t_place0 t_length0 t_fault t_number0 t_open t_codeMany t_waiting t_saidMany t_clauses t_newMany t_rounds t_pinFrom t_pinTimes t_lines t_wasTold t_wasBarred t_goesNow t_jamsNow t_queued t_isKept t_oneOf t_otherOf) 95 [(1, .int x1), (3, .int u.1), (4, .int u.2)] []) : ∀ (n : Nat) (s : Int32 × Int32 × Int32), L_X12_landings_54 t_toldDoors t_barredDoors t_oneOf t_otherOf x1 x2 k0 n s = some r → Gx X E 0 0 (W_X12_landings E o_t a_t t_toldDoors t_barredDoors t_taped t_place0 t_length0 t_fault t_number0 t_open t_codeMany t_waiting t_saidMany t_clauses t_newMany t_rounds t_pinFrom t_pinTimes t_lines t_wasTold t_wasBarred t_goesNow t_jamsNow t_queued t_isKept t_oneOf t_otherOf) 54 [(0, .ref o_t), (1, .int x1), (2, .int x2), (3, .int s.1), (4, .int s.2.1), (5, .int s.2.2)] [] := by
  unfold L_X12_landings_54
  refine lp_ind _ (fun go ih s h => ?_)
  refine g_iload (pc := 54) C dX12_landings_54 5 rfl ?_
  refine g_if_lt (pc := 56) (tgt := 95) C dX12_landings_56 (by decide) h (fun h => ?_) (fun h => ?_)
  · refine g_sub [1, 3, 4] rfl ?_
    exact hk0 _ h
  · refine g_aload_n (pc := 59) C dX12_landings_59 rfl 0 rfl ?_
    refine g_iload (pc := 60) C dX12_landings_60 5 rfl ?_
    obtain ⟨u4, hu4, h⟩ := bs h
    refine g_callV (pc := 62) (st := []) (st1 := [.int u4]) (ws' := (W_X12_landings E o_t a_t t_toldDoors t_barredDoors t_taped t_place0 t_length0 t_fault t_number0 t_open t_codeMany t_waiting t_saidMany t_clauses t_newMany t_rounds t_pinFrom t_pinTimes t_lines t_wasTold t_wasBarred t_goesNow t_jamsNow t_queued t_isKept t_oneOf t_otherOf)) C mv_X12_canOpen mi_X12_canOpen ml_X12_329 (c_X12_canOpen X.2.1 E o_t a_t t_toldDoors t_barredDoors t_taped t_place0 t_length0 t_fault t_number0 t_open t_codeMany t_waiting t_saidMany t_clauses t_newMany t_rounds t_pinFrom t_pinTimes t_lines t_wasTold t_wasBarred t_goesNow t_jamsNow t_queued t_isKept s.2.2 u4 hu4) dX12_landings_62 (by decide) rfl (Nat.le_of_ble_eq_true rfl) 0 11 rfl rfl [0] rfl (by decide) rfl rfl rfl rfl ?_
    refine g_if_eq (pc := 65) (tgt := 89) C dX12_landings_65 (by decide) h (fun h => ?_) (fun h => ?_)
    · refine g_iincn (pc := 89) (j := 5) (d := -1) (lv' := fun v5 => [(5, .int v5), (0, .ref o_t), (1, .int x1), (2, .int x2), (3, .int s.1), (4, .int s.2.1)]) C dX12_landings_89 rfl (by decide) (by decide) (fun _ => rfl) h (fun v5 h => ?_)
      refine g_goto (pc := 92) (tgt := 54) C dX12_landings_92 (by decide) ?_
      refine g_sub [1, 2, 3, 4, 5, 0] rfl ?_
      exact ih _ h
    · refine g_aload_n (pc := 68) C dX12_landings_68 rfl 0 rfl ?_
      refine g_iload (pc := 69) C dX12_landings_69 5 rfl ?_
      obtain ⟨u6, hu6, h⟩ := bs h
      refine g_callV (pc := 71) (st := []) (st1 := [.int u6]) (ws' := (W_X12_landings E o_t a_t t_toldDoors t_barredDoors t_taped t_place0 t_length0 t_fault t_number0 t_open t_codeMany t_waiting t_saidMany t_clauses t_newMany t_rounds t_pinFrom t_pinTimes t_lines t_wasTold t_wasBarred t_goesNow t_jamsNow t_queued t_isKept t_oneOf t_otherOf)) C mv_X12_groups mi_X12_groups ml_X12_393 (c_X12_groups X.2.1 E o_t a_t t_toldDoors t_barredDoors t_taped t_place0 t_length0 t_fault t_number0 t_open t_codeMany t_waiting t_saidMany t_clauses t_newMany t_rounds t_pinFrom t_pinTimes t_lines t_wasTold t_wasBarred t_goesNow t_jamsNow t_queued t_isKept t_oneOf t_otherOf s.2.2 u6 hu6) dX12_landings_71 (by decide) rfl (Nat.le_of_ble_eq_true rfl) 0 11 rfl rfl [0, 1, 2] rfl (by decide) rfl rfl rfl rfl ?_
      refine g_iload_n (pc := 74) C dX12_landings_74 rfl 2 rfl ?_
      refine g_icmp_ne (pc := 75) (tgt := 81) C dX12_landings_75 (by decide) h (fun h => ?_) (fun h => ?_)
      · refine g_iload_n (pc := 81) C dX12_landings_81 rfl 3 rfl ?_
        refine g_iconst (pc := 82) (v := 1) C dX12_landings_82 (by decide) ?_
        refine g_iadd (pc := 83) C dX12_landings_83 ?_
        refine g_nm h (fun v7 h => ?_)
        refine g_istore_n (pc := 84) (lv' := [(3, .int v7), (0, .ref o_t), (1, .int x1), (2, .int x2), (4, .int s.2.1), (5, .int s.2.2)]) C dX12_landings_84 rfl (by decide) rfl ?_
        refine g_iload (pc := 85) C dX12_landings_85 5 rfl ?_
        refine g_istore (pc := 87) (lv' := [(4, .int s.2.2), (3, .int v7), (0, .ref o_t), (1, .int x1), (2, .int x2), (5, .int s.2.2)]) C dX12_landings_87 (by decide) rfl ?_
        refine g_iincn (pc := 89) (j := 5) (d := -1) (lv' := fun v8 => [(5, .int v8), (4, .int s.2.2), (3, .int v7), (0, .ref o_t), (1, .int x1), (2, .int x2)]) C dX12_landings_89 rfl (by decide) (by decide) (fun _ => rfl) h (fun v8 h => ?_)
        refine g_goto (pc := 92) (tgt := 54) C dX12_landings_92 (by decide) ?_
        refine g_sub [3, 4, 5, 2, 1, 0] rfl ?_
        exact ih _ h
      · refine g_goto (pc := 78) (tgt := 89) C dX12_landings_78 (by decide) ?_
        refine g_iincn (pc := 89) (j := 5) (d := -1) (lv' := fun v9 => [(5, .int v9), (0, .ref o_t), (1, .int x1), (2, .int x2), (3, .int s.1), (4, .int s.2.1)]) C dX12_landings_89 rfl (by decide) (by decide) (fun _ => rfl) h (fun v9 h => ?_)
        refine g_goto (pc := 92) (tgt := 54) C dX12_landings_92 (by decide) ?_
        refine g_sub [1, 2, 3, 4, 5, 0] rfl ?_
        exact ih _ h
set_option maxHeartbeats 4000000 in
set_option maxRecDepth 100000 in
theorem c_X12_landings (l : Launch) (E : GE) (o_t : Nat) (a_t : Nat → Nat) (t_toldDoors : Int32) (t_barredDoors : Int32) (t_taped : Int32) (t_place0 : Int32) (t_length0 : Int32) (t_fault : Int32) (t_number0 : Int32) (t_open : Int32) (t_codeMany : Int32) (t_waiting : Int32) (t_saidMany : Int32) (t_clauses : Int32) (t_newMany : Int32) (t_rounds : Int32) (t_pinFrom : Int32) (t_pinTimes : Int32) (t_lines : Int32) (t_wasTold : Int32) (t_wasBarred : Int32) (t_goesNow : Int32) (t_jamsNow : Int32) (t_queued : Int32) (t_isKept : Int32) (t_oneOf : (Nat → Int32)) (t_otherOf : (Nat → Int32)) (x1 : Int32) (r : Int32) (h : f_X12_landings t_toldDoors t_barredDoors t_oneOf t_otherOf x1 = some r) : Cn l E yX12_landings cX12_landings 6 (some .int) 6 0 0 [.ref o_t, .int x1] (W_X12_landings E o_t a_t t_toldDoors t_barredDoors t_taped t_place0 t_length0 t_fault t_number0 t_open t_codeMany t_waiting t_saidMany t_clauses t_newMany t_rounds t_pinFrom t_pinTimes t_lines t_wasTold t_wasBarred t_goesNow t_jamsNow t_queued t_isKept t_oneOf t_otherOf) (fun w => w = (W_X12_landings E o_t a_t t_toldDoors t_barredDoors t_taped t_place0 t_length0 t_fault t_number0 t_open t_codeMany t_waiting t_saidMany t_clauses t_newMany t_rounds t_pinFrom t_pinTimes t_lines t_wasTold t_wasBarred t_goesNow t_jamsNow t_queued t_isKept t_oneOf t_otherOf)) (some (.int r)) := by
  refine Cn.ofI (by decide +kernel) (Nat.le_of_ble_eq_true rfl) (fun X hX hR C hret => ?_)
  subst hX
  show Gx X E 0 0 (W_X12_landings E o_t a_t t_toldDoors t_barredDoors t_taped t_place0 t_length0 t_fault t_number0 t_open t_codeMany t_waiting t_saidMany t_clauses t_newMany t_rounds t_pinFrom t_pinTimes t_lines t_wasTold t_wasBarred t_goesNow t_jamsNow t_queued t_isKept t_oneOf t_otherOf) 0 [(0, .ref o_t), (1, .int x1)] []
  unfold f_X12_landings at h
  refine g_iload_n (pc := 0) C dX12_landings_0 rfl 1 rfl ?_
  refine g_iconst (pc := 1) (v := 0) C dX12_landings_1 (by decide) ?_
  refine g_bipush (pc := 2) (v := 15) C dX12_landings_2 (by decide) ?_
  obtain ⟨u1, hu1, h⟩ := bs h
  refine g_callS (pc := 4) (st := []) (st1 := [.int u1]) (ws' := (W_X12_landings E o_t a_t t_toldDoors t_barredDoors t_taped t_place0 t_length0 t_fault t_number0 t_open t_codeMany t_waiting t_saidMany t_clauses t_newMany t_rounds t_pinFrom t_pinTimes t_lines t_wasTold t_wasBarred t_goesNow t_jamsNow t_queued t_isKept t_oneOf t_otherOf)) C mv_X12_in ms_X12_in ml_X12_117 (c_X12_in X.2.1 E x1 (0 : Int32) (15 : Int32) u1 hu1) dX12_landings_4 (by decide) rfl (Nat.le_of_ble_eq_true rfl) [] rfl (by decide) rfl rfl rfl rfl ?_
  refine g_if_eq (pc := 7) (tgt := 17) C dX12_landings_7 (by decide) h (fun h => ?_) (fun h => ?_)
  · refine g_iload_n (pc := 17) C dX12_landings_17 rfl 1 rfl ?_
    refine g_bipush (pc := 18) (v := 100) C dX12_landings_18 (by decide) ?_
    refine g_bipush (pc := 20) (v := 102) C dX12_landings_20 (by decide) ?_
    obtain ⟨u2, hu2, h⟩ := bs h
    refine g_callS (pc := 22) (st := []) (st1 := [.int u2]) (ws' := (W_X12_landings E o_t a_t t_toldDoors t_barredDoors t_taped t_place0 t_length0 t_fault t_number0 t_open t_codeMany t_waiting t_saidMany t_clauses t_newMany t_rounds t_pinFrom t_pinTimes t_lines t_wasTold t_wasBarred t_goesNow t_jamsNow t_queued t_isKept t_oneOf t_otherOf)) C mv_X12_in ms_X12_in ml_X12_117 (c_X12_in X.2.1 E x1 (100 : Int32) (102 : Int32) u2 hu2) dX12_landings_22 (by decide) rfl (Nat.le_of_ble_eq_true rfl) [] rfl (by decide) rfl rfl rfl rfl ?_
    refine g_if_ne (pc := 25) (tgt := 30) C dX12_landings_25 (by decide) h (fun h => ?_) (fun h => ?_)
    · refine g_aload_n (pc := 30) C dX12_landings_30 rfl 0 rfl ?_
      refine g_iconst (pc := 31) (v := -1) C dX12_landings_31 (by decide) ?_
      obtain ⟨u3, hu3, h⟩ := bs h
      refine g_callV (pc := 32) (st := []) (st1 := [.int u3]) (ws' := (W_X12_landings E o_t a_t t_toldDoors t_barredDoors t_taped t_place0 t_length0 t_fault t_number0 t_open t_codeMany t_waiting t_saidMany t_clauses t_newMany t_rounds t_pinFrom t_pinTimes t_lines t_wasTold t_wasBarred t_goesNow t_jamsNow t_queued t_isKept t_oneOf t_otherOf)) C mv_X12_groups mi_X12_groups ml_X12_393 (c_X12_groups X.2.1 E o_t a_t t_toldDoors t_barredDoors t_taped t_place0 t_length0 t_fault t_number0 t_open t_codeMany t_waiting t_saidMany t_clauses t_newMany t_rounds t_pinFrom t_pinTimes t_lines t_wasTold t_wasBarred t_goesNow t_jamsNow t_queued t_isKept t_oneOf t_otherOf (-1 : Int32) u3 hu3) dX12_landings_32 (by decide) rfl (Nat.le_of_ble_eq_true rfl) 0 11 rfl rfl [0, 1, 2] rfl (by decide) rfl rfl rfl rfl ?_
      refine g_istore_n (pc := 35) (lv' := [(2, .int u3), (0, .ref o_t), (1, .int x1)]) C dX12_landings_35 rfl (by decide) rfl ?_
      refine g_iload_n (pc := 36) C dX12_landings_36 rfl 2 rfl ?_
      refine g_bipush (pc := 37) (v := 100) C dX12_landings_37 (by decide) ?_
      refine g_icmp_ne (pc := 39) (tgt := 44) C dX12_landings_39 (by decide) h (fun h => ?_) (fun h => ?_)
      · refine g_iconst (pc := 44) (v := 0) C dX12_landings_44 (by decide) ?_
        refine g_istore_n (pc := 45) (lv' := [(3, .int (0 : Int32)), (2, .int u3), (0, .ref o_t), (1, .int x1)]) C dX12_landings_45 rfl (by decide) rfl ?_
        refine g_bipush (pc := 46) (v := -2) C dX12_landings_46 (by decide) ?_
        refine g_istore (pc := 48) (lv' := [(4, .int (-2 : Int32)), (3, .int (0 : Int32)), (2, .int u3), (0, .ref o_t), (1, .int x1)]) C dX12_landings_48 (by decide) rfl ?_
        refine g_bipush (pc := 50) (v := 23) C dX12_landings_50 (by decide) ?_
        refine g_istore (pc := 52) (lv' := [(5, .int (23 : Int32)), (4, .int (-2 : Int32)), (3, .int (0 : Int32)), (2, .int u3), (0, .ref o_t), (1, .int x1)]) C dX12_landings_52 (by decide) rfl ?_
        refine g_sub [4, 5, 3, 2, 1, 0] rfl ?_
        refine kL_X12_landings_54 C o_t a_t t_taped t_place0 t_length0 t_fault t_number0 t_open t_codeMany t_waiting t_saidMany t_clauses t_newMany t_rounds t_pinFrom t_pinTimes t_lines t_wasTold t_wasBarred t_goesNow t_jamsNow t_queued t_isKept t_toldDoors t_barredDoors t_oneOf t_otherOf x1 u3 _ hret (fun s10 h => ?_) _ _ h
        refine g_iload_n (pc := 95) C dX12_landings_95 rfl 0 rfl ?_
        refine g_bipush (pc := 96) (v := 101) C dX12_landings_96 (by decide) ?_
        refine g_icmp_ne (pc := 98) (tgt := 105) C dX12_landings_98 (by decide) h (fun h => ?_) (fun h => ?_)
        · refine g_iload (pc := 105) C dX12_landings_105 2 rfl ?_
          cases h
          exact hret _ _ _ dX12_landings_107 rfl rfl
        · refine g_iload_n (pc := 101) C dX12_landings_101 rfl 1 rfl ?_
          refine g_goto (pc := 102) (tgt := 107) C dX12_landings_102 (by decide) ?_
          cases h
          exact hret _ _ _ dX12_landings_107 rfl rfl
      · refine g_iload_n (pc := 42) C dX12_landings_42 rfl 0 rfl ?_
        cases h
        exact hret _ _ _ dX12_landings_43 rfl rfl
    · refine g_iconst (pc := 28) (v := -1) C dX12_landings_28 (by decide) ?_
      cases h
      exact hret _ _ _ dX12_landings_29 rfl rfl
  · refine g_aload_n (pc := 10) C dX12_landings_10 rfl 0 rfl ?_
    refine g_iload_n (pc := 11) C dX12_landings_11 rfl 1 rfl ?_
    refine g_iconst (pc := 12) (v := -1) C dX12_landings_12 (by decide) ?_
    obtain ⟨u11, hu11, h⟩ := bs h
    refine g_callV (pc := 13) (st := []) (st1 := [.int u11]) (ws' := (W_X12_landings E o_t a_t t_toldDoors t_barredDoors t_taped t_place0 t_length0 t_fault t_number0 t_open t_codeMany t_waiting t_saidMany t_clauses t_newMany t_rounds t_pinFrom t_pinTimes t_lines t_wasTold t_wasBarred t_goesNow t_jamsNow t_queued t_isKept t_oneOf t_otherOf)) C mv_X12_groupOf mi_X12_groupOf ml_X12_390 (c_X12_groupOf X.2.1 E o_t a_t t_toldDoors t_barredDoors t_taped t_place0 t_length0 t_fault t_number0 t_open t_codeMany t_waiting t_saidMany t_clauses t_newMany t_rounds t_pinFrom t_pinTimes t_lines t_wasTold t_wasBarred t_goesNow t_jamsNow t_queued t_isKept t_oneOf t_otherOf x1 (-1 : Int32) u11 hu11) dX12_landings_13 (by decide) rfl (Nat.le_of_ble_eq_true rfl) 0 11 rfl rfl [0, 1, 2] rfl (by decide) rfl rfl rfl rfl ?_
    cases h
    exact hret _ _ _ dX12_landings_16 rfl rfl
abbrev W_X12_readsCompared (E : GE) (O_t : Nat) (a_t : Nat → Nat) (t_toldDoors : Int32) (t_barredDoors : Int32) (t_taped : Int32) (t_place0 : Int32) (t_length0 : Int32) (t_fault : Int32) (t_number0 : Int32) (t_open : Int32) (t_codeMany : Int32) (t_waiting : Int32) (t_saidMany : Int32) (t_clauses : Int32) (t_newMany : Int32) (t_rounds : Int32) (t_pinFrom : Int32) (t_pinTimes : Int32) (t_lines : Int32) (t_wasTold : Int32) (t_wasBarred : Int32) (t_goesNow : Int32) (t_jamsNow : Int32) (t_queued : Int32) (t_isKept : Int32) (t_tape : (Nat → Int32)) (t_said : (Nat → Int32)) (t_waitsAt : (Nat → Int32)) : va_W := [(O_t, ob_X12 a_t t_toldDoors t_barredDoors t_taped t_place0 t_length0 t_fault t_number0 t_open t_codeMany t_waiting t_saidMany t_clauses t_newMany t_rounds t_pinFrom t_pinTimes t_lines t_wasTold t_wasBarred t_goesNow t_jamsNow t_queued t_isKept), (a_t 13, .inl (E.2.2.1, 260, .inl t_tape)), (a_t 24, .inl (E.2.1, 260, .inl t_said)), (a_t 25, .inl (E.2.1, 260, .inl t_waitsAt))]
def f_X12_readsCompared (t_place0 : Int32) (t_length0 : Int32) (t_fault : Int32) (t_number0 : Int32) (t_open : Int32) (t_codeMany : Int32) (t_waiting : Int32) (t_tape : (Nat → Int32)) (t_said : (Nat → Int32)) (t_waitsAt : (Nat → Int32)) : Option (Int32 × Int32 × Int32 × Int32 × Int32 × Int32 × Int32 × (Nat → Int32) × (Nat → Int32)) := (f_X12_readsSum t_place0 t_length0 t_fault t_number0 t_open t_codeMany t_waiting t_tape t_said t_waitsAt).bind fun u1 => if u1.1 = 0 then (some ((0 : Int32), u1.2.1, u1.2.2.1, u1.2.2.2.1, u1.2.2.2.2.1, u1.2.2.2.2.2.1, u1.2.2.2.2.2.2.1, u1.2.2.2.2.2.2.2.1, u1.2.2.2.2.2.2.2.2)) else (f_X12_here u1.2.1 t_length0 t_tape).bind fun u2 => jn (fun s3 : Int32 => if s3 = (-1 : Int32) then ((f_X12_wrongAt u1.2.2.1 (1 : Int32) u1.2.1).bind fun u8 => gb u8.1 <| some (u8.1, u1.2.1, u8.2, u1.2.2.2.1, u1.2.2.2.2.1, u1.2.2.2.2.2.1, u1.2.2.2.2.2.2.1, u1.2.2.2.2.2.2.2.1, u1.2.2.2.2.2.2.2.2)) else nm (u1.2.1 + (1 : Int32)) fun v4 => (f_X12_readsSum v4 t_length0 u1.2.2.1 u1.2.2.2.1 u1.2.2.2.2.1 u1.2.2.2.2.2.1 u1.2.2.2.2.2.2.1 t_tape u1.2.2.2.2.2.2.2.1 u1.2.2.2.2.2.2.2.2).bind fun u5 => if u5.1 = 0 then (some ((0 : Int32), u5.2.1, u5.2.2.1, u5.2.2.2.1, u5.2.2.2.2.1, u5.2.2.2.2.2.1, u5.2.2.2.2.2.2.1, u5.2.2.2.2.2.2.2.1, u5.2.2.2.2.2.2.2.2)) else (f_X12_notes u5.2.2.2.2.2.1 u5.2.2.2.2.2.2.2.1 s3 (0 : Int32)).bind fun u6 => (f_X12_endsPiece u5.2.2.2.2.1 u6.1 u5.2.2.2.2.2.2.1 u6.2 u5.2.2.2.2.2.2.2.2).bind fun u7 => some ((1 : Int32), u5.2.1, u5.2.2.1, u5.2.2.2.1, u7.1, u7.2.1, u7.2.2.1, u7.2.2.2, u5.2.2.2.2.2.2.2.2)) fun j52 => if u2 = (60 : Int32) then (j52 (7 : Int32)) else (f_X12_here u1.2.1 t_length0 t_tape).bind fun u9 => if u9 = (62 : Int32) then (j52 (8 : Int32)) else (f_X12_here u1.2.1 t_length0 t_tape).bind fun u10 => if u10 = (61 : Int32) then (j52 (9 : Int32)) else j52 (-1 : Int32)
theorem dX12_readsCompared_0 : decode cX12_readsCompared 0 = .ok (.aload_n 0, 1) := by decide +kernel
theorem dX12_readsCompared_1 : decode cX12_readsCompared 1 = .ok (.invokevirtual 209, 3) := by decide +kernel
theorem dX12_readsCompared_4 : decode cX12_readsCompared 4 = .ok (.ifCond .ne 5, 3) := by decide +kernel
theorem dX12_readsCompared_7 : decode cX12_readsCompared 7 = .ok (.iconst 0, 1) := by decide +kernel
theorem dX12_readsCompared_8 : decode cX12_readsCompared 8 = .ok (.ireturn, 1) := by decide +kernel
theorem dX12_readsCompared_9 : decode cX12_readsCompared 9 = .ok (.aload_n 0, 1) := by decide +kernel
theorem dX12_readsCompared_10 : decode cX12_readsCompared 10 = .ok (.invokevirtual 152, 3) := by decide +kernel
theorem dX12_readsCompared_13 : decode cX12_readsCompared 13 = .ok (.bipush 60, 2) := by decide +kernel
theorem dX12_readsCompared_15 : decode cX12_readsCompared 15 = .ok (.if_icmp .ne 8, 3) := by decide +kernel
theorem dX12_readsCompared_18 : decode cX12_readsCompared 18 = .ok (.bipush 7, 2) := by decide +kernel
theorem dX12_readsCompared_20 : decode cX12_readsCompared 20 = .ok (.goto 32, 3) := by decide +kernel
theorem dX12_readsCompared_23 : decode cX12_readsCompared 23 = .ok (.aload_n 0, 1) := by decide +kernel
theorem dX12_readsCompared_24 : decode cX12_readsCompared 24 = .ok (.invokevirtual 152, 3) := by decide +kernel
theorem dX12_readsCompared_27 : decode cX12_readsCompared 27 = .ok (.bipush 62, 2) := by decide +kernel
theorem dX12_readsCompared_29 : decode cX12_readsCompared 29 = .ok (.if_icmp .ne 8, 3) := by decide +kernel
theorem dX12_readsCompared_32 : decode cX12_readsCompared 32 = .ok (.bipush 8, 2) := by decide +kernel
theorem dX12_readsCompared_34 : decode cX12_readsCompared 34 = .ok (.goto 18, 3) := by decide +kernel
theorem dX12_readsCompared_37 : decode cX12_readsCompared 37 = .ok (.aload_n 0, 1) := by decide +kernel
theorem dX12_readsCompared_38 : decode cX12_readsCompared 38 = .ok (.invokevirtual 152, 3) := by decide +kernel
theorem dX12_readsCompared_41 : decode cX12_readsCompared 41 = .ok (.bipush 61, 2) := by decide +kernel
theorem dX12_readsCompared_43 : decode cX12_readsCompared 43 = .ok (.if_icmp .ne 8, 3) := by decide +kernel
theorem dX12_readsCompared_46 : decode cX12_readsCompared 46 = .ok (.bipush 9, 2) := by decide +kernel
theorem dX12_readsCompared_48 : decode cX12_readsCompared 48 = .ok (.goto 4, 3) := by decide +kernel
theorem dX12_readsCompared_51 : decode cX12_readsCompared 51 = .ok (.iconst (-1), 1) := by decide +kernel
theorem dX12_readsCompared_52 : decode cX12_readsCompared 52 = .ok (.istore_n 1, 1) := by decide +kernel
theorem dX12_readsCompared_53 : decode cX12_readsCompared 53 = .ok (.iload_n 1, 1) := by decide +kernel
theorem dX12_readsCompared_54 : decode cX12_readsCompared 54 = .ok (.iconst (-1), 1) := by decide +kernel
theorem dX12_readsCompared_55 : decode cX12_readsCompared 55 = .ok (.if_icmp .ne 13, 3) := by decide +kernel
theorem dX12_readsCompared_58 : decode cX12_readsCompared 58 = .ok (.aload_n 0, 1) := by decide +kernel
theorem dX12_readsCompared_59 : decode cX12_readsCompared 59 = .ok (.iconst 1, 1) := by decide +kernel
theorem dX12_readsCompared_60 : decode cX12_readsCompared 60 = .ok (.aload_n 0, 1) := by decide +kernel
theorem dX12_readsCompared_61 : decode cX12_readsCompared 61 = .ok (.getfield 146, 3) := by decide +kernel
theorem dX12_readsCompared_64 : decode cX12_readsCompared 64 = .ok (.invokevirtual 159, 3) := by decide +kernel
theorem dX12_readsCompared_67 : decode cX12_readsCompared 67 = .ok (.ireturn, 1) := by decide +kernel
theorem dX12_readsCompared_68 : decode cX12_readsCompared 68 = .ok (.aload_n 0, 1) := by decide +kernel
theorem dX12_readsCompared_69 : decode cX12_readsCompared 69 = .ok (.aload_n 0, 1) := by decide +kernel
theorem dX12_readsCompared_70 : decode cX12_readsCompared 70 = .ok (.getfield 146, 3) := by decide +kernel
theorem dX12_readsCompared_73 : decode cX12_readsCompared 73 = .ok (.iconst 1, 1) := by decide +kernel
theorem dX12_readsCompared_74 : decode cX12_readsCompared 74 = .ok (.iadd, 1) := by decide +kernel
theorem dX12_readsCompared_75 : decode cX12_readsCompared 75 = .ok (.putfield 146, 3) := by decide +kernel
theorem dX12_readsCompared_78 : decode cX12_readsCompared 78 = .ok (.aload_n 0, 1) := by decide +kernel
theorem dX12_readsCompared_79 : decode cX12_readsCompared 79 = .ok (.invokevirtual 209, 3) := by decide +kernel
theorem dX12_readsCompared_82 : decode cX12_readsCompared 82 = .ok (.ifCond .ne 5, 3) := by decide +kernel
theorem dX12_readsCompared_85 : decode cX12_readsCompared 85 = .ok (.iconst 0, 1) := by decide +kernel
theorem dX12_readsCompared_86 : decode cX12_readsCompared 86 = .ok (.ireturn, 1) := by decide +kernel
theorem dX12_readsCompared_87 : decode cX12_readsCompared 87 = .ok (.aload_n 0, 1) := by decide +kernel
theorem dX12_readsCompared_88 : decode cX12_readsCompared 88 = .ok (.iload_n 1, 1) := by decide +kernel
theorem dX12_readsCompared_89 : decode cX12_readsCompared 89 = .ok (.iconst 0, 1) := by decide +kernel
theorem dX12_readsCompared_90 : decode cX12_readsCompared 90 = .ok (.invokevirtual 182, 3) := by decide +kernel
theorem dX12_readsCompared_93 : decode cX12_readsCompared 93 = .ok (.aload_n 0, 1) := by decide +kernel
theorem dX12_readsCompared_94 : decode cX12_readsCompared 94 = .ok (.invokevirtual 212, 3) := by decide +kernel
theorem dX12_readsCompared_97 : decode cX12_readsCompared 97 = .ok (.iconst 1, 1) := by decide +kernel
theorem dX12_readsCompared_98 : decode cX12_readsCompared 98 = .ok (.ireturn, 1) := by decide +kernel
set_option maxHeartbeats 4000000 in
set_option maxRecDepth 100000 in
theorem c_X12_readsCompared (l : Launch) (E : GE) (o_t : Nat) (a_t : Nat → Nat) (t_toldDoors : Int32) (t_barredDoors : Int32) (t_taped : Int32) (t_place0 : Int32) (t_length0 : Int32) (t_fault : Int32) (t_number0 : Int32) (t_open : Int32) (t_codeMany : Int32) (t_waiting : Int32) (t_saidMany : Int32) (t_clauses : Int32) (t_newMany : Int32) (t_rounds : Int32) (t_pinFrom : Int32) (t_pinTimes : Int32) (t_lines : Int32) (t_wasTold : Int32) (t_wasBarred : Int32) (t_goesNow : Int32) (t_jamsNow : Int32) (t_queued : Int32) (t_isKept : Int32) (t_tape : (Nat → Int32)) (t_said : (Nat → Int32)) (t_waitsAt : (Nat → Int32)) (r : Int32 × Int32 × Int32 × Int32 × Int32 × Int32 × Int32 × (Nat → Int32) × (Nat → Int32)) (h : f_X12_readsCompared t_place0 t_length0 t_fault t_number0 t_open t_codeMany t_waiting t_tape t_said t_waitsAt = some r) : Cn l E yX12_readsCompared cX12_readsCompared 2 (some .boolean) 6 0 0 [.ref o_t] (W_X12_readsCompared E o_t a_t t_toldDoors t_barredDoors t_taped t_place0 t_length0 t_fault t_number0 t_open t_codeMany t_waiting t_saidMany t_clauses t_newMany t_rounds t_pinFrom t_pinTimes t_lines t_wasTold t_wasBarred t_goesNow t_jamsNow t_queued t_isKept t_tape t_said t_waitsAt) (fun w => w = (W_X12_readsCompared E o_t a_t t_toldDoors t_barredDoors t_taped r.2.1 t_length0 r.2.2.1 r.2.2.2.1 r.2.2.2.2.1 r.2.2.2.2.2.1 r.2.2.2.2.2.2.1 t_saidMany t_clauses t_newMany t_rounds t_pinFrom t_pinTimes t_lines t_wasTold t_wasBarred t_goesNow t_jamsNow t_queued t_isKept t_tape r.2.2.2.2.2.2.2.1 r.2.2.2.2.2.2.2.2)) (some (.int r.1)) := by
  refine Cn.ofI (by decide +kernel) (Nat.le_of_ble_eq_true rfl) (fun X hX hR C hret => ?_)
  subst hX
  show Gx X E 0 0 (W_X12_readsCompared E o_t a_t t_toldDoors t_barredDoors t_taped t_place0 t_length0 t_fault t_number0 t_open t_codeMany t_waiting t_saidMany t_clauses t_newMany t_rounds t_pinFrom t_pinTimes t_lines t_wasTold t_wasBarred t_goesNow t_jamsNow t_queued t_isKept t_tape t_said t_waitsAt) 0 [(0, .ref o_t)] []
  unfold f_X12_readsCompared at h
  refine g_aload_n (pc := 0) C dX12_readsCompared_0 rfl 0 rfl ?_
  obtain ⟨u1, hu1, h⟩ := bs h
  refine g_callV (pc := 1) (st := []) (st1 := [.int u1.1]) (ws' := (W_X12_readsCompared E o_t a_t t_toldDoors t_barredDoors t_taped u1.2.1 t_length0 u1.2.2.1 u1.2.2.2.1 u1.2.2.2.2.1 u1.2.2.2.2.2.1 u1.2.2.2.2.2.2.1 t_saidMany t_clauses t_newMany t_rounds t_pinFrom t_pinTimes t_lines t_wasTold t_wasBarred t_goesNow t_jamsNow t_queued t_isKept t_tape u1.2.2.2.2.2.2.2.1 u1.2.2.2.2.2.2.2.2)) C mv_X12_readsSum mi_X12_readsSum ml_X12_209 (c_X12_readsSum X.2.1 E o_t a_t t_toldDoors t_barredDoors t_taped t_place0 t_length0 t_fault t_number0 t_open t_codeMany t_waiting t_saidMany t_clauses t_newMany t_rounds t_pinFrom t_pinTimes t_lines t_wasTold t_wasBarred t_goesNow t_jamsNow t_queued t_isKept t_tape t_said t_waitsAt u1 hu1) dX12_readsCompared_1 (by decide) rfl (Nat.le_of_ble_eq_true rfl) 0 11 rfl rfl [0, 1, 2, 3] rfl (by decide) rfl rfl rfl rfl ?_
  refine g_if_ne (pc := 4) (tgt := 9) C dX12_readsCompared_4 (by decide) h (fun h => ?_) (fun h => ?_)
  · refine g_aload_n (pc := 9) C dX12_readsCompared_9 rfl 0 rfl ?_
    obtain ⟨u2, hu2, h⟩ := bs h
    refine g_callV (pc := 10) (st := []) (st1 := [.int u2]) (ws' := (W_X12_readsCompared E o_t a_t t_toldDoors t_barredDoors t_taped u1.2.1 t_length0 u1.2.2.1 u1.2.2.2.1 u1.2.2.2.2.1 u1.2.2.2.2.2.1 u1.2.2.2.2.2.2.1 t_saidMany t_clauses t_newMany t_rounds t_pinFrom t_pinTimes t_lines t_wasTold t_wasBarred t_goesNow t_jamsNow t_queued t_isKept t_tape u1.2.2.2.2.2.2.2.1 u1.2.2.2.2.2.2.2.2)) C mv_X12_here mi_X12_here ml_X12_152 (c_X12_here X.2.1 E o_t a_t t_toldDoors t_barredDoors t_taped u1.2.1 t_length0 u1.2.2.1 u1.2.2.2.1 u1.2.2.2.2.1 u1.2.2.2.2.2.1 u1.2.2.2.2.2.2.1 t_saidMany t_clauses t_newMany t_rounds t_pinFrom t_pinTimes t_lines t_wasTold t_wasBarred t_goesNow t_jamsNow t_queued t_isKept t_tape u2 hu2) dX12_readsCompared_10 (by decide) rfl (Nat.le_of_ble_eq_true rfl) 0 11 rfl rfl [0, 1] rfl (by decide) rfl rfl rfl rfl ?_
    refine g_bipush (pc := 13) (v := 60) C dX12_readsCompared_13 (by decide) ?_
    refine g_jn (fun s3 : Int32 => Gx X E 0 0 (W_X12_readsCompared E o_t a_t t_toldDoors t_barredDoors t_taped u1.2.1 t_length0 u1.2.2.1 u1.2.2.2.1 u1.2.2.2.2.1 u1.2.2.2.2.2.1 u1.2.2.2.2.2.2.1 t_saidMany t_clauses t_newMany t_rounds t_pinFrom t_pinTimes t_lines t_wasTold t_wasBarred t_goesNow t_jamsNow t_queued t_isKept t_tape u1.2.2.2.2.2.2.2.1 u1.2.2.2.2.2.2.2.2) 52 [(0, .ref o_t)] [.int s3]) h (fun s3 h => ?_) (fun j52 hj52 h => ?_)
    · refine g_istore_n (pc := 52) (lv' := [(1, .int s3), (0, .ref o_t)]) C dX12_readsCompared_52 rfl (by decide) rfl ?_
      refine g_iload_n (pc := 53) C dX12_readsCompared_53 rfl 0 rfl ?_
      refine g_iconst (pc := 54) (v := -1) C dX12_readsCompared_54 (by decide) ?_
      refine g_icmp_ne (pc := 55) (tgt := 68) C dX12_readsCompared_55 (by decide) h (fun h => ?_) (fun h => ?_)
      · refine g_aload_n (pc := 68) C dX12_readsCompared_68 rfl 1 rfl ?_
        refine g_aload_n (pc := 69) C dX12_readsCompared_69 rfl 1 rfl ?_
        refine g_get (pc := 70) C fl_X12_146 dX12_readsCompared_70 0 rfl rfl ?_
        refine g_iconst (pc := 73) (v := 1) C dX12_readsCompared_73 (by decide) ?_
        refine g_iadd (pc := 74) C dX12_readsCompared_74 ?_
        refine g_nm h (fun v4 h => ?_)
        refine g_put (pc := 75) (ws' := (W_X12_readsCompared E o_t a_t t_toldDoors t_barredDoors t_taped v4 t_length0 u1.2.2.1 u1.2.2.2.1 u1.2.2.2.2.1 u1.2.2.2.2.2.1 u1.2.2.2.2.2.2.1 t_saidMany t_clauses t_newMany t_rounds t_pinFrom t_pinTimes t_lines t_wasTold t_wasBarred t_goesNow t_jamsNow t_queued t_isKept t_tape u1.2.2.2.2.2.2.2.1 u1.2.2.2.2.2.2.2.2)) C .int fl_X12_146 dX12_readsCompared_75 0 rfl (by decide +kernel) rfl rfl (Nat.le_of_ble_eq_true rfl) rfl ?_
        refine g_aload_n (pc := 78) C dX12_readsCompared_78 rfl 1 rfl ?_
        obtain ⟨u5, hu5, h⟩ := bs h
        refine g_callV (pc := 79) (st := []) (st1 := [.int u5.1]) (ws' := (W_X12_readsCompared E o_t a_t t_toldDoors t_barredDoors t_taped u5.2.1 t_length0 u5.2.2.1 u5.2.2.2.1 u5.2.2.2.2.1 u5.2.2.2.2.2.1 u5.2.2.2.2.2.2.1 t_saidMany t_clauses t_newMany t_rounds t_pinFrom t_pinTimes t_lines t_wasTold t_wasBarred t_goesNow t_jamsNow t_queued t_isKept t_tape u5.2.2.2.2.2.2.2.1 u5.2.2.2.2.2.2.2.2)) C mv_X12_readsSum mi_X12_readsSum ml_X12_209 (c_X12_readsSum X.2.1 E o_t a_t t_toldDoors t_barredDoors t_taped v4 t_length0 u1.2.2.1 u1.2.2.2.1 u1.2.2.2.2.1 u1.2.2.2.2.2.1 u1.2.2.2.2.2.2.1 t_saidMany t_clauses t_newMany t_rounds t_pinFrom t_pinTimes t_lines t_wasTold t_wasBarred t_goesNow t_jamsNow t_queued t_isKept t_tape u1.2.2.2.2.2.2.2.1 u1.2.2.2.2.2.2.2.2 u5 hu5) dX12_readsCompared_79 (by decide) rfl (Nat.le_of_ble_eq_true rfl) 0 11 rfl rfl [0, 1, 2, 3] rfl (by decide) rfl rfl rfl rfl ?_
        refine g_if_ne (pc := 82) (tgt := 87) C dX12_readsCompared_82 (by decide) h (fun h => ?_) (fun h => ?_)
        · refine g_aload_n (pc := 87) C dX12_readsCompared_87 rfl 1 rfl ?_
          refine g_iload_n (pc := 88) C dX12_readsCompared_88 rfl 0 rfl ?_
          refine g_iconst (pc := 89) (v := 0) C dX12_readsCompared_89 (by decide) ?_
          obtain ⟨u6, hu6, h⟩ := bs h
          refine g_callV (pc := 90) (st := []) (st1 := []) (ws' := (W_X12_readsCompared E o_t a_t t_toldDoors t_barredDoors t_taped u5.2.1 t_length0 u5.2.2.1 u5.2.2.2.1 u5.2.2.2.2.1 u6.1 u5.2.2.2.2.2.2.1 t_saidMany t_clauses t_newMany t_rounds t_pinFrom t_pinTimes t_lines t_wasTold t_wasBarred t_goesNow t_jamsNow t_queued t_isKept t_tape u6.2 u5.2.2.2.2.2.2.2.2)) C mv_X12_notes mi_X12_notes ml_X12_182 (c_X12_notes X.2.1 E o_t a_t t_toldDoors t_barredDoors t_taped u5.2.1 t_length0 u5.2.2.1 u5.2.2.2.1 u5.2.2.2.2.1 u5.2.2.2.2.2.1 u5.2.2.2.2.2.2.1 t_saidMany t_clauses t_newMany t_rounds t_pinFrom t_pinTimes t_lines t_wasTold t_wasBarred t_goesNow t_jamsNow t_queued t_isKept u5.2.2.2.2.2.2.2.1 s3 (0 : Int32) u6 hu6) dX12_readsCompared_90 (by decide) rfl (Nat.le_of_ble_eq_true rfl) 0 11 rfl rfl [0, 2] rfl (by decide) rfl rfl rfl rfl ?_
          refine g_aload_n (pc := 93) C dX12_readsCompared_93 rfl 1 rfl ?_
          obtain ⟨u7, hu7, h⟩ := bs h
          refine g_callV (pc := 94) (st := []) (st1 := []) (ws' := (W_X12_readsCompared E o_t a_t t_toldDoors t_barredDoors t_taped u5.2.1 t_length0 u5.2.2.1 u5.2.2.2.1 u7.1 u7.2.1 u7.2.2.1 t_saidMany t_clauses t_newMany t_rounds t_pinFrom t_pinTimes t_lines t_wasTold t_wasBarred t_goesNow t_jamsNow t_queued t_isKept t_tape u7.2.2.2 u5.2.2.2.2.2.2.2.2)) C mv_X12_endsPiece mi_X12_endsPiece ml_X12_212 (c_X12_endsPiece X.2.1 E o_t a_t t_toldDoors t_barredDoors t_taped u5.2.1 t_length0 u5.2.2.1 u5.2.2.2.1 u5.2.2.2.2.1 u6.1 u5.2.2.2.2.2.2.1 t_saidMany t_clauses t_newMany t_rounds t_pinFrom t_pinTimes t_lines t_wasTold t_wasBarred t_goesNow t_jamsNow t_queued t_isKept u6.2 u5.2.2.2.2.2.2.2.2 u7 hu7) dX12_readsCompared_94 (by decide) rfl (Nat.le_of_ble_eq_true rfl) 0 11 rfl rfl [0, 2, 3] rfl (by decide) rfl rfl rfl rfl ?_
          refine g_iconst (pc := 97) (v := 1) C dX12_readsCompared_97 (by decide) ?_
          cases h
          exact hret _ _ _ dX12_readsCompared_98 nb1 rfl
        · refine g_iconst (pc := 85) (v := 0) C dX12_readsCompared_85 (by decide) ?_
          cases h
          exact hret _ _ _ dX12_readsCompared_86 nb0 rfl
      · refine g_aload_n (pc := 58) C dX12_readsCompared_58 rfl 1 rfl ?_
        refine g_iconst (pc := 59) (v := 1) C dX12_readsCompared_59 (by decide) ?_
        refine g_aload_n (pc := 60) C dX12_readsCompared_60 rfl 1 rfl ?_
        refine g_get (pc := 61) C fl_X12_146 dX12_readsCompared_61 0 rfl rfl ?_
        obtain ⟨u8, hu8, h⟩ := bs h
        refine g_callV (pc := 64) (st := []) (st1 := [.int u8.1]) (ws' := (W_X12_readsCompared E o_t a_t t_toldDoors t_barredDoors t_taped u1.2.1 t_length0 u8.2 u1.2.2.2.1 u1.2.2.2.2.1 u1.2.2.2.2.2.1 u1.2.2.2.2.2.2.1 t_saidMany t_clauses t_newMany t_rounds t_pinFrom t_pinTimes t_lines t_wasTold t_wasBarred t_goesNow t_jamsNow t_queued t_isKept t_tape u1.2.2.2.2.2.2.2.1 u1.2.2.2.2.2.2.2.2)) C mv_X12_wrongAt mi_X12_wrongAt ml_X12_159 (c_X12_wrongAt X.2.1 E o_t a_t t_toldDoors t_barredDoors t_taped u1.2.1 t_length0 u1.2.2.1 u1.2.2.2.1 u1.2.2.2.2.1 u1.2.2.2.2.2.1 u1.2.2.2.2.2.2.1 t_saidMany t_clauses t_newMany t_rounds t_pinFrom t_pinTimes t_lines t_wasTold t_wasBarred t_goesNow t_jamsNow t_queued t_isKept (1 : Int32) u1.2.1 u8 hu8) dX12_readsCompared_64 (by decide) rfl (Nat.le_of_ble_eq_true rfl) 0 11 rfl rfl [0] rfl (by decide) rfl rfl rfl rfl ?_
        obtain ⟨hgb, h⟩ := gb_is h
        cases h
        exact hret _ _ _ dX12_readsCompared_67 hgb rfl
    refine g_icmp_ne (pc := 15) (tgt := 23) C dX12_readsCompared_15 (by decide) h (fun h => ?_) (fun h => ?_)
    · refine g_aload_n (pc := 23) C dX12_readsCompared_23 rfl 0 rfl ?_
      obtain ⟨u9, hu9, h⟩ := bs h
      refine g_callV (pc := 24) (st := []) (st1 := [.int u9]) (ws' := (W_X12_readsCompared E o_t a_t t_toldDoors t_barredDoors t_taped u1.2.1 t_length0 u1.2.2.1 u1.2.2.2.1 u1.2.2.2.2.1 u1.2.2.2.2.2.1 u1.2.2.2.2.2.2.1 t_saidMany t_clauses t_newMany t_rounds t_pinFrom t_pinTimes t_lines t_wasTold t_wasBarred t_goesNow t_jamsNow t_queued t_isKept t_tape u1.2.2.2.2.2.2.2.1 u1.2.2.2.2.2.2.2.2)) C mv_X12_here mi_X12_here ml_X12_152 (c_X12_here X.2.1 E o_t a_t t_toldDoors t_barredDoors t_taped u1.2.1 t_length0 u1.2.2.1 u1.2.2.2.1 u1.2.2.2.2.1 u1.2.2.2.2.2.1 u1.2.2.2.2.2.2.1 t_saidMany t_clauses t_newMany t_rounds t_pinFrom t_pinTimes t_lines t_wasTold t_wasBarred t_goesNow t_jamsNow t_queued t_isKept t_tape u9 hu9) dX12_readsCompared_24 (by decide) rfl (Nat.le_of_ble_eq_true rfl) 0 11 rfl rfl [0, 1] rfl (by decide) rfl rfl rfl rfl ?_
      refine g_bipush (pc := 27) (v := 62) C dX12_readsCompared_27 (by decide) ?_
      refine g_icmp_ne (pc := 29) (tgt := 37) C dX12_readsCompared_29 (by decide) h (fun h => ?_) (fun h => ?_)
      · refine g_aload_n (pc := 37) C dX12_readsCompared_37 rfl 0 rfl ?_
        obtain ⟨u10, hu10, h⟩ := bs h
        refine g_callV (pc := 38) (st := []) (st1 := [.int u10]) (ws' := (W_X12_readsCompared E o_t a_t t_toldDoors t_barredDoors t_taped u1.2.1 t_length0 u1.2.2.1 u1.2.2.2.1 u1.2.2.2.2.1 u1.2.2.2.2.2.1 u1.2.2.2.2.2.2.1 t_saidMany t_clauses t_newMany t_rounds t_pinFrom t_pinTimes t_lines t_wasTold t_wasBarred t_goesNow t_jamsNow t_queued t_isKept t_tape u1.2.2.2.2.2.2.2.1 u1.2.2.2.2.2.2.2.2)) C mv_X12_here mi_X12_here ml_X12_152 (c_X12_here X.2.1 E o_t a_t t_toldDoors t_barredDoors t_taped u1.2.1 t_length0 u1.2.2.1 u1.2.2.2.1 u1.2.2.2.2.1 u1.2.2.2.2.2.1 u1.2.2.2.2.2.2.1 t_saidMany t_clauses t_newMany t_rounds t_pinFrom t_pinTimes t_lines t_wasTold t_wasBarred t_goesNow t_jamsNow t_queued t_isKept t_tape u10 hu10) dX12_readsCompared_38 (by decide) rfl (Nat.le_of_ble_eq_true rfl) 0 11 rfl rfl [0, 1] rfl (by decide) rfl rfl rfl rfl ?_
        refine g_bipush (pc := 41) (v := 61) C dX12_readsCompared_41 (by decide) ?_
        refine g_icmp_ne (pc := 43) (tgt := 51) C dX12_readsCompared_43 (by decide) h (fun h => ?_) (fun h => ?_)
        · refine g_iconst (pc := 51) (v := -1) C dX12_readsCompared_51 (by decide) ?_
          exact hj52 _ h
        · refine g_bipush (pc := 46) (v := 9) C dX12_readsCompared_46 (by decide) ?_
          refine g_goto (pc := 48) (tgt := 52) C dX12_readsCompared_48 (by decide) ?_
          exact hj52 _ h
      · refine g_bipush (pc := 32) (v := 8) C dX12_readsCompared_32 (by decide) ?_
        refine g_goto (pc := 34) (tgt := 52) C dX12_readsCompared_34 (by decide) ?_
        exact hj52 _ h
    · refine g_bipush (pc := 18) (v := 7) C dX12_readsCompared_18 (by decide) ?_
      refine g_goto (pc := 20) (tgt := 52) C dX12_readsCompared_20 (by decide) ?_
      exact hj52 _ h
  · refine g_iconst (pc := 7) (v := 0) C dX12_readsCompared_7 (by decide) ?_
    cases h
    exact hret _ _ _ dX12_readsCompared_8 nb0 rfl
abbrev W_X12_readsLine (E : GE) (O_t : Nat) (a_t : Nat → Nat) (t_toldDoors : Int32) (t_barredDoors : Int32) (t_taped : Int32) (t_place0 : Int32) (t_length0 : Int32) (t_fault : Int32) (t_number0 : Int32) (t_open : Int32) (t_codeMany : Int32) (t_waiting : Int32) (t_saidMany : Int32) (t_clauses : Int32) (t_newMany : Int32) (t_rounds : Int32) (t_pinFrom : Int32) (t_pinTimes : Int32) (t_lines : Int32) (t_wasTold : Int32) (t_wasBarred : Int32) (t_goesNow : Int32) (t_jamsNow : Int32) (t_queued : Int32) (t_isKept : Int32) (t_now : (Nat → Int32)) (t_prongsOf : (Nat → Int32)) (t_oneOf : (Nat → Int32)) (t_otherOf : (Nat → Int32)) (t_wardsOf : (Nat → Int32)) (t_tape : (Nat → Int32)) : va_W := [(O_t, ob_X12 a_t t_toldDoors t_barredDoors t_taped t_place0 t_length0 t_fault t_number0 t_open t_codeMany t_waiting t_saidMany t_clauses t_newMany t_rounds t_pinFrom t_pinTimes t_lines t_wasTold t_wasBarred t_goesNow t_jamsNow t_queued t_isKept), (a_t 0, .inl (E.2.1, 166, .inl t_now)), (a_t 3, .inl (E.2.1, 6, .inl t_prongsOf)), (a_t 4, .inl (E.2.1, 24, .inl t_oneOf)), (a_t 5, .inl (E.2.1, 24, .inl t_otherOf)), (a_t 6, .inl (E.2.1, 24, .inl t_wardsOf)), (a_t 13, .inl (E.2.2.1, 260, .inl t_tape))]
def f_X12_readsLine (t_toldDoors : Int32) (t_barredDoors : Int32) (t_place0 : Int32) (t_length0 : Int32) (t_fault : Int32) (t_number0 : Int32) (t_lines : Int32) (t_now : (Nat → Int32)) (t_prongsOf : (Nat → Int32)) (t_oneOf : (Nat → Int32)) (t_otherOf : (Nat → Int32)) (t_wardsOf : (Nat → Int32)) (t_tape : (Nat → Int32)) : Option (Int32 × Int32 × Int32 × Int32 × Int32 × Int32 × Int32 × (Nat → Int32) × (Nat → Int32) × (Nat → Int32) × (Nat → Int32) × (Nat → Int32)) := (f_X12_here t_place0 t_length0 t_tape).bind fun u1 => (f_X12_in u1 (97 : Int32) (102 : Int32)).bind fun u2 => jn (fun s3 : Unit => if t_lines = (16 : Int32) then ((f_X12_wrongAt t_fault (4 : Int32) t_place0).bind fun u7 => gb u7.1 <| some (u7.1, t_toldDoors, t_barredDoors, t_place0, u7.2, t_number0, t_lines, t_now, t_prongsOf, t_oneOf, t_otherOf, t_wardsOf)) else nm (t_lines + (1 : Int32)) fun v4 => if u2 = 0 then ((f_X12_readsDoor t_toldDoors t_barredDoors t_place0 t_length0 t_fault t_number0 t_now t_oneOf t_otherOf t_wardsOf t_tape).bind fun u5 => gb u5.1 <| some (u5.1, u5.2.1, u5.2.2.1, u5.2.2.2.1, u5.2.2.2.2.1, u5.2.2.2.2.2.1, v4, u5.2.2.2.2.2.2.1, t_prongsOf, u5.2.2.2.2.2.2.2.1, u5.2.2.2.2.2.2.2.2.1, u5.2.2.2.2.2.2.2.2.2)) else (f_X12_readsKind t_place0 t_length0 t_fault t_number0 t_prongsOf t_tape).bind fun u6 => gb u6.1 <| some (u6.1, t_toldDoors, t_barredDoors, u6.2.1, u6.2.2.1, u6.2.2.2.1, v4, t_now, u6.2.2.2.2, t_oneOf, t_otherOf, t_wardsOf)) fun j33 => if u2 = 0 then ((f_X12_isDigit t_place0 t_length0 t_tape).bind fun u8 => if u8 = 0 then ((f_X12_wrongAt t_fault (1 : Int32) t_place0).bind fun u9 => gb u9.1 <| some (u9.1, t_toldDoors, t_barredDoors, t_place0, u9.2, t_number0, t_lines, t_now, t_prongsOf, t_oneOf, t_otherOf, t_wardsOf)) else j33 ()) else j33 ()
theorem dX12_readsLine_0 : decode cX12_readsLine 0 = .ok (.aload_n 0, 1) := by decide +kernel
theorem dX12_readsLine_1 : decode cX12_readsLine 1 = .ok (.invokevirtual 152, 3) := by decide +kernel
theorem dX12_readsLine_4 : decode cX12_readsLine 4 = .ok (.bipush 97, 2) := by decide +kernel
theorem dX12_readsLine_6 : decode cX12_readsLine 6 = .ok (.bipush 102, 2) := by decide +kernel
theorem dX12_readsLine_8 : decode cX12_readsLine 8 = .ok (.invokestatic 117, 3) := by decide +kernel
theorem dX12_readsLine_11 : decode cX12_readsLine 11 = .ok (.istore_n 1, 1) := by decide +kernel
theorem dX12_readsLine_12 : decode cX12_readsLine 12 = .ok (.iload_n 1, 1) := by decide +kernel
theorem dX12_readsLine_13 : decode cX12_readsLine 13 = .ok (.ifCond .ne 20, 3) := by decide +kernel
theorem dX12_readsLine_16 : decode cX12_readsLine 16 = .ok (.aload_n 0, 1) := by decide +kernel
theorem dX12_readsLine_17 : decode cX12_readsLine 17 = .ok (.invokevirtual 165, 3) := by decide +kernel
theorem dX12_readsLine_20 : decode cX12_readsLine 20 = .ok (.ifCond .ne 13, 3) := by decide +kernel
theorem dX12_readsLine_23 : decode cX12_readsLine 23 = .ok (.aload_n 0, 1) := by decide +kernel
theorem dX12_readsLine_24 : decode cX12_readsLine 24 = .ok (.iconst 1, 1) := by decide +kernel
theorem dX12_readsLine_25 : decode cX12_readsLine 25 = .ok (.aload_n 0, 1) := by decide +kernel
theorem dX12_readsLine_26 : decode cX12_readsLine 26 = .ok (.getfield 146, 3) := by decide +kernel
theorem dX12_readsLine_29 : decode cX12_readsLine 29 = .ok (.invokevirtual 159, 3) := by decide +kernel
theorem dX12_readsLine_32 : decode cX12_readsLine 32 = .ok (.ireturn, 1) := by decide +kernel
theorem dX12_readsLine_33 : decode cX12_readsLine 33 = .ok (.aload_n 0, 1) := by decide +kernel
theorem dX12_readsLine_34 : decode cX12_readsLine 34 = .ok (.getfield 283, 3) := by decide +kernel
theorem dX12_readsLine_37 : decode cX12_readsLine 37 = .ok (.bipush 16, 2) := by decide +kernel
theorem dX12_readsLine_39 : decode cX12_readsLine 39 = .ok (.if_icmp .ne 13, 3) := by decide +kernel
theorem dX12_readsLine_42 : decode cX12_readsLine 42 = .ok (.aload_n 0, 1) := by decide +kernel
theorem dX12_readsLine_43 : decode cX12_readsLine 43 = .ok (.iconst 4, 1) := by decide +kernel
theorem dX12_readsLine_44 : decode cX12_readsLine 44 = .ok (.aload_n 0, 1) := by decide +kernel
theorem dX12_readsLine_45 : decode cX12_readsLine 45 = .ok (.getfield 146, 3) := by decide +kernel
theorem dX12_readsLine_48 : decode cX12_readsLine 48 = .ok (.invokevirtual 159, 3) := by decide +kernel
theorem dX12_readsLine_51 : decode cX12_readsLine 51 = .ok (.ireturn, 1) := by decide +kernel
theorem dX12_readsLine_52 : decode cX12_readsLine 52 = .ok (.aload_n 0, 1) := by decide +kernel
theorem dX12_readsLine_53 : decode cX12_readsLine 53 = .ok (.aload_n 0, 1) := by decide +kernel
theorem dX12_readsLine_54 : decode cX12_readsLine 54 = .ok (.getfield 283, 3) := by decide +kernel
theorem dX12_readsLine_57 : decode cX12_readsLine 57 = .ok (.iconst 1, 1) := by decide +kernel
theorem dX12_readsLine_58 : decode cX12_readsLine 58 = .ok (.iadd, 1) := by decide +kernel
theorem dX12_readsLine_59 : decode cX12_readsLine 59 = .ok (.putfield 283, 3) := by decide +kernel
theorem dX12_readsLine_62 : decode cX12_readsLine 62 = .ok (.iload_n 1, 1) := by decide +kernel
theorem dX12_readsLine_63 : decode cX12_readsLine 63 = .ok (.ifCond .eq 10, 3) := by decide +kernel
theorem dX12_readsLine_66 : decode cX12_readsLine 66 = .ok (.aload_n 0, 1) := by decide +kernel
theorem dX12_readsLine_67 : decode cX12_readsLine 67 = .ok (.invokevirtual 286, 3) := by decide +kernel
theorem dX12_readsLine_70 : decode cX12_readsLine 70 = .ok (.goto 7, 3) := by decide +kernel
theorem dX12_readsLine_73 : decode cX12_readsLine 73 = .ok (.aload_n 0, 1) := by decide +kernel
theorem dX12_readsLine_74 : decode cX12_readsLine 74 = .ok (.invokevirtual 289, 3) := by decide +kernel
theorem dX12_readsLine_77 : decode cX12_readsLine 77 = .ok (.ireturn, 1) := by decide +kernel
set_option maxHeartbeats 4000000 in
set_option maxRecDepth 100000 in
theorem c_X12_readsLine (l : Launch) (E : GE) (o_t : Nat) (a_t : Nat → Nat) (t_toldDoors : Int32) (t_barredDoors : Int32) (t_taped : Int32) (t_place0 : Int32) (t_length0 : Int32) (t_fault : Int32) (t_number0 : Int32) (t_open : Int32) (t_codeMany : Int32) (t_waiting : Int32) (t_saidMany : Int32) (t_clauses : Int32) (t_newMany : Int32) (t_rounds : Int32) (t_pinFrom : Int32) (t_pinTimes : Int32) (t_lines : Int32) (t_wasTold : Int32) (t_wasBarred : Int32) (t_goesNow : Int32) (t_jamsNow : Int32) (t_queued : Int32) (t_isKept : Int32) (t_now : (Nat → Int32)) (t_prongsOf : (Nat → Int32)) (t_oneOf : (Nat → Int32)) (t_otherOf : (Nat → Int32)) (t_wardsOf : (Nat → Int32)) (t_tape : (Nat → Int32)) (r : Int32 × Int32 × Int32 × Int32 × Int32 × Int32 × Int32 × (Nat → Int32) × (Nat → Int32) × (Nat → Int32) × (Nat → Int32) × (Nat → Int32)) (h : f_X12_readsLine t_toldDoors t_barredDoors t_place0 t_length0 t_fault t_number0 t_lines t_now t_prongsOf t_oneOf t_otherOf t_wardsOf t_tape = some r) : Cn l E yX12_readsLine cX12_readsLine 2 (some .boolean) 6 0 0 [.ref o_t] (W_X12_readsLine E o_t a_t t_toldDoors t_barredDoors t_taped t_place0 t_length0 t_fault t_number0 t_open t_codeMany t_waiting t_saidMany t_clauses t_newMany t_rounds t_pinFrom t_pinTimes t_lines t_wasTold t_wasBarred t_goesNow t_jamsNow t_queued t_isKept t_now t_prongsOf t_oneOf t_otherOf t_wardsOf t_tape) (fun w => w = (W_X12_readsLine E o_t a_t r.2.1 r.2.2.1 t_taped r.2.2.2.1 t_length0 r.2.2.2.2.1 r.2.2.2.2.2.1 t_open t_codeMany t_waiting t_saidMany t_clauses t_newMany t_rounds t_pinFrom t_pinTimes r.2.2.2.2.2.2.1 t_wasTold t_wasBarred t_goesNow t_jamsNow t_queued t_isKept r.2.2.2.2.2.2.2.1 r.2.2.2.2.2.2.2.2.1 r.2.2.2.2.2.2.2.2.2.1 r.2.2.2.2.2.2.2.2.2.2.1 r.2.2.2.2.2.2.2.2.2.2.2 t_tape)) (some (.int r.1)) := by
  refine Cn.ofI (by decide +kernel) (Nat.le_of_ble_eq_true rfl) (fun X hX hR C hret => ?_)
  subst hX
  show Gx X E 0 0 (W_X12_readsLine E o_t a_t t_toldDoors t_barredDoors t_taped t_place0 t_length0 t_fault t_number0 t_open t_codeMany t_waiting t_saidMany t_clauses t_newMany t_rounds t_pinFrom t_pinTimes t_lines t_wasTold t_wasBarred t_goesNow t_jamsNow t_queued t_isKept t_now t_prongsOf t_oneOf t_otherOf t_wardsOf t_tape) 0 [(0, .ref o_t)] []
  unfold f_X12_readsLine at h
  refine g_aload_n (pc := 0) C dX12_readsLine_0 rfl 0 rfl ?_
  obtain ⟨u1, hu1, h⟩ := bs h
  refine g_callV (pc := 1) (st := []) (st1 := [.int u1]) (ws' := (W_X12_readsLine E o_t a_t t_toldDoors t_barredDoors t_taped t_place0 t_length0 t_fault t_number0 t_open t_codeMany t_waiting t_saidMany t_clauses t_newMany t_rounds t_pinFrom t_pinTimes t_lines t_wasTold t_wasBarred t_goesNow t_jamsNow t_queued t_isKept t_now t_prongsOf t_oneOf t_otherOf t_wardsOf t_tape)) C mv_X12_here mi_X12_here ml_X12_152 (c_X12_here X.2.1 E o_t a_t t_toldDoors t_barredDoors t_taped t_place0 t_length0 t_fault t_number0 t_open t_codeMany t_waiting t_saidMany t_clauses t_newMany t_rounds t_pinFrom t_pinTimes t_lines t_wasTold t_wasBarred t_goesNow t_jamsNow t_queued t_isKept t_tape u1 hu1) dX12_readsLine_1 (by decide) rfl (Nat.le_of_ble_eq_true rfl) 0 11 rfl rfl [0, 6] rfl (by decide) rfl rfl rfl rfl ?_
  refine g_bipush (pc := 4) (v := 97) C dX12_readsLine_4 (by decide) ?_
  refine g_bipush (pc := 6) (v := 102) C dX12_readsLine_6 (by decide) ?_
  obtain ⟨u2, hu2, h⟩ := bs h
  refine g_callS (pc := 8) (st := []) (st1 := [.int u2]) (ws' := (W_X12_readsLine E o_t a_t t_toldDoors t_barredDoors t_taped t_place0 t_length0 t_fault t_number0 t_open t_codeMany t_waiting t_saidMany t_clauses t_newMany t_rounds t_pinFrom t_pinTimes t_lines t_wasTold t_wasBarred t_goesNow t_jamsNow t_queued t_isKept t_now t_prongsOf t_oneOf t_otherOf t_wardsOf t_tape)) C mv_X12_in ms_X12_in ml_X12_117 (c_X12_in X.2.1 E u1 (97 : Int32) (102 : Int32) u2 hu2) dX12_readsLine_8 (by decide) rfl (Nat.le_of_ble_eq_true rfl) [] rfl (by decide) rfl rfl rfl rfl ?_
  refine g_istore_n (pc := 11) (lv' := [(1, .int u2), (0, .ref o_t)]) C dX12_readsLine_11 rfl (by decide) rfl ?_
  refine g_iload_n (pc := 12) C dX12_readsLine_12 rfl 0 rfl ?_
  refine g_jn (fun s3 : Unit => Gx X E 0 0 (W_X12_readsLine E o_t a_t t_toldDoors t_barredDoors t_taped t_place0 t_length0 t_fault t_number0 t_open t_codeMany t_waiting t_saidMany t_clauses t_newMany t_rounds t_pinFrom t_pinTimes t_lines t_wasTold t_wasBarred t_goesNow t_jamsNow t_queued t_isKept t_now t_prongsOf t_oneOf t_otherOf t_wardsOf t_tape) 33 [(0, .ref o_t), (1, .int u2)] []) h (fun s3 h => ?_) (fun j33 hj33 h => ?_)
  · refine g_aload_n (pc := 33) C dX12_readsLine_33 rfl 0 rfl ?_
    refine g_get (pc := 34) C fl_X12_283 dX12_readsLine_34 0 rfl rfl ?_
    refine g_bipush (pc := 37) (v := 16) C dX12_readsLine_37 (by decide) ?_
    refine g_icmp_ne (pc := 39) (tgt := 52) C dX12_readsLine_39 (by decide) h (fun h => ?_) (fun h => ?_)
    · refine g_aload_n (pc := 52) C dX12_readsLine_52 rfl 0 rfl ?_
      refine g_aload_n (pc := 53) C dX12_readsLine_53 rfl 0 rfl ?_
      refine g_get (pc := 54) C fl_X12_283 dX12_readsLine_54 0 rfl rfl ?_
      refine g_iconst (pc := 57) (v := 1) C dX12_readsLine_57 (by decide) ?_
      refine g_iadd (pc := 58) C dX12_readsLine_58 ?_
      refine g_nm h (fun v4 h => ?_)
      refine g_put (pc := 59) (ws' := (W_X12_readsLine E o_t a_t t_toldDoors t_barredDoors t_taped t_place0 t_length0 t_fault t_number0 t_open t_codeMany t_waiting t_saidMany t_clauses t_newMany t_rounds t_pinFrom t_pinTimes v4 t_wasTold t_wasBarred t_goesNow t_jamsNow t_queued t_isKept t_now t_prongsOf t_oneOf t_otherOf t_wardsOf t_tape)) C .int fl_X12_283 dX12_readsLine_59 0 rfl (by decide +kernel) rfl rfl (Nat.le_of_ble_eq_true rfl) rfl ?_
      refine g_iload_n (pc := 62) C dX12_readsLine_62 rfl 1 rfl ?_
      refine g_if_eq (pc := 63) (tgt := 73) C dX12_readsLine_63 (by decide) h (fun h => ?_) (fun h => ?_)
      · refine g_aload_n (pc := 73) C dX12_readsLine_73 rfl 0 rfl ?_
        obtain ⟨u5, hu5, h⟩ := bs h
        refine g_callV (pc := 74) (st := []) (st1 := [.int u5.1]) (ws' := (W_X12_readsLine E o_t a_t u5.2.1 u5.2.2.1 t_taped u5.2.2.2.1 t_length0 u5.2.2.2.2.1 u5.2.2.2.2.2.1 t_open t_codeMany t_waiting t_saidMany t_clauses t_newMany t_rounds t_pinFrom t_pinTimes v4 t_wasTold t_wasBarred t_goesNow t_jamsNow t_queued t_isKept u5.2.2.2.2.2.2.1 t_prongsOf u5.2.2.2.2.2.2.2.1 u5.2.2.2.2.2.2.2.2.1 u5.2.2.2.2.2.2.2.2.2 t_tape)) C mv_X12_readsDoor mi_X12_readsDoor ml_X12_289 (c_X12_readsDoor X.2.1 E o_t a_t t_toldDoors t_barredDoors t_taped t_place0 t_length0 t_fault t_number0 t_open t_codeMany t_waiting t_saidMany t_clauses t_newMany t_rounds t_pinFrom t_pinTimes v4 t_wasTold t_wasBarred t_goesNow t_jamsNow t_queued t_isKept t_now t_oneOf t_otherOf t_wardsOf t_tape u5 hu5) dX12_readsLine_74 (by decide) rfl (Nat.le_of_ble_eq_true rfl) 0 11 rfl rfl [0, 1, 3, 4, 5, 6] rfl (by decide) rfl rfl rfl rfl ?_
        obtain ⟨hgb, h⟩ := gb_is h
        cases h
        exact hret _ _ _ dX12_readsLine_77 hgb rfl
      · refine g_aload_n (pc := 66) C dX12_readsLine_66 rfl 0 rfl ?_
        obtain ⟨u6, hu6, h⟩ := bs h
        refine g_callV (pc := 67) (st := []) (st1 := [.int u6.1]) (ws' := (W_X12_readsLine E o_t a_t t_toldDoors t_barredDoors t_taped u6.2.1 t_length0 u6.2.2.1 u6.2.2.2.1 t_open t_codeMany t_waiting t_saidMany t_clauses t_newMany t_rounds t_pinFrom t_pinTimes v4 t_wasTold t_wasBarred t_goesNow t_jamsNow t_queued t_isKept t_now u6.2.2.2.2 t_oneOf t_otherOf t_wardsOf t_tape)) C mv_X12_readsKind mi_X12_readsKind ml_X12_286 (c_X12_readsKind X.2.1 E o_t a_t t_toldDoors t_barredDoors t_taped t_place0 t_length0 t_fault t_number0 t_open t_codeMany t_waiting t_saidMany t_clauses t_newMany t_rounds t_pinFrom t_pinTimes v4 t_wasTold t_wasBarred t_goesNow t_jamsNow t_queued t_isKept t_prongsOf t_tape u6 hu6) dX12_readsLine_67 (by decide) rfl (Nat.le_of_ble_eq_true rfl) 0 11 rfl rfl [0, 2, 6] rfl (by decide) rfl rfl rfl rfl ?_
        refine g_goto (pc := 70) (tgt := 77) C dX12_readsLine_70 (by decide) ?_
        obtain ⟨hgb, h⟩ := gb_is h
        cases h
        exact hret _ _ _ dX12_readsLine_77 hgb rfl
    · refine g_aload_n (pc := 42) C dX12_readsLine_42 rfl 0 rfl ?_
      refine g_iconst (pc := 43) (v := 4) C dX12_readsLine_43 (by decide) ?_
      refine g_aload_n (pc := 44) C dX12_readsLine_44 rfl 0 rfl ?_
      refine g_get (pc := 45) C fl_X12_146 dX12_readsLine_45 0 rfl rfl ?_
      obtain ⟨u7, hu7, h⟩ := bs h
      refine g_callV (pc := 48) (st := []) (st1 := [.int u7.1]) (ws' := (W_X12_readsLine E o_t a_t t_toldDoors t_barredDoors t_taped t_place0 t_length0 u7.2 t_number0 t_open t_codeMany t_waiting t_saidMany t_clauses t_newMany t_rounds t_pinFrom t_pinTimes t_lines t_wasTold t_wasBarred t_goesNow t_jamsNow t_queued t_isKept t_now t_prongsOf t_oneOf t_otherOf t_wardsOf t_tape)) C mv_X12_wrongAt mi_X12_wrongAt ml_X12_159 (c_X12_wrongAt X.2.1 E o_t a_t t_toldDoors t_barredDoors t_taped t_place0 t_length0 t_fault t_number0 t_open t_codeMany t_waiting t_saidMany t_clauses t_newMany t_rounds t_pinFrom t_pinTimes t_lines t_wasTold t_wasBarred t_goesNow t_jamsNow t_queued t_isKept (4 : Int32) t_place0 u7 hu7) dX12_readsLine_48 (by decide) rfl (Nat.le_of_ble_eq_true rfl) 0 11 rfl rfl [0] rfl (by decide) rfl rfl rfl rfl ?_
      obtain ⟨hgb, h⟩ := gb_is h
      cases h
      exact hret _ _ _ dX12_readsLine_51 hgb rfl
  refine g_if_ne (pc := 13) (tgt := 33) C dX12_readsLine_13 (by decide) h (fun h => ?_) (fun h => ?_)
  · refine g_sub [1, 0] rfl ?_
    exact hj33 _ h
  · refine g_aload_n (pc := 16) C dX12_readsLine_16 rfl 1 rfl ?_
    obtain ⟨u8, hu8, h⟩ := bs h
    refine g_callV (pc := 17) (st := []) (st1 := [.int u8]) (ws' := (W_X12_readsLine E o_t a_t t_toldDoors t_barredDoors t_taped t_place0 t_length0 t_fault t_number0 t_open t_codeMany t_waiting t_saidMany t_clauses t_newMany t_rounds t_pinFrom t_pinTimes t_lines t_wasTold t_wasBarred t_goesNow t_jamsNow t_queued t_isKept t_now t_prongsOf t_oneOf t_otherOf t_wardsOf t_tape)) C mv_X12_isDigit mi_X12_isDigit ml_X12_165 (c_X12_isDigit X.2.1 E o_t a_t t_toldDoors t_barredDoors t_taped t_place0 t_length0 t_fault t_number0 t_open t_codeMany t_waiting t_saidMany t_clauses t_newMany t_rounds t_pinFrom t_pinTimes t_lines t_wasTold t_wasBarred t_goesNow t_jamsNow t_queued t_isKept t_tape u8 hu8) dX12_readsLine_17 (by decide) rfl (Nat.le_of_ble_eq_true rfl) 0 11 rfl rfl [0, 6] rfl (by decide) rfl rfl rfl rfl ?_
    refine g_if_ne (pc := 20) (tgt := 33) C dX12_readsLine_20 (by decide) h (fun h => ?_) (fun h => ?_)
    · refine g_sub [1, 0] rfl ?_
      exact hj33 _ h
    · refine g_aload_n (pc := 23) C dX12_readsLine_23 rfl 1 rfl ?_
      refine g_iconst (pc := 24) (v := 1) C dX12_readsLine_24 (by decide) ?_
      refine g_aload_n (pc := 25) C dX12_readsLine_25 rfl 1 rfl ?_
      refine g_get (pc := 26) C fl_X12_146 dX12_readsLine_26 0 rfl rfl ?_
      obtain ⟨u9, hu9, h⟩ := bs h
      refine g_callV (pc := 29) (st := []) (st1 := [.int u9.1]) (ws' := (W_X12_readsLine E o_t a_t t_toldDoors t_barredDoors t_taped t_place0 t_length0 u9.2 t_number0 t_open t_codeMany t_waiting t_saidMany t_clauses t_newMany t_rounds t_pinFrom t_pinTimes t_lines t_wasTold t_wasBarred t_goesNow t_jamsNow t_queued t_isKept t_now t_prongsOf t_oneOf t_otherOf t_wardsOf t_tape)) C mv_X12_wrongAt mi_X12_wrongAt ml_X12_159 (c_X12_wrongAt X.2.1 E o_t a_t t_toldDoors t_barredDoors t_taped t_place0 t_length0 t_fault t_number0 t_open t_codeMany t_waiting t_saidMany t_clauses t_newMany t_rounds t_pinFrom t_pinTimes t_lines t_wasTold t_wasBarred t_goesNow t_jamsNow t_queued t_isKept (1 : Int32) t_place0 u9 hu9) dX12_readsLine_29 (by decide) rfl (Nat.le_of_ble_eq_true rfl) 0 11 rfl rfl [0] rfl (by decide) rfl rfl rfl rfl ?_
      obtain ⟨hgb, h⟩ := gb_is h
      cases h
      exact hret _ _ _ dX12_readsLine_32 hgb rfl
abbrev W_X12_turnOf (E : GE) (O_t : Nat) (a_t : Nat → Nat) (t_toldDoors : Int32) (t_barredDoors : Int32) (t_taped : Int32) (t_place0 : Int32) (t_length0 : Int32) (t_fault : Int32) (t_number0 : Int32) (t_open : Int32) (t_codeMany : Int32) (t_waiting : Int32) (t_saidMany : Int32) (t_clauses : Int32) (t_newMany : Int32) (t_rounds : Int32) (t_pinFrom : Int32) (t_pinTimes : Int32) (t_lines : Int32) (t_wasTold : Int32) (t_wasBarred : Int32) (t_goesNow : Int32) (t_jamsNow : Int32) (t_queued : Int32) (t_isKept : Int32) (t_now : (Nat → Int32)) (t_prongsOf : (Nat → Int32)) (t_oneOf : (Nat → Int32)) (t_otherOf : (Nat → Int32)) (t_wardsOf : (Nat → Int32)) (t_codes : (Nat → Int32)) (t_clauseOf : (Nat → Int32)) (t_codeFrom : (Nat → Int32)) (t_codeHalf : (Nat → Int32)) (t_codeTo : (Nat → Int32)) (t_stack : (Nat → Int32)) (t_facts : (Nat → Int32)) : va_W := [(O_t, ob_X12 a_t t_toldDoors t_barredDoors t_taped t_place0 t_length0 t_fault t_number0 t_open t_codeMany t_waiting t_saidMany t_clauses t_newMany t_rounds t_pinFrom t_pinTimes t_lines t_wasTold t_wasBarred t_goesNow t_jamsNow t_queued t_isKept), (a_t 0, .inl (E.2.1, 166, .inl t_now)), (a_t 3, .inl (E.2.1, 6, .inl t_prongsOf)), (a_t 4, .inl (E.2.1, 24, .inl t_oneOf)), (a_t 5, .inl (E.2.1, 24, .inl t_otherOf)), (a_t 6, .inl (E.2.1, 24, .inl t_wardsOf)), (a_t 30, .inl (E.2.1, 260, .inl t_codes)), (a_t 31, .inl (E.2.1, 16, .inl t_clauseOf)), (a_t 32, .inl (E.2.1, 16, .inl t_codeFrom)), (a_t 33, .inl (E.2.1, 16, .inl t_codeHalf)), (a_t 34, .inl (E.2.1, 16, .inl t_codeTo)), (a_t 35, .inl (E.2.1, 260, .inl t_stack)), (a_t 36, .inl (E.2.1, 10, .inl t_facts))]
def f_X12_turnOf (t_toldDoors : Int32) (t_barredDoors : Int32) (t_clauses : Int32) (t_goesNow : Int32) (t_jamsNow : Int32) (t_now : (Nat → Int32)) (t_prongsOf : (Nat → Int32)) (t_oneOf : (Nat → Int32)) (t_otherOf : (Nat → Int32)) (t_wardsOf : (Nat → Int32)) (t_codes : (Nat → Int32)) (t_clauseOf : (Nat → Int32)) (t_codeFrom : (Nat → Int32)) (t_codeHalf : (Nat → Int32)) (t_codeTo : (Nat → Int32)) (t_stack : (Nat → Int32)) (t_facts : (Nat → Int32)) (x1 : Int32) : Option (Int32 × Int32 × (Nat → Int32) × (Nat → Int32) × (Nat → Int32)) := (f_X12_feels t_now t_facts x1).bind fun u1 => (f_X12_holdsAny t_clauses t_codes t_clauseOf t_codeHalf t_codeTo t_stack u1 (120 : Int32)).bind fun u2 => if u2.1 = 0 then ((f_X12_chosenBy t_toldDoors t_barredDoors t_clauses t_now t_prongsOf t_oneOf t_otherOf t_wardsOf t_codes t_clauseOf t_codeFrom t_codeHalf t_codeTo u2.2 u1 x1).bind fun u3 => if u3.1 = (-1 : Int32) then (some (t_goesNow, t_jamsNow, t_now, u3.2.1, u3.2.2)) else (f_X12_feelsDoor t_now t_prongsOf t_oneOf t_otherOf t_wardsOf u3.2.2 x1 u3.1).bind fun u4 => (f_X12_byLaw t_clauses t_codes t_clauseOf t_codeFrom t_codeHalf t_codeTo u3.2.1 u4 (106 : Int32) (10 : Int32)).bind fun u5 => rd u4 10 (5 : Int32) fun v6 => nm (((104 : Int32) + ((6 : Int32) * x1)) + v6) fun v7 => rd t_now 166 v7 fun v8 => wr t_now 166 v7 (v8 - (1 : Int32)) fun g9 => rd g9 166 (165 : Int32) fun v10 => rm (((25173 : Int32) * v10) + (13849 : Int32)) (65536 : Int32) fun v11 => wr g9 166 (165 : Int32) v11 fun g12 => rd g12 166 (165 : Int32) fun v13 => rm v13 (10 : Int32) fun v14 => if u5.1 ≤ v14 then (rd g12 166 ((34 : Int32) + x1) fun v15 => (f_X12_behind t_oneOf t_otherOf u3.1 v15).bind fun u16 => wr g12 166 ((34 : Int32) + x1) u16 fun g17 => nm (t_goesNow + (1 : Int32)) fun v18 => some (v18, t_jamsNow, g17, u5.2, u4)) else rd g12 166 ((0 : Int32) + u3.1) fun v19 => (f_X12_min (99 : Int32) (v19 + (1 : Int32))).bind fun u20 => wr g12 166 ((0 : Int32) + u3.1) u20 fun g21 => nm (t_jamsNow + (1 : Int32)) fun v22 => some (t_goesNow, v22, g21, u5.2, u4)) else some (t_goesNow, t_jamsNow, t_now, u2.2, u1)
theorem dX12_turnOf_0 : decode cX12_turnOf 0 = .ok (.aload_n 0, 1) := by decide +kernel
theorem dX12_turnOf_1 : decode cX12_turnOf 1 = .ok (.iload_n 1, 1) := by decide +kernel
theorem dX12_turnOf_2 : decode cX12_turnOf 2 = .ok (.invokevirtual 314, 3) := by decide +kernel
theorem dX12_turnOf_5 : decode cX12_turnOf 5 = .ok (.aload_n 0, 1) := by decide +kernel
theorem dX12_turnOf_6 : decode cX12_turnOf 6 = .ok (.bipush 120, 2) := by decide +kernel
theorem dX12_turnOf_8 : decode cX12_turnOf 8 = .ok (.invokevirtual 338, 3) := by decide +kernel
theorem dX12_turnOf_11 : decode cX12_turnOf 11 = .ok (.ifCond .eq 4, 3) := by decide +kernel
theorem dX12_turnOf_14 : decode cX12_turnOf 14 = .ok (.return_, 1) := by decide +kernel
theorem dX12_turnOf_15 : decode cX12_turnOf 15 = .ok (.aload_n 0, 1) := by decide +kernel
theorem dX12_turnOf_16 : decode cX12_turnOf 16 = .ok (.iload_n 1, 1) := by decide +kernel
theorem dX12_turnOf_17 : decode cX12_turnOf 17 = .ok (.invokevirtual 341, 3) := by decide +kernel
theorem dX12_turnOf_20 : decode cX12_turnOf 20 = .ok (.istore_n 2, 1) := by decide +kernel
theorem dX12_turnOf_21 : decode cX12_turnOf 21 = .ok (.iload_n 2, 1) := by decide +kernel
theorem dX12_turnOf_22 : decode cX12_turnOf 22 = .ok (.iconst (-1), 1) := by decide +kernel
theorem dX12_turnOf_23 : decode cX12_turnOf 23 = .ok (.if_icmp .ne 4, 3) := by decide +kernel
theorem dX12_turnOf_26 : decode cX12_turnOf 26 = .ok (.return_, 1) := by decide +kernel
theorem dX12_turnOf_27 : decode cX12_turnOf 27 = .ok (.aload_n 0, 1) := by decide +kernel
theorem dX12_turnOf_28 : decode cX12_turnOf 28 = .ok (.iload_n 1, 1) := by decide +kernel
theorem dX12_turnOf_29 : decode cX12_turnOf 29 = .ok (.iload_n 2, 1) := by decide +kernel
theorem dX12_turnOf_30 : decode cX12_turnOf 30 = .ok (.invokevirtual 332, 3) := by decide +kernel
theorem dX12_turnOf_33 : decode cX12_turnOf 33 = .ok (.aload_n 0, 1) := by decide +kernel
theorem dX12_turnOf_34 : decode cX12_turnOf 34 = .ok (.bipush 106, 2) := by decide +kernel
theorem dX12_turnOf_36 : decode cX12_turnOf 36 = .ok (.bipush 10, 2) := by decide +kernel
theorem dX12_turnOf_38 : decode cX12_turnOf 38 = .ok (.invokevirtual 335, 3) := by decide +kernel
theorem dX12_turnOf_41 : decode cX12_turnOf 41 = .ok (.istore_n 3, 1) := by decide +kernel
theorem dX12_turnOf_42 : decode cX12_turnOf 42 = .ok (.bipush 104, 2) := by decide +kernel
theorem dX12_turnOf_44 : decode cX12_turnOf 44 = .ok (.bipush 6, 2) := by decide +kernel
theorem dX12_turnOf_46 : decode cX12_turnOf 46 = .ok (.iload_n 1, 1) := by decide +kernel
theorem dX12_turnOf_47 : decode cX12_turnOf 47 = .ok (.imul, 1) := by decide +kernel
theorem dX12_turnOf_48 : decode cX12_turnOf 48 = .ok (.iadd, 1) := by decide +kernel
theorem dX12_turnOf_49 : decode cX12_turnOf 49 = .ok (.aload_n 0, 1) := by decide +kernel
theorem dX12_turnOf_50 : decode cX12_turnOf 50 = .ok (.getfield 83, 3) := by decide +kernel
theorem dX12_turnOf_53 : decode cX12_turnOf 53 = .ok (.iconst 5, 1) := by decide +kernel
theorem dX12_turnOf_54 : decode cX12_turnOf 54 = .ok (.iaload, 1) := by decide +kernel
theorem dX12_turnOf_55 : decode cX12_turnOf 55 = .ok (.iadd, 1) := by decide +kernel
theorem dX12_turnOf_56 : decode cX12_turnOf 56 = .ok (.istore 4, 2) := by decide +kernel
theorem dX12_turnOf_58 : decode cX12_turnOf 58 = .ok (.aload_n 0, 1) := by decide +kernel
theorem dX12_turnOf_59 : decode cX12_turnOf 59 = .ok (.getfield 7, 3) := by decide +kernel
theorem dX12_turnOf_62 : decode cX12_turnOf 62 = .ok (.iload 4, 2) := by decide +kernel
theorem dX12_turnOf_64 : decode cX12_turnOf 64 = .ok (.aload_n 0, 1) := by decide +kernel
theorem dX12_turnOf_65 : decode cX12_turnOf 65 = .ok (.getfield 7, 3) := by decide +kernel
theorem dX12_turnOf_68 : decode cX12_turnOf 68 = .ok (.iload 4, 2) := by decide +kernel
theorem dX12_turnOf_70 : decode cX12_turnOf 70 = .ok (.iaload, 1) := by decide +kernel
theorem dX12_turnOf_71 : decode cX12_turnOf 71 = .ok (.iconst 1, 1) := by decide +kernel
theorem dX12_turnOf_72 : decode cX12_turnOf 72 = .ok (.isub, 1) := by decide +kernel
theorem dX12_turnOf_73 : decode cX12_turnOf 73 = .ok (.iastore, 1) := by decide +kernel
theorem dX12_turnOf_74 : decode cX12_turnOf 74 = .ok (.aload_n 0, 1) := by decide +kernel
theorem dX12_turnOf_75 : decode cX12_turnOf 75 = .ok (.getfield 7, 3) := by decide +kernel
theorem dX12_turnOf_78 : decode cX12_turnOf 78 = .ok (.sipush 165, 3) := by decide +kernel
theorem dX12_turnOf_81 : decode cX12_turnOf 81 = .ok (.sipush 25173, 3) := by decide +kernel
theorem dX12_turnOf_84 : decode cX12_turnOf 84 = .ok (.aload_n 0, 1) := by decide +kernel
theorem dX12_turnOf_85 : decode cX12_turnOf 85 = .ok (.getfield 7, 3) := by decide +kernel
theorem dX12_turnOf_88 : decode cX12_turnOf 88 = .ok (.sipush 165, 3) := by decide +kernel
theorem dX12_turnOf_91 : decode cX12_turnOf 91 = .ok (.iaload, 1) := by decide +kernel
theorem dX12_turnOf_92 : decode cX12_turnOf 92 = .ok (.imul, 1) := by decide +kernel
theorem dX12_turnOf_93 : decode cX12_turnOf 93 = .ok (.sipush 13849, 3) := by decide +kernel
theorem dX12_turnOf_96 : decode cX12_turnOf 96 = .ok (.iadd, 1) := by decide +kernel
theorem dX12_turnOf_97 : decode cX12_turnOf 97 = .ok (.ldc_w 344, 3) := by decide +kernel
theorem dX12_turnOf_100 : decode cX12_turnOf 100 = .ok (.irem, 1) := by decide +kernel
theorem dX12_turnOf_101 : decode cX12_turnOf 101 = .ok (.iastore, 1) := by decide +kernel
theorem dX12_turnOf_102 : decode cX12_turnOf 102 = .ok (.aload_n 0, 1) := by decide +kernel
theorem dX12_turnOf_103 : decode cX12_turnOf 103 = .ok (.getfield 7, 3) := by decide +kernel
theorem dX12_turnOf_106 : decode cX12_turnOf 106 = .ok (.sipush 165, 3) := by decide +kernel
theorem dX12_turnOf_109 : decode cX12_turnOf 109 = .ok (.iaload, 1) := by decide +kernel
theorem dX12_turnOf_110 : decode cX12_turnOf 110 = .ok (.bipush 10, 2) := by decide +kernel
theorem dX12_turnOf_112 : decode cX12_turnOf 112 = .ok (.irem, 1) := by decide +kernel
theorem dX12_turnOf_113 : decode cX12_turnOf 113 = .ok (.iload_n 3, 1) := by decide +kernel
theorem dX12_turnOf_114 : decode cX12_turnOf 114 = .ok (.if_icmp .ge 39, 3) := by decide +kernel
theorem dX12_turnOf_117 : decode cX12_turnOf 117 = .ok (.aload_n 0, 1) := by decide +kernel
theorem dX12_turnOf_118 : decode cX12_turnOf 118 = .ok (.getfield 7, 3) := by decide +kernel
theorem dX12_turnOf_121 : decode cX12_turnOf 121 = .ok (.iconst 0, 1) := by decide +kernel
theorem dX12_turnOf_122 : decode cX12_turnOf 122 = .ok (.iload_n 2, 1) := by decide +kernel
theorem dX12_turnOf_123 : decode cX12_turnOf 123 = .ok (.iadd, 1) := by decide +kernel
theorem dX12_turnOf_124 : decode cX12_turnOf 124 = .ok (.bipush 99, 2) := by decide +kernel
theorem dX12_turnOf_126 : decode cX12_turnOf 126 = .ok (.aload_n 0, 1) := by decide +kernel
theorem dX12_turnOf_127 : decode cX12_turnOf 127 = .ok (.getfield 7, 3) := by decide +kernel
theorem dX12_turnOf_130 : decode cX12_turnOf 130 = .ok (.iconst 0, 1) := by decide +kernel
theorem dX12_turnOf_131 : decode cX12_turnOf 131 = .ok (.iload_n 2, 1) := by decide +kernel
theorem dX12_turnOf_132 : decode cX12_turnOf 132 = .ok (.iadd, 1) := by decide +kernel
theorem dX12_turnOf_133 : decode cX12_turnOf 133 = .ok (.iaload, 1) := by decide +kernel
theorem dX12_turnOf_134 : decode cX12_turnOf 134 = .ok (.iconst 1, 1) := by decide +kernel
theorem dX12_turnOf_135 : decode cX12_turnOf 135 = .ok (.iadd, 1) := by decide +kernel
theorem dX12_turnOf_136 : decode cX12_turnOf 136 = .ok (.invokestatic 345, 3) := by decide +kernel
theorem dX12_turnOf_139 : decode cX12_turnOf 139 = .ok (.iastore, 1) := by decide +kernel
theorem dX12_turnOf_140 : decode cX12_turnOf 140 = .ok (.aload_n 0, 1) := by decide +kernel
theorem dX12_turnOf_141 : decode cX12_turnOf 141 = .ok (.aload_n 0, 1) := by decide +kernel
theorem dX12_turnOf_142 : decode cX12_turnOf 142 = .ok (.getfield 348, 3) := by decide +kernel
theorem dX12_turnOf_145 : decode cX12_turnOf 145 = .ok (.iconst 1, 1) := by decide +kernel
theorem dX12_turnOf_146 : decode cX12_turnOf 146 = .ok (.iadd, 1) := by decide +kernel
theorem dX12_turnOf_147 : decode cX12_turnOf 147 = .ok (.putfield 348, 3) := by decide +kernel
theorem dX12_turnOf_150 : decode cX12_turnOf 150 = .ok (.goto 36, 3) := by decide +kernel
theorem dX12_turnOf_153 : decode cX12_turnOf 153 = .ok (.aload_n 0, 1) := by decide +kernel
theorem dX12_turnOf_154 : decode cX12_turnOf 154 = .ok (.getfield 7, 3) := by decide +kernel
theorem dX12_turnOf_157 : decode cX12_turnOf 157 = .ok (.bipush 34, 2) := by decide +kernel
theorem dX12_turnOf_159 : decode cX12_turnOf 159 = .ok (.iload_n 1, 1) := by decide +kernel
theorem dX12_turnOf_160 : decode cX12_turnOf 160 = .ok (.iadd, 1) := by decide +kernel
theorem dX12_turnOf_161 : decode cX12_turnOf 161 = .ok (.aload_n 0, 1) := by decide +kernel
theorem dX12_turnOf_162 : decode cX12_turnOf 162 = .ok (.iload_n 2, 1) := by decide +kernel
theorem dX12_turnOf_163 : decode cX12_turnOf 163 = .ok (.aload_n 0, 1) := by decide +kernel
theorem dX12_turnOf_164 : decode cX12_turnOf 164 = .ok (.getfield 7, 3) := by decide +kernel
theorem dX12_turnOf_167 : decode cX12_turnOf 167 = .ok (.bipush 34, 2) := by decide +kernel
theorem dX12_turnOf_169 : decode cX12_turnOf 169 = .ok (.iload_n 1, 1) := by decide +kernel
theorem dX12_turnOf_170 : decode cX12_turnOf 170 = .ok (.iadd, 1) := by decide +kernel
theorem dX12_turnOf_171 : decode cX12_turnOf 171 = .ok (.iaload, 1) := by decide +kernel
theorem dX12_turnOf_172 : decode cX12_turnOf 172 = .ok (.invokevirtual 317, 3) := by decide +kernel
theorem dX12_turnOf_175 : decode cX12_turnOf 175 = .ok (.iastore, 1) := by decide +kernel
theorem dX12_turnOf_176 : decode cX12_turnOf 176 = .ok (.aload_n 0, 1) := by decide +kernel
theorem dX12_turnOf_177 : decode cX12_turnOf 177 = .ok (.aload_n 0, 1) := by decide +kernel
theorem dX12_turnOf_178 : decode cX12_turnOf 178 = .ok (.getfield 351, 3) := by decide +kernel
theorem dX12_turnOf_181 : decode cX12_turnOf 181 = .ok (.iconst 1, 1) := by decide +kernel
theorem dX12_turnOf_182 : decode cX12_turnOf 182 = .ok (.iadd, 1) := by decide +kernel
theorem dX12_turnOf_183 : decode cX12_turnOf 183 = .ok (.putfield 351, 3) := by decide +kernel
theorem dX12_turnOf_186 : decode cX12_turnOf 186 = .ok (.return_, 1) := by decide +kernel
set_option maxHeartbeats 4000000 in
set_option maxRecDepth 100000 in
theorem c_X12_turnOf (l : Launch) (E : GE) (o_t : Nat) (a_t : Nat → Nat) (t_toldDoors : Int32) (t_barredDoors : Int32) (t_taped : Int32) (t_place0 : Int32) (t_length0 : Int32) (t_fault : Int32) (t_number0 : Int32) (t_open : Int32) (t_codeMany : Int32) (t_waiting : Int32) (t_saidMany : Int32) (t_clauses : Int32) (t_newMany : Int32) (t_rounds : Int32) (t_pinFrom : Int32) (t_pinTimes : Int32) (t_lines : Int32) (t_wasTold : Int32) (t_wasBarred : Int32) (t_goesNow : Int32) (t_jamsNow : Int32) (t_queued : Int32) (t_isKept : Int32) (t_now : (Nat → Int32)) (t_prongsOf : (Nat → Int32)) (t_oneOf : (Nat → Int32)) (t_otherOf : (Nat → Int32)) (t_wardsOf : (Nat → Int32)) (t_codes : (Nat → Int32)) (t_clauseOf : (Nat → Int32)) (t_codeFrom : (Nat → Int32)) (t_codeHalf : (Nat → Int32)) (t_codeTo : (Nat → Int32)) (t_stack : (Nat → Int32)) (t_facts : (Nat → Int32)) (x1 : Int32) (r : Int32 × Int32 × (Nat → Int32) × (Nat → Int32) × (Nat → Int32)) (h : f_X12_turnOf t_toldDoors t_barredDoors t_clauses t_goesNow t_jamsNow t_now t_prongsOf t_oneOf t_otherOf t_wardsOf t_codes t_clauseOf t_codeFrom t_codeHalf t_codeTo t_stack t_facts x1 = some r) : Cn l E yX12_turnOf cX12_turnOf 5 none 6 0 0 [.ref o_t, .int x1] (W_X12_turnOf E o_t a_t t_toldDoors t_barredDoors t_taped t_place0 t_length0 t_fault t_number0 t_open t_codeMany t_waiting t_saidMany t_clauses t_newMany t_rounds t_pinFrom t_pinTimes t_lines t_wasTold t_wasBarred t_goesNow t_jamsNow t_queued t_isKept t_now t_prongsOf t_oneOf t_otherOf t_wardsOf t_codes t_clauseOf t_codeFrom t_codeHalf t_codeTo t_stack t_facts) (fun w => w = (W_X12_turnOf E o_t a_t t_toldDoors t_barredDoors t_taped t_place0 t_length0 t_fault t_number0 t_open t_codeMany t_waiting t_saidMany t_clauses t_newMany t_rounds t_pinFrom t_pinTimes t_lines t_wasTold t_wasBarred r.1 r.2.1 t_queued t_isKept r.2.2.1 t_prongsOf t_oneOf t_otherOf t_wardsOf t_codes t_clauseOf t_codeFrom t_codeHalf t_codeTo r.2.2.2.1 r.2.2.2.2)) none := by
  refine Cn.ofV (by decide +kernel) (Nat.le_of_ble_eq_true rfl) (fun X hX hR C hret => ?_)
  subst hX
  show Gx X E 0 0 (W_X12_turnOf E o_t a_t t_toldDoors t_barredDoors t_taped t_place0 t_length0 t_fault t_number0 t_open t_codeMany t_waiting t_saidMany t_clauses t_newMany t_rounds t_pinFrom t_pinTimes t_lines t_wasTold t_wasBarred t_goesNow t_jamsNow t_queued t_isKept t_now t_prongsOf t_oneOf t_otherOf t_wardsOf t_codes t_clauseOf t_codeFrom t_codeHalf t_codeTo t_stack t_facts) 0 [(0, .ref o_t), (1, .int x1)] []
  unfold f_X12_turnOf at h
  refine g_aload_n (pc := 0) C dX12_turnOf_0 rfl 0 rfl ?_
  refine g_iload_n (pc := 1) C dX12_turnOf_1 rfl 1 rfl ?_
  obtain ⟨u1, hu1, h⟩ := bs h
  refine g_callV (pc := 2) (st := []) (st1 := []) (ws' := (W_X12_turnOf E o_t a_t t_toldDoors t_barredDoors t_taped t_place0 t_length0 t_fault t_number0 t_open t_codeMany t_waiting t_saidMany t_clauses t_newMany t_rounds t_pinFrom t_pinTimes t_lines t_wasTold t_wasBarred t_goesNow t_jamsNow t_queued t_isKept t_now t_prongsOf t_oneOf t_otherOf t_wardsOf t_codes t_clauseOf t_codeFrom t_codeHalf t_codeTo t_stack u1)) C mv_X12_feels mi_X12_feels ml_X12_314 (c_X12_feels X.2.1 E o_t a_t t_toldDoors t_barredDoors t_taped t_place0 t_length0 t_fault t_number0 t_open t_codeMany t_waiting t_saidMany t_clauses t_newMany t_rounds t_pinFrom t_pinTimes t_lines t_wasTold t_wasBarred t_goesNow t_jamsNow t_queued t_isKept t_now t_facts x1 u1 hu1) dX12_turnOf_2 (by decide) rfl (Nat.le_of_ble_eq_true rfl) 0 11 rfl rfl [0, 1, 12] rfl (by decide) rfl rfl rfl rfl ?_
  refine g_aload_n (pc := 5) C dX12_turnOf_5 rfl 0 rfl ?_
  refine g_bipush (pc := 6) (v := 120) C dX12_turnOf_6 (by decide) ?_
  obtain ⟨u2, hu2, h⟩ := bs h
  refine g_callV (pc := 8) (st := []) (st1 := [.int u2.1]) (ws' := (W_X12_turnOf E o_t a_t t_toldDoors t_barredDoors t_taped t_place0 t_length0 t_fault t_number0 t_open t_codeMany t_waiting t_saidMany t_clauses t_newMany t_rounds t_pinFrom t_pinTimes t_lines t_wasTold t_wasBarred t_goesNow t_jamsNow t_queued t_isKept t_now t_prongsOf t_oneOf t_otherOf t_wardsOf t_codes t_clauseOf t_codeFrom t_codeHalf t_codeTo u2.2 u1)) C mv_X12_holdsAny mi_X12_holdsAny ml_X12_338 (c_X12_holdsAny X.2.1 E o_t a_t t_toldDoors t_barredDoors t_taped t_place0 t_length0 t_fault t_number0 t_open t_codeMany t_waiting t_saidMany t_clauses t_newMany t_rounds t_pinFrom t_pinTimes t_lines t_wasTold t_wasBarred t_goesNow t_jamsNow t_queued t_isKept t_codes t_clauseOf t_codeHalf t_codeTo t_stack u1 (120 : Int32) u2 hu2) dX12_turnOf_8 (by decide) rfl (Nat.le_of_ble_eq_true rfl) 0 11 rfl rfl [0, 6, 7, 9, 10, 11, 12] rfl (by decide) rfl rfl rfl rfl ?_
  refine g_if_eq (pc := 11) (tgt := 15) C dX12_turnOf_11 (by decide) h (fun h => ?_) (fun h => ?_)
  · refine g_aload_n (pc := 15) C dX12_turnOf_15 rfl 0 rfl ?_
    refine g_iload_n (pc := 16) C dX12_turnOf_16 rfl 1 rfl ?_
    obtain ⟨u3, hu3, h⟩ := bs h
    refine g_callV (pc := 17) (st := []) (st1 := [.int u3.1]) (ws' := (W_X12_turnOf E o_t a_t t_toldDoors t_barredDoors t_taped t_place0 t_length0 t_fault t_number0 t_open t_codeMany t_waiting t_saidMany t_clauses t_newMany t_rounds t_pinFrom t_pinTimes t_lines t_wasTold t_wasBarred t_goesNow t_jamsNow t_queued t_isKept t_now t_prongsOf t_oneOf t_otherOf t_wardsOf t_codes t_clauseOf t_codeFrom t_codeHalf t_codeTo u3.2.1 u3.2.2)) C mv_X12_chosenBy mi_X12_chosenBy ml_X12_341 (c_X12_chosenBy X.2.1 E o_t a_t t_toldDoors t_barredDoors t_taped t_place0 t_length0 t_fault t_number0 t_open t_codeMany t_waiting t_saidMany t_clauses t_newMany t_rounds t_pinFrom t_pinTimes t_lines t_wasTold t_wasBarred t_goesNow t_jamsNow t_queued t_isKept t_now t_prongsOf t_oneOf t_otherOf t_wardsOf t_codes t_clauseOf t_codeFrom t_codeHalf t_codeTo u2.2 u1 x1 u3 hu3) dX12_turnOf_17 (by decide) rfl (Nat.le_of_ble_eq_true rfl) 0 11 rfl rfl [0, 1, 2, 3, 4, 5, 6, 7, 8, 9, 10, 11, 12] rfl (by decide) rfl rfl rfl rfl ?_
    refine g_istore_n (pc := 20) (lv' := [(2, .int u3.1), (0, .ref o_t), (1, .int x1)]) C dX12_turnOf_20 rfl (by decide) rfl ?_
    refine g_iload_n (pc := 21) C dX12_turnOf_21 rfl 0 rfl ?_
    refine g_iconst (pc := 22) (v := -1) C dX12_turnOf_22 (by decide) ?_
    refine g_icmp_ne (pc := 23) (tgt := 27) C dX12_turnOf_23 (by decide) h (fun h => ?_) (fun h => ?_)
    · refine g_aload_n (pc := 27) C dX12_turnOf_27 rfl 1 rfl ?_
      refine g_iload_n (pc := 28) C dX12_turnOf_28 rfl 2 rfl ?_
      refine g_iload_n (pc := 29) C dX12_turnOf_29 rfl 0 rfl ?_
      obtain ⟨u4, hu4, h⟩ := bs h
      refine g_callV (pc := 30) (st := []) (st1 := []) (ws' := (W_X12_turnOf E o_t a_t t_toldDoors t_barredDoors t_taped t_place0 t_length0 t_fault t_number0 t_open t_codeMany t_waiting t_saidMany t_clauses t_newMany t_rounds t_pinFrom t_pinTimes t_lines t_wasTold t_wasBarred t_goesNow t_jamsNow t_queued t_isKept t_now t_prongsOf t_oneOf t_otherOf t_wardsOf t_codes t_clauseOf t_codeFrom t_codeHalf t_codeTo u3.2.1 u4)) C mv_X12_feelsDoor mi_X12_feelsDoor ml_X12_332 (c_X12_feelsDoor X.2.1 E o_t a_t t_toldDoors t_barredDoors t_taped t_place0 t_length0 t_fault t_number0 t_open t_codeMany t_waiting t_saidMany t_clauses t_newMany t_rounds t_pinFrom t_pinTimes t_lines t_wasTold t_wasBarred t_goesNow t_jamsNow t_queued t_isKept t_now t_prongsOf t_oneOf t_otherOf t_wardsOf u3.2.2 x1 u3.1 u4 hu4) dX12_turnOf_30 (by decide) rfl (Nat.le_of_ble_eq_true rfl) 0 11 rfl rfl [0, 1, 2, 3, 4, 5, 12] rfl (by decide) rfl rfl rfl rfl ?_
      refine g_aload_n (pc := 33) C dX12_turnOf_33 rfl 1 rfl ?_
      refine g_bipush (pc := 34) (v := 106) C dX12_turnOf_34 (by decide) ?_
      refine g_bipush (pc := 36) (v := 10) C dX12_turnOf_36 (by decide) ?_
      obtain ⟨u5, hu5, h⟩ := bs h
      refine g_callV (pc := 38) (st := []) (st1 := [.int u5.1]) (ws' := (W_X12_turnOf E o_t a_t t_toldDoors t_barredDoors t_taped t_place0 t_length0 t_fault t_number0 t_open t_codeMany t_waiting t_saidMany t_clauses t_newMany t_rounds t_pinFrom t_pinTimes t_lines t_wasTold t_wasBarred t_goesNow t_jamsNow t_queued t_isKept t_now t_prongsOf t_oneOf t_otherOf t_wardsOf t_codes t_clauseOf t_codeFrom t_codeHalf t_codeTo u5.2 u4)) C mv_X12_byLaw mi_X12_byLaw ml_X12_335 (c_X12_byLaw X.2.1 E o_t a_t t_toldDoors t_barredDoors t_taped t_place0 t_length0 t_fault t_number0 t_open t_codeMany t_waiting t_saidMany t_clauses t_newMany t_rounds t_pinFrom t_pinTimes t_lines t_wasTold t_wasBarred t_goesNow t_jamsNow t_queued t_isKept t_codes t_clauseOf t_codeFrom t_codeHalf t_codeTo u3.2.1 u4 (106 : Int32) (10 : Int32) u5 hu5) dX12_turnOf_38 (by decide) rfl (Nat.le_of_ble_eq_true rfl) 0 11 rfl rfl [0, 6, 7, 8, 9, 10, 11, 12] rfl (by decide) rfl rfl rfl rfl ?_
      refine g_istore_n (pc := 41) (lv' := [(3, .int u5.1), (2, .int u3.1), (0, .ref o_t), (1, .int x1)]) C dX12_turnOf_41 rfl (by decide) rfl ?_
      refine g_bipush (pc := 42) (v := 104) C dX12_turnOf_42 (by decide) ?_
      refine g_bipush (pc := 44) (v := 6) C dX12_turnOf_44 (by decide) ?_
      refine g_iload_n (pc := 46) C dX12_turnOf_46 rfl 3 rfl ?_
      refine g_imul (pc := 47) C dX12_turnOf_47 ?_
      refine g_iadd (pc := 48) C dX12_turnOf_48 ?_
      refine g_aload_n (pc := 49) C dX12_turnOf_49 rfl 2 rfl ?_
      refine g_get (pc := 50) C fl_X12_83 dX12_turnOf_50 0 rfl rfl ?_
      refine g_iconst (pc := 53) (v := 5) C dX12_turnOf_53 (by decide) ?_
      refine g_iald (pc := 54) C dX12_turnOf_54 12 rfl h (fun v6 h => ?_)
      refine g_iadd (pc := 55) C dX12_turnOf_55 ?_
      refine g_nm h (fun v7 h => ?_)
      refine g_istore (pc := 56) (lv' := [(4, .int v7), (3, .int u5.1), (2, .int u3.1), (0, .ref o_t), (1, .int x1)]) C dX12_turnOf_56 (by decide) rfl ?_
      refine g_aload_n (pc := 58) C dX12_turnOf_58 rfl 3 rfl ?_
      refine g_get (pc := 59) C fl_X12_7 dX12_turnOf_59 0 rfl rfl ?_
      refine g_iload (pc := 62) C dX12_turnOf_62 0 rfl ?_
      refine g_aload_n (pc := 64) C dX12_turnOf_64 rfl 3 rfl ?_
      refine g_get (pc := 65) C fl_X12_7 dX12_turnOf_65 0 rfl rfl ?_
      refine g_iload (pc := 68) C dX12_turnOf_68 0 rfl ?_
      refine g_iald (pc := 70) C dX12_turnOf_70 1 rfl h (fun v8 h => ?_)
      refine g_iconst (pc := 71) (v := 1) C dX12_turnOf_71 (by decide) ?_
      refine g_isub (pc := 72) C dX12_turnOf_72 ?_
      refine g_iast (pc := 73) C dX12_turnOf_73 1 rfl h (fun g9 h => ?_)
      refine g_ws (ws' := (W_X12_turnOf E o_t a_t t_toldDoors t_barredDoors t_taped t_place0 t_length0 t_fault t_number0 t_open t_codeMany t_waiting t_saidMany t_clauses t_newMany t_rounds t_pinFrom t_pinTimes t_lines t_wasTold t_wasBarred t_goesNow t_jamsNow t_queued t_isKept g9 t_prongsOf t_oneOf t_otherOf t_wardsOf t_codes t_clauseOf t_codeFrom t_codeHalf t_codeTo u5.2 u4)) rfl ?_
      refine g_aload_n (pc := 74) C dX12_turnOf_74 rfl 3 rfl ?_
      refine g_get (pc := 75) C fl_X12_7 dX12_turnOf_75 0 rfl rfl ?_
      refine g_sipush (pc := 78) (v := 165) C dX12_turnOf_78 (by decide) ?_
      refine g_sipush (pc := 81) (v := 25173) C dX12_turnOf_81 (by decide) ?_
      refine g_aload_n (pc := 84) C dX12_turnOf_84 rfl 3 rfl ?_
      refine g_get (pc := 85) C fl_X12_7 dX12_turnOf_85 0 rfl rfl ?_
      refine g_sipush (pc := 88) (v := 165) C dX12_turnOf_88 (by decide) ?_
      refine g_iald (pc := 91) C dX12_turnOf_91 1 rfl h (fun v10 h => ?_)
      refine g_imul (pc := 92) C dX12_turnOf_92 ?_
      refine g_sipush (pc := 93) (v := 13849) C dX12_turnOf_93 (by decide) ?_
      refine g_iadd (pc := 96) C dX12_turnOf_96 ?_
      refine g_ldcw (pc := 97) C dX12_turnOf_97 ct_X12_344 ?_
      refine g_irem (pc := 100) C dX12_turnOf_100 h (fun v11 h => ?_)
      refine g_iast (pc := 101) C dX12_turnOf_101 1 rfl h (fun g12 h => ?_)
      refine g_ws (ws' := (W_X12_turnOf E o_t a_t t_toldDoors t_barredDoors t_taped t_place0 t_length0 t_fault t_number0 t_open t_codeMany t_waiting t_saidMany t_clauses t_newMany t_rounds t_pinFrom t_pinTimes t_lines t_wasTold t_wasBarred t_goesNow t_jamsNow t_queued t_isKept g12 t_prongsOf t_oneOf t_otherOf t_wardsOf t_codes t_clauseOf t_codeFrom t_codeHalf t_codeTo u5.2 u4)) rfl ?_
      refine g_aload_n (pc := 102) C dX12_turnOf_102 rfl 3 rfl ?_
      refine g_get (pc := 103) C fl_X12_7 dX12_turnOf_103 0 rfl rfl ?_
      refine g_sipush (pc := 106) (v := 165) C dX12_turnOf_106 (by decide) ?_
      refine g_iald (pc := 109) C dX12_turnOf_109 1 rfl h (fun v13 h => ?_)
      refine g_bipush (pc := 110) (v := 10) C dX12_turnOf_110 (by decide) ?_
      refine g_irem (pc := 112) C dX12_turnOf_112 h (fun v14 h => ?_)
      refine g_iload_n (pc := 113) C dX12_turnOf_113 rfl 1 rfl ?_
      refine g_icmp_ge (pc := 114) (tgt := 153) C dX12_turnOf_114 (by decide) h (fun h => ?_) (fun h => ?_)
      · refine g_aload_n (pc := 153) C dX12_turnOf_153 rfl 3 rfl ?_
        refine g_get (pc := 154) C fl_X12_7 dX12_turnOf_154 0 rfl rfl ?_
        refine g_bipush (pc := 157) (v := 34) C dX12_turnOf_157 (by decide) ?_
        refine g_iload_n (pc := 159) C dX12_turnOf_159 rfl 4 rfl ?_
        refine g_iadd (pc := 160) C dX12_turnOf_160 ?_
        refine g_aload_n (pc := 161) C dX12_turnOf_161 rfl 3 rfl ?_
        refine g_iload_n (pc := 162) C dX12_turnOf_162 rfl 2 rfl ?_
        refine g_aload_n (pc := 163) C dX12_turnOf_163 rfl 3 rfl ?_
        refine g_get (pc := 164) C fl_X12_7 dX12_turnOf_164 0 rfl rfl ?_
        refine g_bipush (pc := 167) (v := 34) C dX12_turnOf_167 (by decide) ?_
        refine g_iload_n (pc := 169) C dX12_turnOf_169 rfl 4 rfl ?_
        refine g_iadd (pc := 170) C dX12_turnOf_170 ?_
        refine g_iald (pc := 171) C dX12_turnOf_171 1 rfl h (fun v15 h => ?_)
        obtain ⟨u16, hu16, h⟩ := bs h
        refine g_callV (pc := 172) (st := [.int ((34 : Int32) + x1), .ref (a_t 0)]) (st1 := [.int u16, .int ((34 : Int32) + x1), .ref (a_t 0)]) (ws' := (W_X12_turnOf E o_t a_t t_toldDoors t_barredDoors t_taped t_place0 t_length0 t_fault t_number0 t_open t_codeMany t_waiting t_saidMany t_clauses t_newMany t_rounds t_pinFrom t_pinTimes t_lines t_wasTold t_wasBarred t_goesNow t_jamsNow t_queued t_isKept g12 t_prongsOf t_oneOf t_otherOf t_wardsOf t_codes t_clauseOf t_codeFrom t_codeHalf t_codeTo u5.2 u4)) C mv_X12_behind mi_X12_behind ml_X12_317 (c_X12_behind X.2.1 E o_t a_t t_toldDoors t_barredDoors t_taped t_place0 t_length0 t_fault t_number0 t_open t_codeMany t_waiting t_saidMany t_clauses t_newMany t_rounds t_pinFrom t_pinTimes t_lines t_wasTold t_wasBarred t_goesNow t_jamsNow t_queued t_isKept t_oneOf t_otherOf u3.1 v15 u16 hu16) dX12_turnOf_172 (by decide) rfl (Nat.le_of_ble_eq_true rfl) 0 11 rfl rfl [0, 3, 4] rfl (by decide) rfl rfl rfl rfl ?_
        refine g_iast (pc := 175) C dX12_turnOf_175 1 rfl h (fun g17 h => ?_)
        refine g_ws (ws' := (W_X12_turnOf E o_t a_t t_toldDoors t_barredDoors t_taped t_place0 t_length0 t_fault t_number0 t_open t_codeMany t_waiting t_saidMany t_clauses t_newMany t_rounds t_pinFrom t_pinTimes t_lines t_wasTold t_wasBarred t_goesNow t_jamsNow t_queued t_isKept g17 t_prongsOf t_oneOf t_otherOf t_wardsOf t_codes t_clauseOf t_codeFrom t_codeHalf t_codeTo u5.2 u4)) rfl ?_
        refine g_aload_n (pc := 176) C dX12_turnOf_176 rfl 3 rfl ?_
        refine g_aload_n (pc := 177) C dX12_turnOf_177 rfl 3 rfl ?_
        refine g_get (pc := 178) C fl_X12_351 dX12_turnOf_178 0 rfl rfl ?_
        refine g_iconst (pc := 181) (v := 1) C dX12_turnOf_181 (by decide) ?_
        refine g_iadd (pc := 182) C dX12_turnOf_182 ?_
        refine g_nm h (fun v18 h => ?_)
        refine g_put (pc := 183) (ws' := (W_X12_turnOf E o_t a_t t_toldDoors t_barredDoors t_taped t_place0 t_length0 t_fault t_number0 t_open t_codeMany t_waiting t_saidMany t_clauses t_newMany t_rounds t_pinFrom t_pinTimes t_lines t_wasTold t_wasBarred v18 t_jamsNow t_queued t_isKept g17 t_prongsOf t_oneOf t_otherOf t_wardsOf t_codes t_clauseOf t_codeFrom t_codeHalf t_codeTo u5.2 u4)) C .int fl_X12_351 dX12_turnOf_183 0 rfl (by decide +kernel) rfl rfl (Nat.le_of_ble_eq_true rfl) rfl ?_
        cases h
        exact hret _ _ _ dX12_turnOf_186 rfl
      · refine g_aload_n (pc := 117) C dX12_turnOf_117 rfl 3 rfl ?_
        refine g_get (pc := 118) C fl_X12_7 dX12_turnOf_118 0 rfl rfl ?_
        refine g_iconst (pc := 121) (v := 0) C dX12_turnOf_121 (by decide) ?_
        refine g_iload_n (pc := 122) C dX12_turnOf_122 rfl 2 rfl ?_
        refine g_iadd (pc := 123) C dX12_turnOf_123 ?_
        refine g_bipush (pc := 124) (v := 99) C dX12_turnOf_124 (by decide) ?_
        refine g_aload_n (pc := 126) C dX12_turnOf_126 rfl 3 rfl ?_
        refine g_get (pc := 127) C fl_X12_7 dX12_turnOf_127 0 rfl rfl ?_
        refine g_iconst (pc := 130) (v := 0) C dX12_turnOf_130 (by decide) ?_
        refine g_iload_n (pc := 131) C dX12_turnOf_131 rfl 2 rfl ?_
        refine g_iadd (pc := 132) C dX12_turnOf_132 ?_
        refine g_iald (pc := 133) C dX12_turnOf_133 1 rfl h (fun v19 h => ?_)
        refine g_iconst (pc := 134) (v := 1) C dX12_turnOf_134 (by decide) ?_
        refine g_iadd (pc := 135) C dX12_turnOf_135 ?_
        obtain ⟨u20, hu20, h⟩ := bs h
        refine g_callS (pc := 136) (st := [.int ((0 : Int32) + u3.1), .ref (a_t 0)]) (st1 := [.int u20, .int ((0 : Int32) + u3.1), .ref (a_t 0)]) (ws' := (W_X12_turnOf E o_t a_t t_toldDoors t_barredDoors t_taped t_place0 t_length0 t_fault t_number0 t_open t_codeMany t_waiting t_saidMany t_clauses t_newMany t_rounds t_pinFrom t_pinTimes t_lines t_wasTold t_wasBarred t_goesNow t_jamsNow t_queued t_isKept g12 t_prongsOf t_oneOf t_otherOf t_wardsOf t_codes t_clauseOf t_codeFrom t_codeHalf t_codeTo u5.2 u4)) C mv_X12_min ms_X12_min ml_X12_345 (c_X12_min X.2.1 E (99 : Int32) (v19 + (1 : Int32)) u20 hu20) dX12_turnOf_136 (by decide) rfl (Nat.le_of_ble_eq_true rfl) [] rfl (by decide) rfl rfl rfl rfl ?_
        refine g_iast (pc := 139) C dX12_turnOf_139 1 rfl h (fun g21 h => ?_)
        refine g_ws (ws' := (W_X12_turnOf E o_t a_t t_toldDoors t_barredDoors t_taped t_place0 t_length0 t_fault t_number0 t_open t_codeMany t_waiting t_saidMany t_clauses t_newMany t_rounds t_pinFrom t_pinTimes t_lines t_wasTold t_wasBarred t_goesNow t_jamsNow t_queued t_isKept g21 t_prongsOf t_oneOf t_otherOf t_wardsOf t_codes t_clauseOf t_codeFrom t_codeHalf t_codeTo u5.2 u4)) rfl ?_
        refine g_aload_n (pc := 140) C dX12_turnOf_140 rfl 3 rfl ?_
        refine g_aload_n (pc := 141) C dX12_turnOf_141 rfl 3 rfl ?_
        refine g_get (pc := 142) C fl_X12_348 dX12_turnOf_142 0 rfl rfl ?_
        refine g_iconst (pc := 145) (v := 1) C dX12_turnOf_145 (by decide) ?_
        refine g_iadd (pc := 146) C dX12_turnOf_146 ?_
        refine g_nm h (fun v22 h => ?_)
        refine g_put (pc := 147) (ws' := (W_X12_turnOf E o_t a_t t_toldDoors t_barredDoors t_taped t_place0 t_length0 t_fault t_number0 t_open t_codeMany t_waiting t_saidMany t_clauses t_newMany t_rounds t_pinFrom t_pinTimes t_lines t_wasTold t_wasBarred t_goesNow v22 t_queued t_isKept g21 t_prongsOf t_oneOf t_otherOf t_wardsOf t_codes t_clauseOf t_codeFrom t_codeHalf t_codeTo u5.2 u4)) C .int fl_X12_348 dX12_turnOf_147 0 rfl (by decide +kernel) rfl rfl (Nat.le_of_ble_eq_true rfl) rfl ?_
        refine g_goto (pc := 150) (tgt := 186) C dX12_turnOf_150 (by decide) ?_
        cases h
        exact hret _ _ _ dX12_turnOf_186 rfl
    · cases h
      exact hret _ _ _ dX12_turnOf_26 rfl
  · cases h
    exact hret _ _ _ dX12_turnOf_14 rfl
abbrev W_X12_orders (E : GE) (O_t : Nat) (a_t : Nat → Nat) (t_toldDoors : Int32) (t_barredDoors : Int32) (t_taped : Int32) (t_place0 : Int32) (t_length0 : Int32) (t_fault : Int32) (t_number0 : Int32) (t_open : Int32) (t_codeMany : Int32) (t_waiting : Int32) (t_saidMany : Int32) (t_clauses : Int32) (t_newMany : Int32) (t_rounds : Int32) (t_pinFrom : Int32) (t_pinTimes : Int32) (t_lines : Int32) (t_wasTold : Int32) (t_wasBarred : Int32) (t_goesNow : Int32) (t_jamsNow : Int32) (t_queued : Int32) (t_isKept : Int32) (t_now : (Nat → Int32)) (t_aside : (Nat → Int32)) (t_prongsOf : (Nat → Int32)) (t_oneOf : (Nat → Int32)) (t_otherOf : (Nat → Int32)) (t_wardsOf : (Nat → Int32)) (t_wasProngs : (Nat → Int32)) (t_wasOne : (Nat → Int32)) (t_wasOther : (Nat → Int32)) (t_wasWards : (Nat → Int32)) (t_tape : (Nat → Int32)) : va_W := [(O_t, ob_X12 a_t t_toldDoors t_barredDoors t_taped t_place0 t_length0 t_fault t_number0 t_open t_codeMany t_waiting t_saidMany t_clauses t_newMany t_rounds t_pinFrom t_pinTimes t_lines t_wasTold t_wasBarred t_goesNow t_jamsNow t_queued t_isKept), (a_t 0, .inl (E.2.1, 166, .inl t_now)), (a_t 1, .inl (E.2.1, 166, .inl t_aside)), (a_t 3, .inl (E.2.1, 6, .inl t_prongsOf)), (a_t 4, .inl (E.2.1, 24, .inl t_oneOf)), (a_t 5, .inl (E.2.1, 24, .inl t_otherOf)), (a_t 6, .inl (E.2.1, 24, .inl t_wardsOf)), (a_t 7, .inl (E.2.1, 6, .inl t_wasProngs)), (a_t 8, .inl (E.2.1, 24, .inl t_wasOne)), (a_t 9, .inl (E.2.1, 24, .inl t_wasOther)), (a_t 10, .inl (E.2.1, 24, .inl t_wasWards)), (a_t 13, .inl (E.2.2.1, 260, .inl t_tape))]
def L_X12_orders_50 (t_taped : Int32) (t_length0 : Int32) (t_codeMany : Int32) (t_saidMany : Int32) (t_wasTold : Int32) (t_wasBarred : Int32) (t_aside : (Nat → Int32)) (t_wasProngs : (Nat → Int32)) (t_wasOne : (Nat → Int32)) (t_wasOther : (Nat → Int32)) (t_wasWards : (Nat → Int32)) (t_tape : (Nat → Int32)) (k0 : Int32 × Int32 × Int32 × Int32 × Int32 × Int32 × Int32 × (Nat → Int32) × (Nat → Int32) × (Nat → Int32) × (Nat → Int32) × (Nat → Int32) → Option (Int32 × Int32 × Int32 × Int32 × Int32 × Int32 × Int32 × Int32 × Int32 × Int32 × Int32 × Int32 × Int32 × (Nat → Int32) × (Nat → Int32) × (Nat → Int32) × (Nat → Int32) × (Nat → Int32) × (Nat → Int32) × (Nat → Int32) × (Nat → Int32) × (Nat → Int32) × (Nat → Int32))) : Nat → Int32 × Int32 × Int32 × Int32 × Int32 × Int32 × Int32 × (Nat → Int32) × (Nat → Int32) × (Nat → Int32) × (Nat → Int32) × (Nat → Int32) → Option (Int32 × Int32 × Int32 × Int32 × Int32 × Int32 × Int32 × Int32 × Int32 × Int32 × Int32 × Int32 × Int32 × (Nat → Int32) × (Nat → Int32) × (Nat → Int32) × (Nat → Int32) × (Nat → Int32) × (Nat → Int32) × (Nat → Int32) × (Nat → Int32) × (Nat → Int32) × (Nat → Int32)) := lp fun go s => if s.1 = 0 then (k0 (s.1, s.2.1, s.2.2.1, s.2.2.2.1, s.2.2.2.2.1, s.2.2.2.2.2.1, s.2.2.2.2.2.2.1, s.2.2.2.2.2.2.2.1, s.2.2.2.2.2.2.2.2.1, s.2.2.2.2.2.2.2.2.2.1, s.2.2.2.2.2.2.2.2.2.2.1, s.2.2.2.2.2.2.2.2.2.2.2)) else if t_length0 ≤ s.2.2.2.1 then (k0 (s.1, s.2.1, s.2.2.1, s.2.2.2.1, s.2.2.2.2.1, s.2.2.2.2.2.1, s.2.2.2.2.2.2.1, s.2.2.2.2.2.2.2.1, s.2.2.2.2.2.2.2.2.1, s.2.2.2.2.2.2.2.2.2.1, s.2.2.2.2.2.2.2.2.2.2.1, s.2.2.2.2.2.2.2.2.2.2.2)) else (f_X12_takes s.2.2.2.1 t_length0 s.2.2.2.2.1 t_tape (59 : Int32)).bind fun u6 => if u6.1 = 0 then (go ((0 : Int32), s.2.1, s.2.2.1, u6.2.1, u6.2.2, s.2.2.2.2.2.1, s.2.2.2.2.2.2.1, s.2.2.2.2.2.2.2.1, s.2.2.2.2.2.2.2.2.1, s.2.2.2.2.2.2.2.2.2.1, s.2.2.2.2.2.2.2.2.2.2.1, s.2.2.2.2.2.2.2.2.2.2.2)) else (f_X12_readsLine s.2.1 s.2.2.1 u6.2.1 t_length0 u6.2.2 s.2.2.2.2.2.1 s.2.2.2.2.2.2.1 s.2.2.2.2.2.2.2.1 s.2.2.2.2.2.2.2.2.1 s.2.2.2.2.2.2.2.2.2.1 s.2.2.2.2.2.2.2.2.2.2.1 s.2.2.2.2.2.2.2.2.2.2.2 t_tape).bind fun u7 => if u7.1 = 0 then (go ((0 : Int32), u7.2.1, u7.2.2.1, u7.2.2.2.1, u7.2.2.2.2.1, u7.2.2.2.2.2.1, u7.2.2.2.2.2.2.1, u7.2.2.2.2.2.2.2.1, u7.2.2.2.2.2.2.2.2.1, u7.2.2.2.2.2.2.2.2.2.1, u7.2.2.2.2.2.2.2.2.2.2.1, u7.2.2.2.2.2.2.2.2.2.2.2)) else go ((1 : Int32), u7.2.1, u7.2.2.1, u7.2.2.2.1, u7.2.2.2.2.1, u7.2.2.2.2.2.1, u7.2.2.2.2.2.2.1, u7.2.2.2.2.2.2.2.1, u7.2.2.2.2.2.2.2.2.1, u7.2.2.2.2.2.2.2.2.2.1, u7.2.2.2.2.2.2.2.2.2.2.1, u7.2.2.2.2.2.2.2.2.2.2.2)
def f_X12_orders (t_toldDoors : Int32) (t_barredDoors : Int32) (t_taped : Int32) (t_place0 : Int32) (t_length0 : Int32) (t_fault : Int32) (t_number0 : Int32) (t_codeMany : Int32) (t_saidMany : Int32) (t_lines : Int32) (t_wasTold : Int32) (t_wasBarred : Int32) (t_now : (Nat → Int32)) (t_aside : (Nat → Int32)) (t_prongsOf : (Nat → Int32)) (t_oneOf : (Nat → Int32)) (t_otherOf : (Nat → Int32)) (t_wardsOf : (Nat → Int32)) (t_wasProngs : (Nat → Int32)) (t_wasOne : (Nat → Int32)) (t_wasOther : (Nat → Int32)) (t_wasWards : (Nat → Int32)) (t_tape : (Nat → Int32)) (x1 : Int32) : Option (Int32 × Int32 × Int32 × Int32 × Int32 × Int32 × Int32 × Int32 × Int32 × Int32 × Int32 × Int32 × Int32 × (Nat → Int32) × (Nat → Int32) × (Nat → Int32) × (Nat → Int32) × (Nat → Int32) × (Nat → Int32) × (Nat → Int32) × (Nat → Int32) × (Nat → Int32) × (Nat → Int32)) := (f_X12_in x1 (1 : Int32) (120 : Int32)).bind fun u1 => if u1 = 0 then (some ((-1 : Int32), t_toldDoors, t_barredDoors, t_taped, t_place0, t_length0, t_fault, t_number0, t_codeMany, t_saidMany, t_lines, t_wasTold, t_wasBarred, t_now, t_aside, t_prongsOf, t_oneOf, t_otherOf, t_wardsOf, t_wasProngs, t_wasOne, t_wasOther, t_wasWards)) else if x1 ≤ t_taped then ((f_X12_beginsText t_place0 t_length0 t_codeMany t_saidMany x1).bind fun u2 => (f_X12_copies 166 166 t_now t_aside).bind fun u3 => (f_X12_putsDoorsAside t_toldDoors t_barredDoors t_wasTold t_wasBarred t_prongsOf t_oneOf t_otherOf t_wardsOf t_wasProngs t_wasOne t_wasOther t_wasWards).bind fun u4 => (f_X12_readsLine t_toldDoors t_barredDoors u2.1 u2.2.1 t_fault t_number0 (0 : Int32) t_now t_prongsOf t_oneOf t_otherOf t_wardsOf t_tape).bind fun u5 => L_X12_orders_50 t_taped u2.2.1 u2.2.2.1 u2.2.2.2 u4.1 u4.2.1 u3 u4.2.2.1 u4.2.2.2.1 u4.2.2.2.2.1 u4.2.2.2.2.2 t_tape (fun s8 => if s8.1 = 0 then ((f_X12_copies 166 166 u3 s8.2.2.2.2.2.2.2.1).bind fun u9 => (f_X12_putsDoorsBack s8.2.1 s8.2.2.1 u4.1 u4.2.1 s8.2.2.2.2.2.2.2.2.1 s8.2.2.2.2.2.2.2.2.2.1 s8.2.2.2.2.2.2.2.2.2.2.1 s8.2.2.2.2.2.2.2.2.2.2.2 u4.2.2.1 u4.2.2.2.1 u4.2.2.2.2.1 u4.2.2.2.2.2).bind fun u10 => some (s8.2.2.2.2.1, u10.1, u10.2.1, (0 : Int32), s8.2.2.2.1, u2.2.1, s8.2.2.2.2.1, s8.2.2.2.2.2.1, u2.2.2.1, u2.2.2.2, s8.2.2.2.2.2.2.1, u4.1, u4.2.1, u9, u3, u10.2.2.1, u10.2.2.2.1, u10.2.2.2.2.1, u10.2.2.2.2.2, u4.2.2.1, u4.2.2.2.1, u4.2.2.2.2.1, u4.2.2.2.2.2)) else some (s8.2.2.2.2.2.2.1, s8.2.1, s8.2.2.1, (0 : Int32), s8.2.2.2.1, u2.2.1, s8.2.2.2.2.1, s8.2.2.2.2.2.1, u2.2.2.1, u2.2.2.2, s8.2.2.2.2.2.2.1, u4.1, u4.2.1, s8.2.2.2.2.2.2.2.1, u3, s8.2.2.2.2.2.2.2.2.1, s8.2.2.2.2.2.2.2.2.2.1, s8.2.2.2.2.2.2.2.2.2.2.1, s8.2.2.2.2.2.2.2.2.2.2.2, u4.2.2.1, u4.2.2.2.1, u4.2.2.2.2.1, u4.2.2.2.2.2)) fu (u5.1, u5.2.1, u5.2.2.1, u5.2.2.2.1, u5.2.2.2.2.1, u5.2.2.2.2.2.1, u5.2.2.2.2.2.2.1, u5.2.2.2.2.2.2.2.1, u5.2.2.2.2.2.2.2.2.1, u5.2.2.2.2.2.2.2.2.2.1, u5.2.2.2.2.2.2.2.2.2.2.1, u5.2.2.2.2.2.2.2.2.2.2.2)) else some ((-1 : Int32), t_toldDoors, t_barredDoors, t_taped, t_place0, t_length0, t_fault, t_number0, t_codeMany, t_saidMany, t_lines, t_wasTold, t_wasBarred, t_now, t_aside, t_prongsOf, t_oneOf, t_otherOf, t_wardsOf, t_wasProngs, t_wasOne, t_wasOther, t_wasWards)
theorem dX12_orders_0 : decode cX12_orders 0 = .ok (.iload_n 1, 1) := by decide +kernel
theorem dX12_orders_1 : decode cX12_orders 1 = .ok (.iconst 1, 1) := by decide +kernel
theorem dX12_orders_2 : decode cX12_orders 2 = .ok (.bipush 120, 2) := by decide +kernel
theorem dX12_orders_4 : decode cX12_orders 4 = .ok (.invokestatic 117, 3) := by decide +kernel
theorem dX12_orders_7 : decode cX12_orders 7 = .ok (.ifCond .eq 11, 3) := by decide +kernel
theorem dX12_orders_10 : decode cX12_orders 10 = .ok (.iload_n 1, 1) := by decide +kernel
theorem dX12_orders_11 : decode cX12_orders 11 = .ok (.aload_n 0, 1) := by decide +kernel
theorem dX12_orders_12 : decode cX12_orders 12 = .ok (.getfield 139, 3) := by decide +kernel
theorem dX12_orders_15 : decode cX12_orders 15 = .ok (.if_icmp .le 5, 3) := by decide +kernel
theorem dX12_orders_18 : decode cX12_orders 18 = .ok (.iconst (-1), 1) := by decide +kernel
theorem dX12_orders_19 : decode cX12_orders 19 = .ok (.ireturn, 1) := by decide +kernel
theorem dX12_orders_20 : decode cX12_orders 20 = .ok (.aload_n 0, 1) := by decide +kernel
theorem dX12_orders_21 : decode cX12_orders 21 = .ok (.iload_n 1, 1) := by decide +kernel
theorem dX12_orders_22 : decode cX12_orders 22 = .ok (.invokevirtual 230, 3) := by decide +kernel
theorem dX12_orders_25 : decode cX12_orders 25 = .ok (.aload_n 0, 1) := by decide +kernel
theorem dX12_orders_26 : decode cX12_orders 26 = .ok (.iconst 0, 1) := by decide +kernel
theorem dX12_orders_27 : decode cX12_orders 27 = .ok (.putfield 283, 3) := by decide +kernel
theorem dX12_orders_30 : decode cX12_orders 30 = .ok (.aload_n 0, 1) := by decide +kernel
theorem dX12_orders_31 : decode cX12_orders 31 = .ok (.getfield 7, 3) := by decide +kernel
theorem dX12_orders_34 : decode cX12_orders 34 = .ok (.aload_n 0, 1) := by decide +kernel
theorem dX12_orders_35 : decode cX12_orders 35 = .ok (.getfield 13, 3) := by decide +kernel
theorem dX12_orders_38 : decode cX12_orders 38 = .ok (.invokestatic 298, 3) := by decide +kernel
theorem dX12_orders_41 : decode cX12_orders 41 = .ok (.aload_n 0, 1) := by decide +kernel
theorem dX12_orders_42 : decode cX12_orders 42 = .ok (.invokevirtual 302, 3) := by decide +kernel
theorem dX12_orders_45 : decode cX12_orders 45 = .ok (.aload_n 0, 1) := by decide +kernel
theorem dX12_orders_46 : decode cX12_orders 46 = .ok (.invokevirtual 305, 3) := by decide +kernel
theorem dX12_orders_49 : decode cX12_orders 49 = .ok (.istore_n 2, 1) := by decide +kernel
theorem dX12_orders_50 : decode cX12_orders 50 = .ok (.iload_n 2, 1) := by decide +kernel
theorem dX12_orders_51 : decode cX12_orders 51 = .ok (.ifCond .eq 39, 3) := by decide +kernel
theorem dX12_orders_54 : decode cX12_orders 54 = .ok (.aload_n 0, 1) := by decide +kernel
theorem dX12_orders_55 : decode cX12_orders 55 = .ok (.getfield 146, 3) := by decide +kernel
theorem dX12_orders_58 : decode cX12_orders 58 = .ok (.aload_n 0, 1) := by decide +kernel
theorem dX12_orders_59 : decode cX12_orders 59 = .ok (.getfield 149, 3) := by decide +kernel
theorem dX12_orders_62 : decode cX12_orders 62 = .ok (.if_icmp .ge 28, 3) := by decide +kernel
theorem dX12_orders_65 : decode cX12_orders 65 = .ok (.aload_n 0, 1) := by decide +kernel
theorem dX12_orders_66 : decode cX12_orders 66 = .ok (.bipush 59, 2) := by decide +kernel
theorem dX12_orders_68 : decode cX12_orders 68 = .ok (.invokevirtual 236, 3) := by decide +kernel
theorem dX12_orders_71 : decode cX12_orders 71 = .ok (.ifCond .eq 14, 3) := by decide +kernel
theorem dX12_orders_74 : decode cX12_orders 74 = .ok (.aload_n 0, 1) := by decide +kernel
theorem dX12_orders_75 : decode cX12_orders 75 = .ok (.invokevirtual 305, 3) := by decide +kernel
theorem dX12_orders_78 : decode cX12_orders 78 = .ok (.ifCond .eq 7, 3) := by decide +kernel
theorem dX12_orders_81 : decode cX12_orders 81 = .ok (.iconst 1, 1) := by decide +kernel
theorem dX12_orders_82 : decode cX12_orders 82 = .ok (.goto 4, 3) := by decide +kernel
theorem dX12_orders_85 : decode cX12_orders 85 = .ok (.iconst 0, 1) := by decide +kernel
theorem dX12_orders_86 : decode cX12_orders 86 = .ok (.istore_n 2, 1) := by decide +kernel
theorem dX12_orders_87 : decode cX12_orders 87 = .ok (.goto (-37), 3) := by decide +kernel
theorem dX12_orders_90 : decode cX12_orders 90 = .ok (.aload_n 0, 1) := by decide +kernel
theorem dX12_orders_91 : decode cX12_orders 91 = .ok (.iconst 0, 1) := by decide +kernel
theorem dX12_orders_92 : decode cX12_orders 92 = .ok (.putfield 139, 3) := by decide +kernel
theorem dX12_orders_95 : decode cX12_orders 95 = .ok (.iload_n 2, 1) := by decide +kernel
theorem dX12_orders_96 : decode cX12_orders 96 = .ok (.ifCond .eq 8, 3) := by decide +kernel
theorem dX12_orders_99 : decode cX12_orders 99 = .ok (.aload_n 0, 1) := by decide +kernel
theorem dX12_orders_100 : decode cX12_orders 100 = .ok (.getfield 283, 3) := by decide +kernel
theorem dX12_orders_103 : decode cX12_orders 103 = .ok (.ireturn, 1) := by decide +kernel
theorem dX12_orders_104 : decode cX12_orders 104 = .ok (.aload_n 0, 1) := by decide +kernel
theorem dX12_orders_105 : decode cX12_orders 105 = .ok (.getfield 13, 3) := by decide +kernel
theorem dX12_orders_108 : decode cX12_orders 108 = .ok (.aload_n 0, 1) := by decide +kernel
theorem dX12_orders_109 : decode cX12_orders 109 = .ok (.getfield 7, 3) := by decide +kernel
theorem dX12_orders_112 : decode cX12_orders 112 = .ok (.invokestatic 298, 3) := by decide +kernel
theorem dX12_orders_115 : decode cX12_orders 115 = .ok (.aload_n 0, 1) := by decide +kernel
theorem dX12_orders_116 : decode cX12_orders 116 = .ok (.invokevirtual 308, 3) := by decide +kernel
theorem dX12_orders_119 : decode cX12_orders 119 = .ok (.aload_n 0, 1) := by decide +kernel
theorem dX12_orders_120 : decode cX12_orders 120 = .ok (.getfield 156, 3) := by decide +kernel
theorem dX12_orders_123 : decode cX12_orders 123 = .ok (.ireturn, 1) := by decide +kernel
set_option maxHeartbeats 4000000 in
set_option maxRecDepth 100000 in
theorem kL_X12_orders_50 {X : GC} {E : GE} (C : Cx X E cX12_orders RX12 7 3) (o_t : Nat) (a_t : Nat → Nat) (t_open : Int32) (t_waiting : Int32) (t_clauses : Int32) (t_newMany : Int32) (t_rounds : Int32) (t_pinFrom : Int32) (t_pinTimes : Int32) (t_goesNow : Int32) (t_jamsNow : Int32) (t_queued : Int32) (t_isKept : Int32) (t_taped : Int32) (t_length0 : Int32) (t_codeMany : Int32) (t_saidMany : Int32) (t_wasTold : Int32) (t_wasBarred : Int32) (t_aside : (Nat → Int32)) (t_wasProngs : (Nat → Int32)) (t_wasOne : (Nat → Int32)) (t_wasOther : (Nat → Int32)) (t_wasWards : (Nat → Int32)) (t_tape : (Nat → Int32)) (k0 : Int32 × Int32 × Int32 × Int32 × Int32 × Int32 × Int32 × (Nat → Int32) × (Nat → Int32) × (Nat → Int32) × (Nat → Int32) × (Nat → Int32) → Option (Int32 × Int32 × Int32 × Int32 × Int32 × Int32 × Int32 × Int32 × Int32 × Int32 × Int32 × Int32 × Int32 × (Nat → Int32) × (Nat → Int32) × (Nat → Int32) × (Nat → Int32) × (Nat → Int32) × (Nat → Int32) × (Nat → Int32) × (Nat → Int32) × (Nat → Int32) × (Nat → Int32))) {r : Int32 × Int32 × Int32 × Int32 × Int32 × Int32 × Int32 × Int32 × Int32 × Int32 × Int32 × Int32 × Int32 × (Nat → Int32) × (Nat → Int32) × (Nat → Int32) × (Nat → Int32) × (Nat → Int32) × (Nat → Int32) × (Nat → Int32) × (Nat → Int32) × (Nat → Int32) × (Nat → Int32)} (hret : RtI X E cX12_orders .int 0 0 (fun w => w = (W_X12_orders E o_t a_t r.2.1 r.2.2.1 r.2.2.2.1 r.2.2.2.2.1 r.2.2.2.2.2.1 r.2.2.2.2.2.2.1 r.2.2.2.2.2.2.2.1 t_open r.2.2.2.2.2.2.2.2.1 t_waiting r.2.2.2.2.2.2.2.2.2.1 t_clauses t_newMany t_rounds t_pinFrom t_pinTimes r.2.2.2.2.2.2.2.2.2.2.1 r.2.2.2.2.2.2.2.2.2.2.2.1 r.2.2.2.2.2.2.2.2.2.2.2.2.1 t_goesNow t_jamsNow t_queued t_isKept r.2.2.2.2.2.2.2.2.2.2.2.2.2.1 r.2.2.2.2.2.2.2.2.2.2.2.2.2.2.1 r.2.2.2.2.2.2.2.2.2.2.2.2.2.2.2.1 r.2.2.2.2.2.2.2.2.2.2.2.2.2.2.2.2.1 r.2.2.2.2.2.2.2.2.2.2.2.2.2.2.2.2.2.1 r.2.2.2.2.2.2.2.2.2.2.2.2.2.2.2.2.2.2.1 r.2.2.2.2.2.2.2.2.2.2.2.2.2.2.2.2.2.2.2.1 r.2.2.2.2.2.2.2.2.2.2.2.2.2.2.2.2.2.2.2.2.1 r.2.2.2.2.2.2.2.2.2.2.2.2.2.2.2.2.2.2.2.2.2.1 r.2.2.2.2.2.2.2.2.2.2.2.2.2.2.2.2.2.2.2.2.2.2 t_tape)) r.1) (hk0 : ∀ u, k0 u = some r → Gx X E 0 0 (W_X12_orders E o_t a_t u.2.1 u.2.2.1 t_taped u.2.2.2.1 t_length0 u.2.2.2.2.1 u.2.2.2.2.2.1 t_open t_codeMany t_waiting t_saidMany t_clauses t_newMany t_rounds t_pinFrom t_pinTimes u.2.2.2.2.2.2.1 t_wasTold t_wasBarred t_goesNow t_jamsNow t_queued t_isKept u.2.2.2.2.2.2.2.1 t_aside u.2.2.2.2.2.2.2.2.1 u.2.2.2.2.2.2.2.2.2.1 u.2.2.2.2.2.2.2.2.2.2.1 u.2.2.2.2.2.2.2.2.2.2.2 t_wasProngs t_wasOne t_wasOther t_wasWards t_tape) 90 [(0, .ref o_t), (2, .int u.1)] []) : ∀ (n : Nat) (s : Int32 × Int32 × Int32 × Int32 × Int32 × Int32 × Int32 × (Nat → Int32) × (Nat → Int32) × (Nat → Int32) × (Nat → Int32) × (Nat → Int32)), L_X12_orders_50 t_taped t_length0 t_codeMany t_saidMany t_wasTold t_wasBarred t_aside t_wasProngs t_wasOne t_wasOther t_wasWards t_tape k0 n s = some r → Gx X E 0 0 (W_X12_orders E o_t a_t s.2.1 s.2.2.1 t_taped s.2.2.2.1 t_length0 s.2.2.2.2.1 s.2.2.2.2.2.1 t_open t_codeMany t_waiting t_saidMany t_clauses t_newMany t_rounds t_pinFrom t_pinTimes s.2.2.2.2.2.2.1 t_wasTold t_wasBarred t_goesNow t_jamsNow t_queued t_isKept s.2.2.2.2.2.2.2.1 t_aside s.2.2.2.2.2.2.2.2.1 s.2.2.2.2.2.2.2.2.2.1 s.2.2.2.2.2.2.2.2.2.2.1 s.2.2.2.2.2.2.2.2.2.2.2 t_wasProngs t_wasOne t_wasOther t_wasWards t_tape) 50 [(0, .ref o_t), (2, .int s.1)] [] := by
  unfold L_X12_orders_50
  refine lp_ind _ (fun go ih s h => ?_)
  refine g_iload_n (pc := 50) C dX12_orders_50 rfl 1 rfl ?_
  refine g_if_eq (pc := 51) (tgt := 90) C dX12_orders_51 (by decide) h (fun h => ?_) (fun h => ?_)
  · exact hk0 _ h
  · refine g_aload_n (pc := 54) C dX12_orders_54 rfl 0 rfl ?_
    refine g_get (pc := 55) C fl_X12_146 dX12_orders_55 0 rfl rfl ?_
    refine g_aload_n (pc := 58) C dX12_orders_58 rfl 0 rfl ?_
    refine g_get (pc := 59) C fl_X12_149 dX12_orders_59 0 rfl rfl ?_
    refine g_icmp_ge (pc := 62) (tgt := 90) C dX12_orders_62 (by decide) h (fun h => ?_) (fun h => ?_)
    · exact hk0 _ h
    · refine g_aload_n (pc := 65) C dX12_orders_65 rfl 0 rfl ?_
      refine g_bipush (pc := 66) (v := 59) C dX12_orders_66 (by decide) ?_
      obtain ⟨u6, hu6, h⟩ := bs h
      refine g_callV (pc := 68) (st := []) (st1 := [.int u6.1]) (ws' := (W_X12_orders E o_t a_t s.2.1 s.2.2.1 t_taped u6.2.1 t_length0 u6.2.2 s.2.2.2.2.2.1 t_open t_codeMany t_waiting t_saidMany t_clauses t_newMany t_rounds t_pinFrom t_pinTimes s.2.2.2.2.2.2.1 t_wasTold t_wasBarred t_goesNow t_jamsNow t_queued t_isKept s.2.2.2.2.2.2.2.1 t_aside s.2.2.2.2.2.2.2.2.1 s.2.2.2.2.2.2.2.2.2.1 s.2.2.2.2.2.2.2.2.2.2.1 s.2.2.2.2.2.2.2.2.2.2.2 t_wasProngs t_wasOne t_wasOther t_wasWards t_tape)) C mv_X12_takes mi_X12_takes ml_X12_236 (c_X12_takes X.2.1 E o_t a_t s.2.1 s.2.2.1 t_taped s.2.2.2.1 t_length0 s.2.2.2.2.1 s.2.2.2.2.2.1 t_open t_codeMany t_waiting t_saidMany t_clauses t_newMany t_rounds t_pinFrom t_pinTimes s.2.2.2.2.2.2.1 t_wasTold t_wasBarred t_goesNow t_jamsNow t_queued t_isKept t_tape (59 : Int32) u6 hu6) dX12_orders_68 (by decide) rfl (Nat.le_of_ble_eq_true rfl) 0 11 rfl rfl [0, 11] rfl (by decide) rfl rfl rfl rfl ?_
      refine g_if_eq (pc := 71) (tgt := 85) C dX12_orders_71 (by decide) h (fun h => ?_) (fun h => ?_)
      · refine g_iconst (pc := 85) (v := 0) C dX12_orders_85 (by decide) ?_
        refine g_istore_n (pc := 86) (lv' := [(2, .int (0 : Int32)), (0, .ref o_t)]) C dX12_orders_86 rfl (by decide) rfl ?_
        refine g_goto (pc := 87) (tgt := 50) C dX12_orders_87 (by decide) ?_
        refine g_sub [1, 0] rfl ?_
        exact ih _ h
      · refine g_aload_n (pc := 74) C dX12_orders_74 rfl 0 rfl ?_
        obtain ⟨u7, hu7, h⟩ := bs h
        refine g_callV (pc := 75) (st := []) (st1 := [.int u7.1]) (ws' := (W_X12_orders E o_t a_t u7.2.1 u7.2.2.1 t_taped u7.2.2.2.1 t_length0 u7.2.2.2.2.1 u7.2.2.2.2.2.1 t_open t_codeMany t_waiting t_saidMany t_clauses t_newMany t_rounds t_pinFrom t_pinTimes u7.2.2.2.2.2.2.1 t_wasTold t_wasBarred t_goesNow t_jamsNow t_queued t_isKept u7.2.2.2.2.2.2.2.1 t_aside u7.2.2.2.2.2.2.2.2.1 u7.2.2.2.2.2.2.2.2.2.1 u7.2.2.2.2.2.2.2.2.2.2.1 u7.2.2.2.2.2.2.2.2.2.2.2 t_wasProngs t_wasOne t_wasOther t_wasWards t_tape)) C mv_X12_readsLine mi_X12_readsLine ml_X12_305 (c_X12_readsLine X.2.1 E o_t a_t s.2.1 s.2.2.1 t_taped u6.2.1 t_length0 u6.2.2 s.2.2.2.2.2.1 t_open t_codeMany t_waiting t_saidMany t_clauses t_newMany t_rounds t_pinFrom t_pinTimes s.2.2.2.2.2.2.1 t_wasTold t_wasBarred t_goesNow t_jamsNow t_queued t_isKept s.2.2.2.2.2.2.2.1 s.2.2.2.2.2.2.2.2.1 s.2.2.2.2.2.2.2.2.2.1 s.2.2.2.2.2.2.2.2.2.2.1 s.2.2.2.2.2.2.2.2.2.2.2 t_tape u7 hu7) dX12_orders_75 (by decide) rfl (Nat.le_of_ble_eq_true rfl) 0 11 rfl rfl [0, 1, 3, 4, 5, 6, 11] rfl (by decide) rfl rfl rfl rfl ?_
        refine g_if_eq (pc := 78) (tgt := 85) C dX12_orders_78 (by decide) h (fun h => ?_) (fun h => ?_)
        · refine g_iconst (pc := 85) (v := 0) C dX12_orders_85 (by decide) ?_
          refine g_istore_n (pc := 86) (lv' := [(2, .int (0 : Int32)), (0, .ref o_t)]) C dX12_orders_86 rfl (by decide) rfl ?_
          refine g_goto (pc := 87) (tgt := 50) C dX12_orders_87 (by decide) ?_
          refine g_sub [1, 0] rfl ?_
          exact ih _ h
        · refine g_iconst (pc := 81) (v := 1) C dX12_orders_81 (by decide) ?_
          refine g_goto (pc := 82) (tgt := 86) C dX12_orders_82 (by decide) ?_
          refine g_istore_n (pc := 86) (lv' := [(2, .int (1 : Int32)), (0, .ref o_t)]) C dX12_orders_86 rfl (by decide) rfl ?_
          refine g_goto (pc := 87) (tgt := 50) C dX12_orders_87 (by decide) ?_
          refine g_sub [1, 0] rfl ?_
          exact ih _ h
set_option maxHeartbeats 4000000 in
set_option maxRecDepth 100000 in
theorem c_X12_orders (l : Launch) (E : GE) (o_t : Nat) (a_t : Nat → Nat) (t_toldDoors : Int32) (t_barredDoors : Int32) (t_taped : Int32) (t_place0 : Int32) (t_length0 : Int32) (t_fault : Int32) (t_number0 : Int32) (t_open : Int32) (t_codeMany : Int32) (t_waiting : Int32) (t_saidMany : Int32) (t_clauses : Int32) (t_newMany : Int32) (t_rounds : Int32) (t_pinFrom : Int32) (t_pinTimes : Int32) (t_lines : Int32) (t_wasTold : Int32) (t_wasBarred : Int32) (t_goesNow : Int32) (t_jamsNow : Int32) (t_queued : Int32) (t_isKept : Int32) (t_now : (Nat → Int32)) (t_aside : (Nat → Int32)) (t_prongsOf : (Nat → Int32)) (t_oneOf : (Nat → Int32)) (t_otherOf : (Nat → Int32)) (t_wardsOf : (Nat → Int32)) (t_wasProngs : (Nat → Int32)) (t_wasOne : (Nat → Int32)) (t_wasOther : (Nat → Int32)) (t_wasWards : (Nat → Int32)) (t_tape : (Nat → Int32)) (x1 : Int32) (r : Int32 × Int32 × Int32 × Int32 × Int32 × Int32 × Int32 × Int32 × Int32 × Int32 × Int32 × Int32 × Int32 × (Nat → Int32) × (Nat → Int32) × (Nat → Int32) × (Nat → Int32) × (Nat → Int32) × (Nat → Int32) × (Nat → Int32) × (Nat → Int32) × (Nat → Int32) × (Nat → Int32)) (h : f_X12_orders t_toldDoors t_barredDoors t_taped t_place0 t_length0 t_fault t_number0 t_codeMany t_saidMany t_lines t_wasTold t_wasBarred t_now t_aside t_prongsOf t_oneOf t_otherOf t_wardsOf t_wasProngs t_wasOne t_wasOther t_wasWards t_tape x1 = some r) : Cn l E yX12_orders cX12_orders 3 (some .int) 7 0 0 [.ref o_t, .int x1] (W_X12_orders E o_t a_t t_toldDoors t_barredDoors t_taped t_place0 t_length0 t_fault t_number0 t_open t_codeMany t_waiting t_saidMany t_clauses t_newMany t_rounds t_pinFrom t_pinTimes t_lines t_wasTold t_wasBarred t_goesNow t_jamsNow t_queued t_isKept t_now t_aside t_prongsOf t_oneOf t_otherOf t_wardsOf t_wasProngs t_wasOne t_wasOther t_wasWards t_tape) (fun w => w = (W_X12_orders E o_t a_t r.2.1 r.2.2.1 r.2.2.2.1 r.2.2.2.2.1 r.2.2.2.2.2.1 r.2.2.2.2.2.2.1 r.2.2.2.2.2.2.2.1 t_open r.2.2.2.2.2.2.2.2.1 t_waiting r.2.2.2.2.2.2.2.2.2.1 t_clauses t_newMany t_rounds t_pinFrom t_pinTimes r.2.2.2.2.2.2.2.2.2.2.1 r.2.2.2.2.2.2.2.2.2.2.2.1 r.2.2.2.2.2.2.2.2.2.2.2.2.1 t_goesNow t_jamsNow t_queued t_isKept r.2.2.2.2.2.2.2.2.2.2.2.2.2.1 r.2.2.2.2.2.2.2.2.2.2.2.2.2.2.1 r.2.2.2.2.2.2.2.2.2.2.2.2.2.2.2.1 r.2.2.2.2.2.2.2.2.2.2.2.2.2.2.2.2.1 r.2.2.2.2.2.2.2.2.2.2.2.2.2.2.2.2.2.1 r.2.2.2.2.2.2.2.2.2.2.2.2.2.2.2.2.2.2.1 r.2.2.2.2.2.2.2.2.2.2.2.2.2.2.2.2.2.2.2.1 r.2.2.2.2.2.2.2.2.2.2.2.2.2.2.2.2.2.2.2.2.1 r.2.2.2.2.2.2.2.2.2.2.2.2.2.2.2.2.2.2.2.2.2.1 r.2.2.2.2.2.2.2.2.2.2.2.2.2.2.2.2.2.2.2.2.2.2 t_tape)) (some (.int r.1)) := by
  refine Cn.ofI (by decide +kernel) (Nat.le_of_ble_eq_true rfl) (fun X hX hR C hret => ?_)
  subst hX
  show Gx X E 0 0 (W_X12_orders E o_t a_t t_toldDoors t_barredDoors t_taped t_place0 t_length0 t_fault t_number0 t_open t_codeMany t_waiting t_saidMany t_clauses t_newMany t_rounds t_pinFrom t_pinTimes t_lines t_wasTold t_wasBarred t_goesNow t_jamsNow t_queued t_isKept t_now t_aside t_prongsOf t_oneOf t_otherOf t_wardsOf t_wasProngs t_wasOne t_wasOther t_wasWards t_tape) 0 [(0, .ref o_t), (1, .int x1)] []
  unfold f_X12_orders at h
  refine g_iload_n (pc := 0) C dX12_orders_0 rfl 1 rfl ?_
  refine g_iconst (pc := 1) (v := 1) C dX12_orders_1 (by decide) ?_
  refine g_bipush (pc := 2) (v := 120) C dX12_orders_2 (by decide) ?_
  obtain ⟨u1, hu1, h⟩ := bs h
  refine g_callS (pc := 4) (st := []) (st1 := [.int u1]) (ws' := (W_X12_orders E o_t a_t t_toldDoors t_barredDoors t_taped t_place0 t_length0 t_fault t_number0 t_open t_codeMany t_waiting t_saidMany t_clauses t_newMany t_rounds t_pinFrom t_pinTimes t_lines t_wasTold t_wasBarred t_goesNow t_jamsNow t_queued t_isKept t_now t_aside t_prongsOf t_oneOf t_otherOf t_wardsOf t_wasProngs t_wasOne t_wasOther t_wasWards t_tape)) C mv_X12_in ms_X12_in ml_X12_117 (c_X12_in X.2.1 E x1 (1 : Int32) (120 : Int32) u1 hu1) dX12_orders_4 (by decide) rfl (Nat.le_of_ble_eq_true rfl) [] rfl (by decide) rfl rfl rfl rfl ?_
  refine g_if_eq (pc := 7) (tgt := 18) C dX12_orders_7 (by decide) h (fun h => ?_) (fun h => ?_)
  · refine g_iconst (pc := 18) (v := -1) C dX12_orders_18 (by decide) ?_
    cases h
    exact hret _ _ _ dX12_orders_19 rfl rfl
  · refine g_iload_n (pc := 10) C dX12_orders_10 rfl 1 rfl ?_
    refine g_aload_n (pc := 11) C dX12_orders_11 rfl 0 rfl ?_
    refine g_get (pc := 12) C fl_X12_139 dX12_orders_12 0 rfl rfl ?_
    refine g_icmp_le (pc := 15) (tgt := 20) C dX12_orders_15 (by decide) h (fun h => ?_) (fun h => ?_)
    · refine g_aload_n (pc := 20) C dX12_orders_20 rfl 0 rfl ?_
      refine g_iload_n (pc := 21) C dX12_orders_21 rfl 1 rfl ?_
      obtain ⟨u2, hu2, h⟩ := bs h
      refine g_callV (pc := 22) (st := []) (st1 := []) (ws' := (W_X12_orders E o_t a_t t_toldDoors t_barredDoors t_taped u2.1 u2.2.1 t_fault t_number0 t_open u2.2.2.1 t_waiting u2.2.2.2 t_clauses t_newMany t_rounds t_pinFrom t_pinTimes t_lines t_wasTold t_wasBarred t_goesNow t_jamsNow t_queued t_isKept t_now t_aside t_prongsOf t_oneOf t_otherOf t_wardsOf t_wasProngs t_wasOne t_wasOther t_wasWards t_tape)) C mv_X12_beginsText mi_X12_beginsText ml_X12_230 (c_X12_beginsText X.2.1 E o_t a_t t_toldDoors t_barredDoors t_taped t_place0 t_length0 t_fault t_number0 t_open t_codeMany t_waiting t_saidMany t_clauses t_newMany t_rounds t_pinFrom t_pinTimes t_lines t_wasTold t_wasBarred t_goesNow t_jamsNow t_queued t_isKept x1 u2 hu2) dX12_orders_22 (by decide) rfl (Nat.le_of_ble_eq_true rfl) 0 11 rfl rfl [0] rfl (by decide) rfl rfl rfl rfl ?_
      refine g_aload_n (pc := 25) C dX12_orders_25 rfl 0 rfl ?_
      refine g_iconst (pc := 26) (v := 0) C dX12_orders_26 (by decide) ?_
      refine g_put (pc := 27) (ws' := (W_X12_orders E o_t a_t t_toldDoors t_barredDoors t_taped u2.1 u2.2.1 t_fault t_number0 t_open u2.2.2.1 t_waiting u2.2.2.2 t_clauses t_newMany t_rounds t_pinFrom t_pinTimes (0 : Int32) t_wasTold t_wasBarred t_goesNow t_jamsNow t_queued t_isKept t_now t_aside t_prongsOf t_oneOf t_otherOf t_wardsOf t_wasProngs t_wasOne t_wasOther t_wasWards t_tape)) C .int fl_X12_283 dX12_orders_27 0 rfl (by decide +kernel) rfl rfl (Nat.le_of_ble_eq_true rfl) rfl ?_
      refine g_aload_n (pc := 30) C dX12_orders_30 rfl 0 rfl ?_
      refine g_get (pc := 31) C fl_X12_7 dX12_orders_31 0 rfl rfl ?_
      refine g_aload_n (pc := 34) C dX12_orders_34 rfl 0 rfl ?_
      refine g_get (pc := 35) C fl_X12_13 dX12_orders_35 0 rfl rfl ?_
      obtain ⟨u3, hu3, h⟩ := bs h
      refine g_callS (pc := 38) (st := []) (st1 := []) (ws' := (W_X12_orders E o_t a_t t_toldDoors t_barredDoors t_taped u2.1 u2.2.1 t_fault t_number0 t_open u2.2.2.1 t_waiting u2.2.2.2 t_clauses t_newMany t_rounds t_pinFrom t_pinTimes (0 : Int32) t_wasTold t_wasBarred t_goesNow t_jamsNow t_queued t_isKept t_now u3 t_prongsOf t_oneOf t_otherOf t_wardsOf t_wasProngs t_wasOne t_wasOther t_wasWards t_tape)) C mv_X12_copies ms_X12_copies ml_X12_298 (c_X12_copies X.2.1 E (a_t 0) 166 (a_t 1) 166 t_now t_aside u3 hu3) dX12_orders_38 (by decide) rfl (Nat.le_of_ble_eq_true rfl) [1, 2] rfl (by decide) rfl rfl rfl rfl ?_
      refine g_aload_n (pc := 41) C dX12_orders_41 rfl 0 rfl ?_
      obtain ⟨u4, hu4, h⟩ := bs h
      refine g_callV (pc := 42) (st := []) (st1 := []) (ws' := (W_X12_orders E o_t a_t t_toldDoors t_barredDoors t_taped u2.1 u2.2.1 t_fault t_number0 t_open u2.2.2.1 t_waiting u2.2.2.2 t_clauses t_newMany t_rounds t_pinFrom t_pinTimes (0 : Int32) u4.1 u4.2.1 t_goesNow t_jamsNow t_queued t_isKept t_now u3 t_prongsOf t_oneOf t_otherOf t_wardsOf u4.2.2.1 u4.2.2.2.1 u4.2.2.2.2.1 u4.2.2.2.2.2 t_tape)) C mv_X12_putsDoorsAside mi_X12_putsDoorsAside ml_X12_302 (c_X12_putsDoorsAside X.2.1 E o_t a_t t_toldDoors t_barredDoors t_taped u2.1 u2.2.1 t_fault t_number0 t_open u2.2.2.1 t_waiting u2.2.2.2 t_clauses t_newMany t_rounds t_pinFrom t_pinTimes (0 : Int32) t_wasTold t_wasBarred t_goesNow t_jamsNow t_queued t_isKept t_prongsOf t_oneOf t_otherOf t_wardsOf t_wasProngs t_wasOne t_wasOther t_wasWards u4 hu4) dX12_orders_42 (by decide) rfl (Nat.le_of_ble_eq_true rfl) 0 11 rfl rfl [0, 3, 4, 5, 6, 7, 8, 9, 10] rfl (by decide) rfl rfl rfl rfl ?_
      refine g_aload_n (pc := 45) C dX12_orders_45 rfl 0 rfl ?_
      obtain ⟨u5, hu5, h⟩ := bs h
      refine g_callV (pc := 46) (st := []) (st1 := [.int u5.1]) (ws' := (W_X12_orders E o_t a_t u5.2.1 u5.2.2.1 t_taped u5.2.2.2.1 u2.2.1 u5.2.2.2.2.1 u5.2.2.2.2.2.1 t_open u2.2.2.1 t_waiting u2.2.2.2 t_clauses t_newMany t_rounds t_pinFrom t_pinTimes u5.2.2.2.2.2.2.1 u4.1 u4.2.1 t_goesNow t_jamsNow t_queued t_isKept u5.2.2.2.2.2.2.2.1 u3 u5.2.2.2.2.2.2.2.2.1 u5.2.2.2.2.2.2.2.2.2.1 u5.2.2.2.2.2.2.2.2.2.2.1 u5.2.2.2.2.2.2.2.2.2.2.2 u4.2.2.1 u4.2.2.2.1 u4.2.2.2.2.1 u4.2.2.2.2.2 t_tape)) C mv_X12_readsLine mi_X12_readsLine ml_X12_305 (c_X12_readsLine X.2.1 E o_t a_t t_toldDoors t_barredDoors t_taped u2.1 u2.2.1 t_fault t_number0 t_open u2.2.2.1 t_waiting u2.2.2.2 t_clauses t_newMany t_rounds t_pinFrom t_pinTimes (0 : Int32) u4.1 u4.2.1 t_goesNow t_jamsNow t_queued t_isKept t_now t_prongsOf t_oneOf t_otherOf t_wardsOf t_tape u5 hu5) dX12_orders_46 (by decide) rfl (Nat.le_of_ble_eq_true rfl) 0 11 rfl rfl [0, 1, 3, 4, 5, 6, 11] rfl (by decide) rfl rfl rfl rfl ?_
      refine g_istore_n (pc := 49) (lv' := [(2, .int u5.1), (0, .ref o_t), (1, .int x1)]) C dX12_orders_49 rfl (by decide) rfl ?_
      refine g_sub [1, 0] rfl ?_
      refine kL_X12_orders_50 C o_t a_t t_open t_waiting t_clauses t_newMany t_rounds t_pinFrom t_pinTimes t_goesNow t_jamsNow t_queued t_isKept t_taped u2.2.1 u2.2.2.1 u2.2.2.2 u4.1 u4.2.1 u3 u4.2.2.1 u4.2.2.2.1 u4.2.2.2.2.1 u4.2.2.2.2.2 t_tape _ hret (fun s8 h => ?_) _ _ h
      refine g_aload_n (pc := 90) C dX12_orders_90 rfl 0 rfl ?_
      refine g_iconst (pc := 91) (v := 0) C dX12_orders_91 (by decide) ?_
      refine g_put (pc := 92) (ws' := (W_X12_orders E o_t a_t s8.2.1 s8.2.2.1 (0 : Int32) s8.2.2.2.1 u2.2.1 s8.2.2.2.2.1 s8.2.2.2.2.2.1 t_open u2.2.2.1 t_waiting u2.2.2.2 t_clauses t_newMany t_rounds t_pinFrom t_pinTimes s8.2.2.2.2.2.2.1 u4.1 u4.2.1 t_goesNow t_jamsNow t_queued t_isKept s8.2.2.2.2.2.2.2.1 u3 s8.2.2.2.2.2.2.2.2.1 s8.2.2.2.2.2.2.2.2.2.1 s8.2.2.2.2.2.2.2.2.2.2.1 s8.2.2.2.2.2.2.2.2.2.2.2 u4.2.2.1 u4.2.2.2.1 u4.2.2.2.2.1 u4.2.2.2.2.2 t_tape)) C .int fl_X12_139 dX12_orders_92 0 rfl (by decide +kernel) rfl rfl (Nat.le_of_ble_eq_true rfl) rfl ?_
      refine g_iload_n (pc := 95) C dX12_orders_95 rfl 1 rfl ?_
      refine g_if_eq (pc := 96) (tgt := 104) C dX12_orders_96 (by decide) h (fun h => ?_) (fun h => ?_)
      · refine g_aload_n (pc := 104) C dX12_orders_104 rfl 0 rfl ?_
        refine g_get (pc := 105) C fl_X12_13 dX12_orders_105 0 rfl rfl ?_
        refine g_aload_n (pc := 108) C dX12_orders_108 rfl 0 rfl ?_
        refine g_get (pc := 109) C fl_X12_7 dX12_orders_109 0 rfl rfl ?_
        obtain ⟨u9, hu9, h⟩ := bs h
        refine g_callS (pc := 112) (st := []) (st1 := []) (ws' := (W_X12_orders E o_t a_t s8.2.1 s8.2.2.1 (0 : Int32) s8.2.2.2.1 u2.2.1 s8.2.2.2.2.1 s8.2.2.2.2.2.1 t_open u2.2.2.1 t_waiting u2.2.2.2 t_clauses t_newMany t_rounds t_pinFrom t_pinTimes s8.2.2.2.2.2.2.1 u4.1 u4.2.1 t_goesNow t_jamsNow t_queued t_isKept u9 u3 s8.2.2.2.2.2.2.2.2.1 s8.2.2.2.2.2.2.2.2.2.1 s8.2.2.2.2.2.2.2.2.2.2.1 s8.2.2.2.2.2.2.2.2.2.2.2 u4.2.2.1 u4.2.2.2.1 u4.2.2.2.2.1 u4.2.2.2.2.2 t_tape)) C mv_X12_copies ms_X12_copies ml_X12_298 (c_X12_copies X.2.1 E (a_t 1) 166 (a_t 0) 166 u3 s8.2.2.2.2.2.2.2.1 u9 hu9) dX12_orders_112 (by decide) rfl (Nat.le_of_ble_eq_true rfl) [2, 1] rfl (by decide) rfl rfl rfl rfl ?_
        refine g_aload_n (pc := 115) C dX12_orders_115 rfl 0 rfl ?_
        obtain ⟨u10, hu10, h⟩ := bs h
        refine g_callV (pc := 116) (st := []) (st1 := []) (ws' := (W_X12_orders E o_t a_t u10.1 u10.2.1 (0 : Int32) s8.2.2.2.1 u2.2.1 s8.2.2.2.2.1 s8.2.2.2.2.2.1 t_open u2.2.2.1 t_waiting u2.2.2.2 t_clauses t_newMany t_rounds t_pinFrom t_pinTimes s8.2.2.2.2.2.2.1 u4.1 u4.2.1 t_goesNow t_jamsNow t_queued t_isKept u9 u3 u10.2.2.1 u10.2.2.2.1 u10.2.2.2.2.1 u10.2.2.2.2.2 u4.2.2.1 u4.2.2.2.1 u4.2.2.2.2.1 u4.2.2.2.2.2 t_tape)) C mv_X12_putsDoorsBack mi_X12_putsDoorsBack ml_X12_308 (c_X12_putsDoorsBack X.2.1 E o_t a_t s8.2.1 s8.2.2.1 (0 : Int32) s8.2.2.2.1 u2.2.1 s8.2.2.2.2.1 s8.2.2.2.2.2.1 t_open u2.2.2.1 t_waiting u2.2.2.2 t_clauses t_newMany t_rounds t_pinFrom t_pinTimes s8.2.2.2.2.2.2.1 u4.1 u4.2.1 t_goesNow t_jamsNow t_queued t_isKept s8.2.2.2.2.2.2.2.2.1 s8.2.2.2.2.2.2.2.2.2.1 s8.2.2.2.2.2.2.2.2.2.2.1 s8.2.2.2.2.2.2.2.2.2.2.2 u4.2.2.1 u4.2.2.2.1 u4.2.2.2.2.1 u4.2.2.2.2.2 u10 hu10) dX12_orders_116 (by decide) rfl (Nat.le_of_ble_eq_true rfl) 0 11 rfl rfl [0, 3, 4, 5, 6, 7, 8, 9, 10] rfl (by decide) rfl rfl rfl rfl ?_
        refine g_aload_n (pc := 119) C dX12_orders_119 rfl 0 rfl ?_
        refine g_get (pc := 120) C fl_X12_156 dX12_orders_120 0 rfl rfl ?_
        cases h
        exact hret _ _ _ dX12_orders_123 rfl rfl
      · refine g_aload_n (pc := 99) C dX12_orders_99 rfl 0 rfl ?_
        refine g_get (pc := 100) C fl_X12_283 dX12_orders_100 0 rfl rfl ?_
        cases h
        exact hret _ _ _ dX12_orders_103 rfl rfl
    · refine g_iconst (pc := 18) (v := -1) C dX12_orders_18 (by decide) ?_
      cases h
      exact hret _ _ _ dX12_orders_19 rfl rfl
abbrev W_X12_readsCondition (E : GE) (O_t : Nat) (a_t : Nat → Nat) (t_toldDoors : Int32) (t_barredDoors : Int32) (t_taped : Int32) (t_place0 : Int32) (t_length0 : Int32) (t_fault : Int32) (t_number0 : Int32) (t_open : Int32) (t_codeMany : Int32) (t_waiting : Int32) (t_saidMany : Int32) (t_clauses : Int32) (t_newMany : Int32) (t_rounds : Int32) (t_pinFrom : Int32) (t_pinTimes : Int32) (t_lines : Int32) (t_wasTold : Int32) (t_wasBarred : Int32) (t_goesNow : Int32) (t_jamsNow : Int32) (t_queued : Int32) (t_isKept : Int32) (t_tape : (Nat → Int32)) (t_said : (Nat → Int32)) (t_waitsAt : (Nat → Int32)) : va_W := [(O_t, ob_X12 a_t t_toldDoors t_barredDoors t_taped t_place0 t_length0 t_fault t_number0 t_open t_codeMany t_waiting t_saidMany t_clauses t_newMany t_rounds t_pinFrom t_pinTimes t_lines t_wasTold t_wasBarred t_goesNow t_jamsNow t_queued t_isKept), (a_t 13, .inl (E.2.2.1, 260, .inl t_tape)), (a_t 24, .inl (E.2.1, 260, .inl t_said)), (a_t 25, .inl (E.2.1, 260, .inl t_waitsAt))]
def L_X12_readsCondition_92 (t_length0 : Int32) (t_fault : Int32) (t_number0 : Int32) (t_tape : (Nat → Int32)) (t_waitsAt : (Nat → Int32)) (k0 : Int32 × Int32 × Int32 × Int32 × (Nat → Int32) → Option (Int32 × Int32 × Int32 × Int32 × Int32 × Int32 × Int32 × (Nat → Int32) × (Nat → Int32))) : Nat → Int32 × Int32 × Int32 × Int32 × (Nat → Int32) → Option (Int32 × Int32 × Int32 × Int32 × Int32 × Int32 × Int32 × (Nat → Int32) × (Nat → Int32)) := lp fun go s => (f_X12_here s.1 t_length0 t_tape).bind fun u10 => if u10 = (41 : Int32) then ((f_X12_lands s.2.2.1 s.2.2.2.1 s.2.2.2.2 t_waitsAt (1 : Int32)).bind fun u11 => nm (u11.1 - (1 : Int32)) fun v12 => nm (s.2.1 - (1 : Int32)) fun v13 => nm (s.1 + (1 : Int32)) fun v14 => if v12 = 0 then (some ((1 : Int32), v14, t_fault, t_number0, v13, s.2.2.1, v12, u11.2, t_waitsAt)) else (f_X12_endsPiece v13 s.2.2.1 v12 u11.2 t_waitsAt).bind fun u15 => go (v14, u15.1, u15.2.1, u15.2.2.1, u15.2.2.2)) else k0 (s.1, s.2.1, s.2.2.1, s.2.2.2.1, s.2.2.2.2)
def L_X12_readsCondition_40 (t_length0 : Int32) (t_tape : (Nat → Int32)) (k0 : Int32 × Int32 × Int32 × Int32 × Int32 × Int32 × (Nat → Int32) × (Nat → Int32) → Option (Int32 × Int32 × Int32 × Int32 × Int32 × Int32 × Int32 × (Nat → Int32) × (Nat → Int32))) : Nat → Int32 × Int32 × Int32 × Int32 × Int32 × Int32 × (Nat → Int32) × (Nat → Int32) → Option (Int32 × Int32 × Int32 × Int32 × Int32 × Int32 × Int32 × (Nat → Int32) × (Nat → Int32)) := lp fun go s => (f_X12_here s.1 t_length0 t_tape).bind fun u3 => jn (fun s4 : Unit => (f_X12_here s.1 t_length0 t_tape).bind fun u5 => jn (fun s6 : Int32 => (f_X12_opens s.1 s.2.1 s.2.2.2.1 s.2.2.2.2.2.1 s.2.2.2.2.2.2.2 s6).bind fun u7 => if u7.1 = 0 then (some ((0 : Int32), u7.2.1, u7.2.2.1, s.2.2.1, u7.2.2.2.1, s.2.2.2.2.1, u7.2.2.2.2.1, s.2.2.2.2.2.2.1, u7.2.2.2.2.2)) else go (u7.2.1, u7.2.2.1, s.2.2.1, u7.2.2.2.1, s.2.2.2.2.1, u7.2.2.2.2.1, s.2.2.2.2.2.2.1, u7.2.2.2.2.2)) fun j75 => if u5 = (33 : Int32) then (j75 (10 : Int32)) else j75 (13 : Int32)) fun j58 => if u3 = (33 : Int32) then (j58 ()) else (f_X12_here s.1 t_length0 t_tape).bind fun u8 => if u8 = (40 : Int32) then (j58 ()) else (f_X12_readsCompared s.1 t_length0 s.2.1 s.2.2.1 s.2.2.2.1 s.2.2.2.2.1 s.2.2.2.2.2.1 t_tape s.2.2.2.2.2.2.1 s.2.2.2.2.2.2.2).bind fun u9 => if u9.1 = 0 then (some ((0 : Int32), u9.2.1, u9.2.2.1, u9.2.2.2.1, u9.2.2.2.2.1, u9.2.2.2.2.2.1, u9.2.2.2.2.2.2.1, u9.2.2.2.2.2.2.2.1, u9.2.2.2.2.2.2.2.2)) else L_X12_readsCondition_92 t_length0 u9.2.2.1 u9.2.2.2.1 t_tape u9.2.2.2.2.2.2.2.2 (fun s16 => (f_X12_here s16.1 t_length0 t_tape).bind fun u17 => jn (fun s18 : Unit => (f_X12_here s16.1 t_length0 t_tape).bind fun u19 => jn (fun s20 : Int32 => (f_X12_lands s16.2.2.1 s16.2.2.2.1 s16.2.2.2.2 u9.2.2.2.2.2.2.2.2 s20).bind fun u21 => (f_X12_here s16.1 t_length0 t_tape).bind fun u22 => jn (fun s23 : Int32 => (f_X12_jumps s16.1 s16.2.2.1 u21.1 u21.2 u9.2.2.2.2.2.2.2.2 s23).bind fun u24 => go (u24.1, u9.2.2.1, u9.2.2.2.1, s16.2.1, u24.2.1, u24.2.2.1, u24.2.2.2.1, u24.2.2.2.2)) fun j215 => if u22 = (38 : Int32) then (j215 (11 : Int32)) else j215 (12 : Int32)) fun j195 => if u19 = (124 : Int32) then (j195 (1 : Int32)) else j195 (0 : Int32)) fun j180 => if u17 = (38 : Int32) then (j180 ()) else (f_X12_here s16.1 t_length0 t_tape).bind fun u25 => if u25 = (124 : Int32) then (j180 ()) else k0 (s16.1, u9.2.2.1, u9.2.2.2.1, s16.2.1, s16.2.2.1, s16.2.2.2.1, s16.2.2.2.2, u9.2.2.2.2.2.2.2.2)) fu (u9.2.1, u9.2.2.2.2.1, u9.2.2.2.2.2.1, u9.2.2.2.2.2.2.1, u9.2.2.2.2.2.2.2.1)
def f_X12_readsCondition (t_place0 : Int32) (t_length0 : Int32) (t_fault : Int32) (t_number0 : Int32) (t_open : Int32) (t_codeMany : Int32) (t_waiting : Int32) (t_tape : (Nat → Int32)) (t_said : (Nat → Int32)) (t_waitsAt : (Nat → Int32)) : Option (Int32 × Int32 × Int32 × Int32 × Int32 × Int32 × Int32 × (Nat → Int32) × (Nat → Int32)) := (f_X12_here t_place0 t_length0 t_tape).bind fun u1 => if u1 = (40 : Int32) then ((f_X12_opens t_place0 t_fault (0 : Int32) (0 : Int32) t_waitsAt (13 : Int32)).bind fun u2 => if u2.1 = 0 then (some ((0 : Int32), u2.2.1, u2.2.2.1, t_number0, u2.2.2.2.1, t_codeMany, u2.2.2.2.2.1, t_said, u2.2.2.2.2.2)) else L_X12_readsCondition_40 t_length0 t_tape (fun s26 => (f_X12_wrongAt s26.2.1 (1 : Int32) s26.1).bind fun u27 => gb u27.1 <| some (u27.1, s26.1, u27.2, s26.2.2.1, s26.2.2.2.1, s26.2.2.2.2.1, s26.2.2.2.2.2.1, s26.2.2.2.2.2.2.1, s26.2.2.2.2.2.2.2)) fu (u2.2.1, u2.2.2.1, t_number0, u2.2.2.2.1, t_codeMany, u2.2.2.2.2.1, t_said, u2.2.2.2.2.2)) else (f_X12_wrongAt t_fault (1 : Int32) t_place0).bind fun u28 => gb u28.1 <| some (u28.1, t_place0, u28.2, t_number0, t_open, t_codeMany, t_waiting, t_said, t_waitsAt)
theorem dX12_readsCondition_0 : decode cX12_readsCondition 0 = .ok (.aload_n 0, 1) := by decide +kernel
theorem dX12_readsCondition_1 : decode cX12_readsCondition 1 = .ok (.invokevirtual 152, 3) := by decide +kernel
theorem dX12_readsCondition_4 : decode cX12_readsCondition 4 = .ok (.bipush 40, 2) := by decide +kernel
theorem dX12_readsCondition_6 : decode cX12_readsCondition 6 = .ok (.if_icmp .eq 13, 3) := by decide +kernel
theorem dX12_readsCondition_9 : decode cX12_readsCondition 9 = .ok (.aload_n 0, 1) := by decide +kernel
theorem dX12_readsCondition_10 : decode cX12_readsCondition 10 = .ok (.iconst 1, 1) := by decide +kernel
theorem dX12_readsCondition_11 : decode cX12_readsCondition 11 = .ok (.aload_n 0, 1) := by decide +kernel
theorem dX12_readsCondition_12 : decode cX12_readsCondition 12 = .ok (.getfield 146, 3) := by decide +kernel
theorem dX12_readsCondition_15 : decode cX12_readsCondition 15 = .ok (.invokevirtual 159, 3) := by decide +kernel
theorem dX12_readsCondition_18 : decode cX12_readsCondition 18 = .ok (.ireturn, 1) := by decide +kernel
theorem dX12_readsCondition_19 : decode cX12_readsCondition 19 = .ok (.aload_n 0, 1) := by decide +kernel
theorem dX12_readsCondition_20 : decode cX12_readsCondition 20 = .ok (.iconst 0, 1) := by decide +kernel
theorem dX12_readsCondition_21 : decode cX12_readsCondition 21 = .ok (.putfield 173, 3) := by decide +kernel
theorem dX12_readsCondition_24 : decode cX12_readsCondition 24 = .ok (.aload_n 0, 1) := by decide +kernel
theorem dX12_readsCondition_25 : decode cX12_readsCondition 25 = .ok (.iconst 0, 1) := by decide +kernel
theorem dX12_readsCondition_26 : decode cX12_readsCondition 26 = .ok (.putfield 176, 3) := by decide +kernel
theorem dX12_readsCondition_29 : decode cX12_readsCondition 29 = .ok (.aload_n 0, 1) := by decide +kernel
theorem dX12_readsCondition_30 : decode cX12_readsCondition 30 = .ok (.bipush 13, 2) := by decide +kernel
theorem dX12_readsCondition_32 : decode cX12_readsCondition 32 = .ok (.invokevirtual 186, 3) := by decide +kernel
theorem dX12_readsCondition_35 : decode cX12_readsCondition 35 = .ok (.ifCond .ne 5, 3) := by decide +kernel
theorem dX12_readsCondition_38 : decode cX12_readsCondition 38 = .ok (.iconst 0, 1) := by decide +kernel
theorem dX12_readsCondition_39 : decode cX12_readsCondition 39 = .ok (.ireturn, 1) := by decide +kernel
theorem dX12_readsCondition_40 : decode cX12_readsCondition 40 = .ok (.aload_n 0, 1) := by decide +kernel
theorem dX12_readsCondition_41 : decode cX12_readsCondition 41 = .ok (.invokevirtual 152, 3) := by decide +kernel
theorem dX12_readsCondition_44 : decode cX12_readsCondition 44 = .ok (.bipush 33, 2) := by decide +kernel
theorem dX12_readsCondition_46 : decode cX12_readsCondition 46 = .ok (.if_icmp .eq 12, 3) := by decide +kernel
theorem dX12_readsCondition_49 : decode cX12_readsCondition 49 = .ok (.aload_n 0, 1) := by decide +kernel
theorem dX12_readsCondition_50 : decode cX12_readsCondition 50 = .ok (.invokevirtual 152, 3) := by decide +kernel
theorem dX12_readsCondition_53 : decode cX12_readsCondition 53 = .ok (.bipush 40, 2) := by decide +kernel
theorem dX12_readsCondition_55 : decode cX12_readsCondition 55 = .ok (.if_icmp .ne 28, 3) := by decide +kernel
theorem dX12_readsCondition_58 : decode cX12_readsCondition 58 = .ok (.aload_n 0, 1) := by decide +kernel
theorem dX12_readsCondition_59 : decode cX12_readsCondition 59 = .ok (.aload_n 0, 1) := by decide +kernel
theorem dX12_readsCondition_60 : decode cX12_readsCondition 60 = .ok (.invokevirtual 152, 3) := by decide +kernel
theorem dX12_readsCondition_63 : decode cX12_readsCondition 63 = .ok (.bipush 33, 2) := by decide +kernel
theorem dX12_readsCondition_65 : decode cX12_readsCondition 65 = .ok (.if_icmp .ne 8, 3) := by decide +kernel
theorem dX12_readsCondition_68 : decode cX12_readsCondition 68 = .ok (.bipush 10, 2) := by decide +kernel
theorem dX12_readsCondition_70 : decode cX12_readsCondition 70 = .ok (.goto 5, 3) := by decide +kernel
theorem dX12_readsCondition_73 : decode cX12_readsCondition 73 = .ok (.bipush 13, 2) := by decide +kernel
theorem dX12_readsCondition_75 : decode cX12_readsCondition 75 = .ok (.invokevirtual 186, 3) := by decide +kernel
theorem dX12_readsCondition_78 : decode cX12_readsCondition 78 = .ok (.ifCond .ne (-38), 3) := by decide +kernel
theorem dX12_readsCondition_81 : decode cX12_readsCondition 81 = .ok (.iconst 0, 1) := by decide +kernel
theorem dX12_readsCondition_82 : decode cX12_readsCondition 82 = .ok (.ireturn, 1) := by decide +kernel
theorem dX12_readsCondition_83 : decode cX12_readsCondition 83 = .ok (.aload_n 0, 1) := by decide +kernel
theorem dX12_readsCondition_84 : decode cX12_readsCondition 84 = .ok (.invokevirtual 215, 3) := by decide +kernel
theorem dX12_readsCondition_87 : decode cX12_readsCondition 87 = .ok (.ifCond .ne 5, 3) := by decide +kernel
theorem dX12_readsCondition_90 : decode cX12_readsCondition 90 = .ok (.iconst 0, 1) := by decide +kernel
theorem dX12_readsCondition_91 : decode cX12_readsCondition 91 = .ok (.ireturn, 1) := by decide +kernel
theorem dX12_readsCondition_92 : decode cX12_readsCondition 92 = .ok (.aload_n 0, 1) := by decide +kernel
theorem dX12_readsCondition_93 : decode cX12_readsCondition 93 = .ok (.invokevirtual 152, 3) := by decide +kernel
theorem dX12_readsCondition_96 : decode cX12_readsCondition 96 = .ok (.bipush 41, 2) := by decide +kernel
theorem dX12_readsCondition_98 : decode cX12_readsCondition 98 = .ok (.if_icmp .ne 54, 3) := by decide +kernel
theorem dX12_readsCondition_101 : decode cX12_readsCondition 101 = .ok (.aload_n 0, 1) := by decide +kernel
theorem dX12_readsCondition_102 : decode cX12_readsCondition 102 = .ok (.iconst 1, 1) := by decide +kernel
theorem dX12_readsCondition_103 : decode cX12_readsCondition 103 = .ok (.invokevirtual 218, 3) := by decide +kernel
theorem dX12_readsCondition_106 : decode cX12_readsCondition 106 = .ok (.aload_n 0, 1) := by decide +kernel
theorem dX12_readsCondition_107 : decode cX12_readsCondition 107 = .ok (.aload_n 0, 1) := by decide +kernel
theorem dX12_readsCondition_108 : decode cX12_readsCondition 108 = .ok (.getfield 176, 3) := by decide +kernel
theorem dX12_readsCondition_111 : decode cX12_readsCondition 111 = .ok (.iconst 1, 1) := by decide +kernel
theorem dX12_readsCondition_112 : decode cX12_readsCondition 112 = .ok (.isub, 1) := by decide +kernel
theorem dX12_readsCondition_113 : decode cX12_readsCondition 113 = .ok (.putfield 176, 3) := by decide +kernel
theorem dX12_readsCondition_116 : decode cX12_readsCondition 116 = .ok (.aload_n 0, 1) := by decide +kernel
theorem dX12_readsCondition_117 : decode cX12_readsCondition 117 = .ok (.aload_n 0, 1) := by decide +kernel
theorem dX12_readsCondition_118 : decode cX12_readsCondition 118 = .ok (.getfield 173, 3) := by decide +kernel
theorem dX12_readsCondition_121 : decode cX12_readsCondition 121 = .ok (.iconst 1, 1) := by decide +kernel
theorem dX12_readsCondition_122 : decode cX12_readsCondition 122 = .ok (.isub, 1) := by decide +kernel
theorem dX12_readsCondition_123 : decode cX12_readsCondition 123 = .ok (.putfield 173, 3) := by decide +kernel
theorem dX12_readsCondition_126 : decode cX12_readsCondition 126 = .ok (.aload_n 0, 1) := by decide +kernel
theorem dX12_readsCondition_127 : decode cX12_readsCondition 127 = .ok (.aload_n 0, 1) := by decide +kernel
theorem dX12_readsCondition_128 : decode cX12_readsCondition 128 = .ok (.getfield 146, 3) := by decide +kernel
theorem dX12_readsCondition_131 : decode cX12_readsCondition 131 = .ok (.iconst 1, 1) := by decide +kernel
theorem dX12_readsCondition_132 : decode cX12_readsCondition 132 = .ok (.iadd, 1) := by decide +kernel
theorem dX12_readsCondition_133 : decode cX12_readsCondition 133 = .ok (.putfield 146, 3) := by decide +kernel
theorem dX12_readsCondition_136 : decode cX12_readsCondition 136 = .ok (.aload_n 0, 1) := by decide +kernel
theorem dX12_readsCondition_137 : decode cX12_readsCondition 137 = .ok (.getfield 176, 3) := by decide +kernel
theorem dX12_readsCondition_140 : decode cX12_readsCondition 140 = .ok (.ifCond .ne 5, 3) := by decide +kernel
theorem dX12_readsCondition_143 : decode cX12_readsCondition 143 = .ok (.iconst 1, 1) := by decide +kernel
theorem dX12_readsCondition_144 : decode cX12_readsCondition 144 = .ok (.ireturn, 1) := by decide +kernel
theorem dX12_readsCondition_145 : decode cX12_readsCondition 145 = .ok (.aload_n 0, 1) := by decide +kernel
theorem dX12_readsCondition_146 : decode cX12_readsCondition 146 = .ok (.invokevirtual 212, 3) := by decide +kernel
theorem dX12_readsCondition_149 : decode cX12_readsCondition 149 = .ok (.goto (-57), 3) := by decide +kernel
theorem dX12_readsCondition_152 : decode cX12_readsCondition 152 = .ok (.aload_n 0, 1) := by decide +kernel
theorem dX12_readsCondition_153 : decode cX12_readsCondition 153 = .ok (.invokevirtual 152, 3) := by decide +kernel
theorem dX12_readsCondition_156 : decode cX12_readsCondition 156 = .ok (.bipush 38, 2) := by decide +kernel
theorem dX12_readsCondition_158 : decode cX12_readsCondition 158 = .ok (.if_icmp .eq 22, 3) := by decide +kernel
theorem dX12_readsCondition_161 : decode cX12_readsCondition 161 = .ok (.aload_n 0, 1) := by decide +kernel
theorem dX12_readsCondition_162 : decode cX12_readsCondition 162 = .ok (.invokevirtual 152, 3) := by decide +kernel
theorem dX12_readsCondition_165 : decode cX12_readsCondition 165 = .ok (.bipush 124, 2) := by decide +kernel
theorem dX12_readsCondition_167 : decode cX12_readsCondition 167 = .ok (.if_icmp .eq 13, 3) := by decide +kernel
theorem dX12_readsCondition_170 : decode cX12_readsCondition 170 = .ok (.aload_n 0, 1) := by decide +kernel
theorem dX12_readsCondition_171 : decode cX12_readsCondition 171 = .ok (.iconst 1, 1) := by decide +kernel
theorem dX12_readsCondition_172 : decode cX12_readsCondition 172 = .ok (.aload_n 0, 1) := by decide +kernel
theorem dX12_readsCondition_173 : decode cX12_readsCondition 173 = .ok (.getfield 146, 3) := by decide +kernel
theorem dX12_readsCondition_176 : decode cX12_readsCondition 176 = .ok (.invokevirtual 159, 3) := by decide +kernel
theorem dX12_readsCondition_179 : decode cX12_readsCondition 179 = .ok (.ireturn, 1) := by decide +kernel
theorem dX12_readsCondition_180 : decode cX12_readsCondition 180 = .ok (.aload_n 0, 1) := by decide +kernel
theorem dX12_readsCondition_181 : decode cX12_readsCondition 181 = .ok (.aload_n 0, 1) := by decide +kernel
theorem dX12_readsCondition_182 : decode cX12_readsCondition 182 = .ok (.invokevirtual 152, 3) := by decide +kernel
theorem dX12_readsCondition_185 : decode cX12_readsCondition 185 = .ok (.bipush 124, 2) := by decide +kernel
theorem dX12_readsCondition_187 : decode cX12_readsCondition 187 = .ok (.if_icmp .ne 7, 3) := by decide +kernel
theorem dX12_readsCondition_190 : decode cX12_readsCondition 190 = .ok (.iconst 1, 1) := by decide +kernel
theorem dX12_readsCondition_191 : decode cX12_readsCondition 191 = .ok (.goto 4, 3) := by decide +kernel
theorem dX12_readsCondition_194 : decode cX12_readsCondition 194 = .ok (.iconst 0, 1) := by decide +kernel
theorem dX12_readsCondition_195 : decode cX12_readsCondition 195 = .ok (.invokevirtual 218, 3) := by decide +kernel
theorem dX12_readsCondition_198 : decode cX12_readsCondition 198 = .ok (.aload_n 0, 1) := by decide +kernel
theorem dX12_readsCondition_199 : decode cX12_readsCondition 199 = .ok (.aload_n 0, 1) := by decide +kernel
theorem dX12_readsCondition_200 : decode cX12_readsCondition 200 = .ok (.invokevirtual 152, 3) := by decide +kernel
theorem dX12_readsCondition_203 : decode cX12_readsCondition 203 = .ok (.bipush 38, 2) := by decide +kernel
theorem dX12_readsCondition_205 : decode cX12_readsCondition 205 = .ok (.if_icmp .ne 8, 3) := by decide +kernel
theorem dX12_readsCondition_208 : decode cX12_readsCondition 208 = .ok (.bipush 11, 2) := by decide +kernel
theorem dX12_readsCondition_210 : decode cX12_readsCondition 210 = .ok (.goto 5, 3) := by decide +kernel
theorem dX12_readsCondition_213 : decode cX12_readsCondition 213 = .ok (.bipush 12, 2) := by decide +kernel
theorem dX12_readsCondition_215 : decode cX12_readsCondition 215 = .ok (.invokevirtual 221, 3) := by decide +kernel
theorem dX12_readsCondition_218 : decode cX12_readsCondition 218 = .ok (.goto (-178), 3) := by decide +kernel
set_option maxHeartbeats 4000000 in
set_option maxRecDepth 100000 in
theorem kL_X12_readsCondition_92 {X : GC} {E : GE} (C : Cx X E cX12_readsCondition RX12 7 1) (o_t : Nat) (a_t : Nat → Nat) (t_toldDoors : Int32) (t_barredDoors : Int32) (t_taped : Int32) (t_saidMany : Int32) (t_clauses : Int32) (t_newMany : Int32) (t_rounds : Int32) (t_pinFrom : Int32) (t_pinTimes : Int32) (t_lines : Int32) (t_wasTold : Int32) (t_wasBarred : Int32) (t_goesNow : Int32) (t_jamsNow : Int32) (t_queued : Int32) (t_isKept : Int32) (t_length0 : Int32) (t_fault : Int32) (t_number0 : Int32) (t_tape : (Nat → Int32)) (t_waitsAt : (Nat → Int32)) (k0 : Int32 × Int32 × Int32 × Int32 × (Nat → Int32) → Option (Int32 × Int32 × Int32 × Int32 × Int32 × Int32 × Int32 × (Nat → Int32) × (Nat → Int32))) {r : Int32 × Int32 × Int32 × Int32 × Int32 × Int32 × Int32 × (Nat → Int32) × (Nat → Int32)} (hret : RtI X E cX12_readsCondition .boolean 0 0 (fun w => w = (W_X12_readsCondition E o_t a_t t_toldDoors t_barredDoors t_taped r.2.1 t_length0 r.2.2.1 r.2.2.2.1 r.2.2.2.2.1 r.2.2.2.2.2.1 r.2.2.2.2.2.2.1 t_saidMany t_clauses t_newMany t_rounds t_pinFrom t_pinTimes t_lines t_wasTold t_wasBarred t_goesNow t_jamsNow t_queued t_isKept t_tape r.2.2.2.2.2.2.2.1 r.2.2.2.2.2.2.2.2)) r.1) (hk0 : ∀ u, k0 u = some r → Gx X E 0 0 (W_X12_readsCondition E o_t a_t t_toldDoors t_barredDoors t_taped u.1 t_length0 t_fault t_number0 u.2.1 u.2.2.1 u.2.2.2.1 t_saidMany t_clauses t_newMany t_rounds t_pinFrom t_pinTimes t_lines t_wasTold t_wasBarred t_goesNow t_jamsNow t_queued t_isKept t_tape u.2.2.2.2 t_waitsAt) 152 [(0, .ref o_t)] []) : ∀ (n : Nat) (s : Int32 × Int32 × Int32 × Int32 × (Nat → Int32)), L_X12_readsCondition_92 t_length0 t_fault t_number0 t_tape t_waitsAt k0 n s = some r → Gx X E 0 0 (W_X12_readsCondition E o_t a_t t_toldDoors t_barredDoors t_taped s.1 t_length0 t_fault t_number0 s.2.1 s.2.2.1 s.2.2.2.1 t_saidMany t_clauses t_newMany t_rounds t_pinFrom t_pinTimes t_lines t_wasTold t_wasBarred t_goesNow t_jamsNow t_queued t_isKept t_tape s.2.2.2.2 t_waitsAt) 92 [(0, .ref o_t)] [] := by
  unfold L_X12_readsCondition_92
  refine lp_ind _ (fun go ih s h => ?_)
  refine g_aload_n (pc := 92) C dX12_readsCondition_92 rfl 0 rfl ?_
  obtain ⟨u10, hu10, h⟩ := bs h
  refine g_callV (pc := 93) (st := []) (st1 := [.int u10]) (ws' := (W_X12_readsCondition E o_t a_t t_toldDoors t_barredDoors t_taped s.1 t_length0 t_fault t_number0 s.2.1 s.2.2.1 s.2.2.2.1 t_saidMany t_clauses t_newMany t_rounds t_pinFrom t_pinTimes t_lines t_wasTold t_wasBarred t_goesNow t_jamsNow t_queued t_isKept t_tape s.2.2.2.2 t_waitsAt)) C mv_X12_here mi_X12_here ml_X12_152 (c_X12_here X.2.1 E o_t a_t t_toldDoors t_barredDoors t_taped s.1 t_length0 t_fault t_number0 s.2.1 s.2.2.1 s.2.2.2.1 t_saidMany t_clauses t_newMany t_rounds t_pinFrom t_pinTimes t_lines t_wasTold t_wasBarred t_goesNow t_jamsNow t_queued t_isKept t_tape u10 hu10) dX12_readsCondition_93 (by decide) rfl (Nat.le_of_ble_eq_true rfl) 0 11 rfl rfl [0, 1] rfl (by decide) rfl rfl rfl rfl ?_
  refine g_bipush (pc := 96) (v := 41) C dX12_readsCondition_96 (by decide) ?_
  refine g_icmp_ne (pc := 98) (tgt := 152) C dX12_readsCondition_98 (by decide) h (fun h => ?_) (fun h => ?_)
  · exact hk0 _ h
  · refine g_aload_n (pc := 101) C dX12_readsCondition_101 rfl 0 rfl ?_
    refine g_iconst (pc := 102) (v := 1) C dX12_readsCondition_102 (by decide) ?_
    obtain ⟨u11, hu11, h⟩ := bs h
    refine g_callV (pc := 103) (st := []) (st1 := []) (ws' := (W_X12_readsCondition E o_t a_t t_toldDoors t_barredDoors t_taped s.1 t_length0 t_fault t_number0 s.2.1 s.2.2.1 u11.1 t_saidMany t_clauses t_newMany t_rounds t_pinFrom t_pinTimes t_lines t_wasTold t_wasBarred t_goesNow t_jamsNow t_queued t_isKept t_tape u11.2 t_waitsAt)) C mv_X12_lands mi_X12_lands ml_X12_218 (c_X12_lands X.2.1 E o_t a_t t_toldDoors t_barredDoors t_taped s.1 t_length0 t_fault t_number0 s.2.1 s.2.2.1 s.2.2.2.1 t_saidMany t_clauses t_newMany t_rounds t_pinFrom t_pinTimes t_lines t_wasTold t_wasBarred t_goesNow t_jamsNow t_queued t_isKept s.2.2.2.2 t_waitsAt (1 : Int32) u11 hu11) dX12_readsCondition_103 (by decide) rfl (Nat.le_of_ble_eq_true rfl) 0 11 rfl rfl [0, 2, 3] rfl (by decide) rfl rfl rfl rfl ?_
    refine g_aload_n (pc := 106) C dX12_readsCondition_106 rfl 0 rfl ?_
    refine g_aload_n (pc := 107) C dX12_readsCondition_107 rfl 0 rfl ?_
    refine g_get (pc := 108) C fl_X12_176 dX12_readsCondition_108 0 rfl rfl ?_
    refine g_iconst (pc := 111) (v := 1) C dX12_readsCondition_111 (by decide) ?_
    refine g_isub (pc := 112) C dX12_readsCondition_112 ?_
    refine g_nm h (fun v12 h => ?_)
    refine g_put (pc := 113) (ws' := (W_X12_readsCondition E o_t a_t t_toldDoors t_barredDoors t_taped s.1 t_length0 t_fault t_number0 s.2.1 s.2.2.1 v12 t_saidMany t_clauses t_newMany t_rounds t_pinFrom t_pinTimes t_lines t_wasTold t_wasBarred t_goesNow t_jamsNow t_queued t_isKept t_tape u11.2 t_waitsAt)) C .int fl_X12_176 dX12_readsCondition_113 0 rfl (by decide +kernel) rfl rfl (Nat.le_of_ble_eq_true rfl) rfl ?_
    refine g_aload_n (pc := 116) C dX12_readsCondition_116 rfl 0 rfl ?_
    refine g_aload_n (pc := 117) C dX12_readsCondition_117 rfl 0 rfl ?_
    refine g_get (pc := 118) C fl_X12_173 dX12_readsCondition_118 0 rfl rfl ?_
    refine g_iconst (pc := 121) (v := 1) C dX12_readsCondition_121 (by decide) ?_
    refine g_isub (pc := 122) C dX12_readsCondition_122 ?_
    refine g_nm h (fun v13 h => ?_)
    refine g_put (pc := 123) (ws' := (W_X12_readsCondition E o_t a_t t_toldDoors t_barredDoors t_taped s.1 t_length0 t_fault t_number0 v13 s.2.2.1 v12 t_saidMany t_clauses t_newMany t_rounds t_pinFrom t_pinTimes t_lines t_wasTold t_wasBarred t_goesNow t_jamsNow t_queued t_isKept t_tape u11.2 t_waitsAt)) C .int fl_X12_173 dX12_readsCondition_123 0 rfl (by decide +kernel) rfl rfl (Nat.le_of_ble_eq_true rfl) rfl ?_
    refine g_aload_n (pc := 126) C dX12_readsCondition_126 rfl 0 rfl ?_
    refine g_aload_n (pc := 127) C dX12_readsCondition_127 rfl 0 rfl ?_
    refine g_get (pc := 128) C fl_X12_146 dX12_readsCondition_128 0 rfl rfl ?_
    refine g_iconst (pc := 131) (v := 1) C dX12_readsCondition_131 (by decide) ?_
    refine g_iadd (pc := 132) C dX12_readsCondition_132 ?_
    refine g_nm h (fun v14 h => ?_)
    refine g_put (pc := 133) (ws' := (W_X12_readsCondition E o_t a_t t_toldDoors t_barredDoors t_taped v14 t_length0 t_fault t_number0 v13 s.2.2.1 v12 t_saidMany t_clauses t_newMany t_rounds t_pinFrom t_pinTimes t_lines t_wasTold t_wasBarred t_goesNow t_jamsNow t_queued t_isKept t_tape u11.2 t_waitsAt)) C .int fl_X12_146 dX12_readsCondition_133 0 rfl (by decide +kernel) rfl rfl (Nat.le_of_ble_eq_true rfl) rfl ?_
    refine g_aload_n (pc := 136) C dX12_readsCondition_136 rfl 0 rfl ?_
    refine g_get (pc := 137) C fl_X12_176 dX12_readsCondition_137 0 rfl rfl ?_
    refine g_if_ne (pc := 140) (tgt := 145) C dX12_readsCondition_140 (by decide) h (fun h => ?_) (fun h => ?_)
    · refine g_aload_n (pc := 145) C dX12_readsCondition_145 rfl 0 rfl ?_
      obtain ⟨u15, hu15, h⟩ := bs h
      refine g_callV (pc := 146) (st := []) (st1 := []) (ws' := (W_X12_readsCondition E o_t a_t t_toldDoors t_barredDoors t_taped v14 t_length0 t_fault t_number0 u15.1 u15.2.1 u15.2.2.1 t_saidMany t_clauses t_newMany t_rounds t_pinFrom t_pinTimes t_lines t_wasTold t_wasBarred t_goesNow t_jamsNow t_queued t_isKept t_tape u15.2.2.2 t_waitsAt)) C mv_X12_endsPiece mi_X12_endsPiece ml_X12_212 (c_X12_endsPiece X.2.1 E o_t a_t t_toldDoors t_barredDoors t_taped v14 t_length0 t_fault t_number0 v13 s.2.2.1 v12 t_saidMany t_clauses t_newMany t_rounds t_pinFrom t_pinTimes t_lines t_wasTold t_wasBarred t_goesNow t_jamsNow t_queued t_isKept u11.2 t_waitsAt u15 hu15) dX12_readsCondition_146 (by decide) rfl (Nat.le_of_ble_eq_true rfl) 0 11 rfl rfl [0, 2, 3] rfl (by decide) rfl rfl rfl rfl ?_
      refine g_goto (pc := 149) (tgt := 92) C dX12_readsCondition_149 (by decide) ?_
      exact ih _ h
    · refine g_iconst (pc := 143) (v := 1) C dX12_readsCondition_143 (by decide) ?_
      cases h
      exact hret _ _ _ dX12_readsCondition_144 nb1 rfl
set_option maxHeartbeats 4000000 in
set_option maxRecDepth 100000 in
theorem kL_X12_readsCondition_40 {X : GC} {E : GE} (C : Cx X E cX12_readsCondition RX12 7 1) (o_t : Nat) (a_t : Nat → Nat) (t_toldDoors : Int32) (t_barredDoors : Int32) (t_taped : Int32) (t_saidMany : Int32) (t_clauses : Int32) (t_newMany : Int32) (t_rounds : Int32) (t_pinFrom : Int32) (t_pinTimes : Int32) (t_lines : Int32) (t_wasTold : Int32) (t_wasBarred : Int32) (t_goesNow : Int32) (t_jamsNow : Int32) (t_queued : Int32) (t_isKept : Int32) (t_length0 : Int32) (t_tape : (Nat → Int32)) (k0 : Int32 × Int32 × Int32 × Int32 × Int32 × Int32 × (Nat → Int32) × (Nat → Int32) → Option (Int32 × Int32 × Int32 × Int32 × Int32 × Int32 × Int32 × (Nat → Int32) × (Nat → Int32))) {r : Int32 × Int32 × Int32 × Int32 × Int32 × Int32 × Int32 × (Nat → Int32) × (Nat → Int32)} (hret : RtI X E cX12_readsCondition .boolean 0 0 (fun w => w = (W_X12_readsCondition E o_t a_t t_toldDoors t_barredDoors t_taped r.2.1 t_length0 r.2.2.1 r.2.2.2.1 r.2.2.2.2.1 r.2.2.2.2.2.1 r.2.2.2.2.2.2.1 t_saidMany t_clauses t_newMany t_rounds t_pinFrom t_pinTimes t_lines t_wasTold t_wasBarred t_goesNow t_jamsNow t_queued t_isKept t_tape r.2.2.2.2.2.2.2.1 r.2.2.2.2.2.2.2.2)) r.1) (hk0 : ∀ u, k0 u = some r → Gx X E 0 0 (W_X12_readsCondition E o_t a_t t_toldDoors t_barredDoors t_taped u.1 t_length0 u.2.1 u.2.2.1 u.2.2.2.1 u.2.2.2.2.1 u.2.2.2.2.2.1 t_saidMany t_clauses t_newMany t_rounds t_pinFrom t_pinTimes t_lines t_wasTold t_wasBarred t_goesNow t_jamsNow t_queued t_isKept t_tape u.2.2.2.2.2.2.1 u.2.2.2.2.2.2.2) 170 [(0, .ref o_t)] []) : ∀ (n : Nat) (s : Int32 × Int32 × Int32 × Int32 × Int32 × Int32 × (Nat → Int32) × (Nat → Int32)), L_X12_readsCondition_40 t_length0 t_tape k0 n s = some r → Gx X E 0 0 (W_X12_readsCondition E o_t a_t t_toldDoors t_barredDoors t_taped s.1 t_length0 s.2.1 s.2.2.1 s.2.2.2.1 s.2.2.2.2.1 s.2.2.2.2.2.1 t_saidMany t_clauses t_newMany t_rounds t_pinFrom t_pinTimes t_lines t_wasTold t_wasBarred t_goesNow t_jamsNow t_queued t_isKept t_tape s.2.2.2.2.2.2.1 s.2.2.2.2.2.2.2) 40 [(0, .ref o_t)] [] := by
  unfold L_X12_readsCondition_40
  refine lp_ind _ (fun go ih s h => ?_)
  refine g_aload_n (pc := 40) C dX12_readsCondition_40 rfl 0 rfl ?_
  obtain ⟨u3, hu3, h⟩ := bs h
  refine g_callV (pc := 41) (st := []) (st1 := [.int u3]) (ws' := (W_X12_readsCondition E o_t a_t t_toldDoors t_barredDoors t_taped s.1 t_length0 s.2.1 s.2.2.1 s.2.2.2.1 s.2.2.2.2.1 s.2.2.2.2.2.1 t_saidMany t_clauses t_newMany t_rounds t_pinFrom t_pinTimes t_lines t_wasTold t_wasBarred t_goesNow t_jamsNow t_queued t_isKept t_tape s.2.2.2.2.2.2.1 s.2.2.2.2.2.2.2)) C mv_X12_here mi_X12_here ml_X12_152 (c_X12_here X.2.1 E o_t a_t t_toldDoors t_barredDoors t_taped s.1 t_length0 s.2.1 s.2.2.1 s.2.2.2.1 s.2.2.2.2.1 s.2.2.2.2.2.1 t_saidMany t_clauses t_newMany t_rounds t_pinFrom t_pinTimes t_lines t_wasTold t_wasBarred t_goesNow t_jamsNow t_queued t_isKept t_tape u3 hu3) dX12_readsCondition_41 (by decide) rfl (Nat.le_of_ble_eq_true rfl) 0 11 rfl rfl [0, 1] rfl (by decide) rfl rfl rfl rfl ?_
  refine g_bipush (pc := 44) (v := 33) C dX12_readsCondition_44 (by decide) ?_
  refine g_jn (fun s4 : Unit => Gx X E 0 0 (W_X12_readsCondition E o_t a_t t_toldDoors t_barredDoors t_taped s.1 t_length0 s.2.1 s.2.2.1 s.2.2.2.1 s.2.2.2.2.1 s.2.2.2.2.2.1 t_saidMany t_clauses t_newMany t_rounds t_pinFrom t_pinTimes t_lines t_wasTold t_wasBarred t_goesNow t_jamsNow t_queued t_isKept t_tape s.2.2.2.2.2.2.1 s.2.2.2.2.2.2.2) 58 [(0, .ref o_t)] []) h (fun s4 h => ?_) (fun j58 hj58 h => ?_)
  · refine g_aload_n (pc := 58) C dX12_readsCondition_58 rfl 0 rfl ?_
    refine g_aload_n (pc := 59) C dX12_readsCondition_59 rfl 0 rfl ?_
    obtain ⟨u5, hu5, h⟩ := bs h
    refine g_callV (pc := 60) (st := [.ref o_t]) (st1 := [.int u5, .ref o_t]) (ws' := (W_X12_readsCondition E o_t a_t t_toldDoors t_barredDoors t_taped s.1 t_length0 s.2.1 s.2.2.1 s.2.2.2.1 s.2.2.2.2.1 s.2.2.2.2.2.1 t_saidMany t_clauses t_newMany t_rounds t_pinFrom t_pinTimes t_lines t_wasTold t_wasBarred t_goesNow t_jamsNow t_queued t_isKept t_tape s.2.2.2.2.2.2.1 s.2.2.2.2.2.2.2)) C mv_X12_here mi_X12_here ml_X12_152 (c_X12_here X.2.1 E o_t a_t t_toldDoors t_barredDoors t_taped s.1 t_length0 s.2.1 s.2.2.1 s.2.2.2.1 s.2.2.2.2.1 s.2.2.2.2.2.1 t_saidMany t_clauses t_newMany t_rounds t_pinFrom t_pinTimes t_lines t_wasTold t_wasBarred t_goesNow t_jamsNow t_queued t_isKept t_tape u5 hu5) dX12_readsCondition_60 (by decide) rfl (Nat.le_of_ble_eq_true rfl) 0 11 rfl rfl [0, 1] rfl (by decide) rfl rfl rfl rfl ?_
    refine g_bipush (pc := 63) (v := 33) C dX12_readsCondition_63 (by decide) ?_
    refine g_jn (fun s6 : Int32 => Gx X E 0 0 (W_X12_readsCondition E o_t a_t t_toldDoors t_barredDoors t_taped s.1 t_length0 s.2.1 s.2.2.1 s.2.2.2.1 s.2.2.2.2.1 s.2.2.2.2.2.1 t_saidMany t_clauses t_newMany t_rounds t_pinFrom t_pinTimes t_lines t_wasTold t_wasBarred t_goesNow t_jamsNow t_queued t_isKept t_tape s.2.2.2.2.2.2.1 s.2.2.2.2.2.2.2) 75 [(0, .ref o_t)] [.int s6, .ref o_t]) h (fun s6 h => ?_) (fun j75 hj75 h => ?_)
    · obtain ⟨u7, hu7, h⟩ := bs h
      refine g_callV (pc := 75) (st := []) (st1 := [.int u7.1]) (ws' := (W_X12_readsCondition E o_t a_t t_toldDoors t_barredDoors t_taped u7.2.1 t_length0 u7.2.2.1 s.2.2.1 u7.2.2.2.1 s.2.2.2.2.1 u7.2.2.2.2.1 t_saidMany t_clauses t_newMany t_rounds t_pinFrom t_pinTimes t_lines t_wasTold t_wasBarred t_goesNow t_jamsNow t_queued t_isKept t_tape s.2.2.2.2.2.2.1 u7.2.2.2.2.2)) C mv_X12_opens mi_X12_opens ml_X12_186 (c_X12_opens X.2.1 E o_t a_t t_toldDoors t_barredDoors t_taped s.1 t_length0 s.2.1 s.2.2.1 s.2.2.2.1 s.2.2.2.2.1 s.2.2.2.2.2.1 t_saidMany t_clauses t_newMany t_rounds t_pinFrom t_pinTimes t_lines t_wasTold t_wasBarred t_goesNow t_jamsNow t_queued t_isKept s.2.2.2.2.2.2.2 s6 u7 hu7) dX12_readsCondition_75 (by decide) rfl (Nat.le_of_ble_eq_true rfl) 0 11 rfl rfl [0, 3] rfl (by decide) rfl rfl rfl rfl ?_
      refine g_if_ne (pc := 78) (tgt := 40) C dX12_readsCondition_78 (by decide) h (fun h => ?_) (fun h => ?_)
      · exact ih _ h
      · refine g_iconst (pc := 81) (v := 0) C dX12_readsCondition_81 (by decide) ?_
        cases h
        exact hret _ _ _ dX12_readsCondition_82 nb0 rfl
    refine g_icmp_ne (pc := 65) (tgt := 73) C dX12_readsCondition_65 (by decide) h (fun h => ?_) (fun h => ?_)
    · refine g_bipush (pc := 73) (v := 13) C dX12_readsCondition_73 (by decide) ?_
      exact hj75 _ h
    · refine g_bipush (pc := 68) (v := 10) C dX12_readsCondition_68 (by decide) ?_
      refine g_goto (pc := 70) (tgt := 75) C dX12_readsCondition_70 (by decide) ?_
      exact hj75 _ h
  refine g_icmp_eq (pc := 46) (tgt := 58) C dX12_readsCondition_46 (by decide) h (fun h => ?_) (fun h => ?_)
  · exact hj58 _ h
  · refine g_aload_n (pc := 49) C dX12_readsCondition_49 rfl 0 rfl ?_
    obtain ⟨u8, hu8, h⟩ := bs h
    refine g_callV (pc := 50) (st := []) (st1 := [.int u8]) (ws' := (W_X12_readsCondition E o_t a_t t_toldDoors t_barredDoors t_taped s.1 t_length0 s.2.1 s.2.2.1 s.2.2.2.1 s.2.2.2.2.1 s.2.2.2.2.2.1 t_saidMany t_clauses t_newMany t_rounds t_pinFrom t_pinTimes t_lines t_wasTold t_wasBarred t_goesNow t_jamsNow t_queued t_isKept t_tape s.2.2.2.2.2.2.1 s.2.2.2.2.2.2.2)) C mv_X12_here mi_X12_here ml_X12_152 (c_X12_here X.2.1 E o_t a_t t_toldDoors t_barredDoors t_taped s.1 t_length0 s.2.1 s.2.2.1 s.2.2.2.1 s.2.2.2.2.1 s.2.2.2.2.2.1 t_saidMany t_clauses t_newMany t_rounds t_pinFrom t_pinTimes t_lines t_wasTold t_wasBarred t_goesNow t_jamsNow t_queued t_isKept t_tape u8 hu8) dX12_readsCondition_50 (by decide) rfl (Nat.le_of_ble_eq_true rfl) 0 11 rfl rfl [0, 1] rfl (by decide) rfl rfl rfl rfl ?_
    refine g_bipush (pc := 53) (v := 40) C dX12_readsCondition_53 (by decide) ?_
    refine g_icmp_ne (pc := 55) (tgt := 83) C dX12_readsCondition_55 (by decide) h (fun h => ?_) (fun h => ?_)
    · refine g_aload_n (pc := 83) C dX12_readsCondition_83 rfl 0 rfl ?_
      obtain ⟨u9, hu9, h⟩ := bs h
      refine g_callV (pc := 84) (st := []) (st1 := [.int u9.1]) (ws' := (W_X12_readsCondition E o_t a_t t_toldDoors t_barredDoors t_taped u9.2.1 t_length0 u9.2.2.1 u9.2.2.2.1 u9.2.2.2.2.1 u9.2.2.2.2.2.1 u9.2.2.2.2.2.2.1 t_saidMany t_clauses t_newMany t_rounds t_pinFrom t_pinTimes t_lines t_wasTold t_wasBarred t_goesNow t_jamsNow t_queued t_isKept t_tape u9.2.2.2.2.2.2.2.1 u9.2.2.2.2.2.2.2.2)) C mv_X12_readsCompared mi_X12_readsCompared ml_X12_215 (c_X12_readsCompared X.2.1 E o_t a_t t_toldDoors t_barredDoors t_taped s.1 t_length0 s.2.1 s.2.2.1 s.2.2.2.1 s.2.2.2.2.1 s.2.2.2.2.2.1 t_saidMany t_clauses t_newMany t_rounds t_pinFrom t_pinTimes t_lines t_wasTold t_wasBarred t_goesNow t_jamsNow t_queued t_isKept t_tape s.2.2.2.2.2.2.1 s.2.2.2.2.2.2.2 u9 hu9) dX12_readsCondition_84 (by decide) rfl (Nat.le_of_ble_eq_true rfl) 0 11 rfl rfl [0, 1, 2, 3] rfl (by decide) rfl rfl rfl rfl ?_
      refine g_if_ne (pc := 87) (tgt := 92) C dX12_readsCondition_87 (by decide) h (fun h => ?_) (fun h => ?_)
      · refine kL_X12_readsCondition_92 C o_t a_t t_toldDoors t_barredDoors t_taped t_saidMany t_clauses t_newMany t_rounds t_pinFrom t_pinTimes t_lines t_wasTold t_wasBarred t_goesNow t_jamsNow t_queued t_isKept t_length0 u9.2.2.1 u9.2.2.2.1 t_tape u9.2.2.2.2.2.2.2.2 _ hret (fun s16 h => ?_) _ _ h
        refine g_aload_n (pc := 152) C dX12_readsCondition_152 rfl 0 rfl ?_
        obtain ⟨u17, hu17, h⟩ := bs h
        refine g_callV (pc := 153) (st := []) (st1 := [.int u17]) (ws' := (W_X12_readsCondition E o_t a_t t_toldDoors t_barredDoors t_taped s16.1 t_length0 u9.2.2.1 u9.2.2.2.1 s16.2.1 s16.2.2.1 s16.2.2.2.1 t_saidMany t_clauses t_newMany t_rounds t_pinFrom t_pinTimes t_lines t_wasTold t_wasBarred t_goesNow t_jamsNow t_queued t_isKept t_tape s16.2.2.2.2 u9.2.2.2.2.2.2.2.2)) C mv_X12_here mi_X12_here ml_X12_152 (c_X12_here X.2.1 E o_t a_t t_toldDoors t_barredDoors t_taped s16.1 t_length0 u9.2.2.1 u9.2.2.2.1 s16.2.1 s16.2.2.1 s16.2.2.2.1 t_saidMany t_clauses t_newMany t_rounds t_pinFrom t_pinTimes t_lines t_wasTold t_wasBarred t_goesNow t_jamsNow t_queued t_isKept t_tape u17 hu17) dX12_readsCondition_153 (by decide) rfl (Nat.le_of_ble_eq_true rfl) 0 11 rfl rfl [0, 1] rfl (by decide) rfl rfl rfl rfl ?_
        refine g_bipush (pc := 156) (v := 38) C dX12_readsCondition_156 (by decide) ?_
        refine g_jn (fun s18 : Unit => Gx X E 0 0 (W_X12_readsCondition E o_t a_t t_toldDoors t_barredDoors t_taped s16.1 t_length0 u9.2.2.1 u9.2.2.2.1 s16.2.1 s16.2.2.1 s16.2.2.2.1 t_saidMany t_clauses t_newMany t_rounds t_pinFrom t_pinTimes t_lines t_wasTold t_wasBarred t_goesNow t_jamsNow t_queued t_isKept t_tape s16.2.2.2.2 u9.2.2.2.2.2.2.2.2) 180 [(0, .ref o_t)] []) h (fun s18 h => ?_) (fun j180 hj180 h => ?_)
        · refine g_aload_n (pc := 180) C dX12_readsCondition_180 rfl 0 rfl ?_
          refine g_aload_n (pc := 181) C dX12_readsCondition_181 rfl 0 rfl ?_
          obtain ⟨u19, hu19, h⟩ := bs h
          refine g_callV (pc := 182) (st := [.ref o_t]) (st1 := [.int u19, .ref o_t]) (ws' := (W_X12_readsCondition E o_t a_t t_toldDoors t_barredDoors t_taped s16.1 t_length0 u9.2.2.1 u9.2.2.2.1 s16.2.1 s16.2.2.1 s16.2.2.2.1 t_saidMany t_clauses t_newMany t_rounds t_pinFrom t_pinTimes t_lines t_wasTold t_wasBarred t_goesNow t_jamsNow t_queued t_isKept t_tape s16.2.2.2.2 u9.2.2.2.2.2.2.2.2)) C mv_X12_here mi_X12_here ml_X12_152 (c_X12_here X.2.1 E o_t a_t t_toldDoors t_barredDoors t_taped s16.1 t_length0 u9.2.2.1 u9.2.2.2.1 s16.2.1 s16.2.2.1 s16.2.2.2.1 t_saidMany t_clauses t_newMany t_rounds t_pinFrom t_pinTimes t_lines t_wasTold t_wasBarred t_goesNow t_jamsNow t_queued t_isKept t_tape u19 hu19) dX12_readsCondition_182 (by decide) rfl (Nat.le_of_ble_eq_true rfl) 0 11 rfl rfl [0, 1] rfl (by decide) rfl rfl rfl rfl ?_
          refine g_bipush (pc := 185) (v := 124) C dX12_readsCondition_185 (by decide) ?_
          refine g_jn (fun s20 : Int32 => Gx X E 0 0 (W_X12_readsCondition E o_t a_t t_toldDoors t_barredDoors t_taped s16.1 t_length0 u9.2.2.1 u9.2.2.2.1 s16.2.1 s16.2.2.1 s16.2.2.2.1 t_saidMany t_clauses t_newMany t_rounds t_pinFrom t_pinTimes t_lines t_wasTold t_wasBarred t_goesNow t_jamsNow t_queued t_isKept t_tape s16.2.2.2.2 u9.2.2.2.2.2.2.2.2) 195 [(0, .ref o_t)] [.int s20, .ref o_t]) h (fun s20 h => ?_) (fun j195 hj195 h => ?_)
          · obtain ⟨u21, hu21, h⟩ := bs h
            refine g_callV (pc := 195) (st := []) (st1 := []) (ws' := (W_X12_readsCondition E o_t a_t t_toldDoors t_barredDoors t_taped s16.1 t_length0 u9.2.2.1 u9.2.2.2.1 s16.2.1 s16.2.2.1 u21.1 t_saidMany t_clauses t_newMany t_rounds t_pinFrom t_pinTimes t_lines t_wasTold t_wasBarred t_goesNow t_jamsNow t_queued t_isKept t_tape u21.2 u9.2.2.2.2.2.2.2.2)) C mv_X12_lands mi_X12_lands ml_X12_218 (c_X12_lands X.2.1 E o_t a_t t_toldDoors t_barredDoors t_taped s16.1 t_length0 u9.2.2.1 u9.2.2.2.1 s16.2.1 s16.2.2.1 s16.2.2.2.1 t_saidMany t_clauses t_newMany t_rounds t_pinFrom t_pinTimes t_lines t_wasTold t_wasBarred t_goesNow t_jamsNow t_queued t_isKept s16.2.2.2.2 u9.2.2.2.2.2.2.2.2 s20 u21 hu21) dX12_readsCondition_195 (by decide) rfl (Nat.le_of_ble_eq_true rfl) 0 11 rfl rfl [0, 2, 3] rfl (by decide) rfl rfl rfl rfl ?_
            refine g_aload_n (pc := 198) C dX12_readsCondition_198 rfl 0 rfl ?_
            refine g_aload_n (pc := 199) C dX12_readsCondition_199 rfl 0 rfl ?_
            obtain ⟨u22, hu22, h⟩ := bs h
            refine g_callV (pc := 200) (st := [.ref o_t]) (st1 := [.int u22, .ref o_t]) (ws' := (W_X12_readsCondition E o_t a_t t_toldDoors t_barredDoors t_taped s16.1 t_length0 u9.2.2.1 u9.2.2.2.1 s16.2.1 s16.2.2.1 u21.1 t_saidMany t_clauses t_newMany t_rounds t_pinFrom t_pinTimes t_lines t_wasTold t_wasBarred t_goesNow t_jamsNow t_queued t_isKept t_tape u21.2 u9.2.2.2.2.2.2.2.2)) C mv_X12_here mi_X12_here ml_X12_152 (c_X12_here X.2.1 E o_t a_t t_toldDoors t_barredDoors t_taped s16.1 t_length0 u9.2.2.1 u9.2.2.2.1 s16.2.1 s16.2.2.1 u21.1 t_saidMany t_clauses t_newMany t_rounds t_pinFrom t_pinTimes t_lines t_wasTold t_wasBarred t_goesNow t_jamsNow t_queued t_isKept t_tape u22 hu22) dX12_readsCondition_200 (by decide) rfl (Nat.le_of_ble_eq_true rfl) 0 11 rfl rfl [0, 1] rfl (by decide) rfl rfl rfl rfl ?_
            refine g_bipush (pc := 203) (v := 38) C dX12_readsCondition_203 (by decide) ?_
            refine g_jn (fun s23 : Int32 => Gx X E 0 0 (W_X12_readsCondition E o_t a_t t_toldDoors t_barredDoors t_taped s16.1 t_length0 u9.2.2.1 u9.2.2.2.1 s16.2.1 s16.2.2.1 u21.1 t_saidMany t_clauses t_newMany t_rounds t_pinFrom t_pinTimes t_lines t_wasTold t_wasBarred t_goesNow t_jamsNow t_queued t_isKept t_tape u21.2 u9.2.2.2.2.2.2.2.2) 215 [(0, .ref o_t)] [.int s23, .ref o_t]) h (fun s23 h => ?_) (fun j215 hj215 h => ?_)
            · obtain ⟨u24, hu24, h⟩ := bs h
              refine g_callV (pc := 215) (st := []) (st1 := []) (ws' := (W_X12_readsCondition E o_t a_t t_toldDoors t_barredDoors t_taped u24.1 t_length0 u9.2.2.1 u9.2.2.2.1 s16.2.1 u24.2.1 u24.2.2.1 t_saidMany t_clauses t_newMany t_rounds t_pinFrom t_pinTimes t_lines t_wasTold t_wasBarred t_goesNow t_jamsNow t_queued t_isKept t_tape u24.2.2.2.1 u24.2.2.2.2)) C mv_X12_jumps mi_X12_jumps ml_X12_221 (c_X12_jumps X.2.1 E o_t a_t t_toldDoors t_barredDoors t_taped s16.1 t_length0 u9.2.2.1 u9.2.2.2.1 s16.2.1 s16.2.2.1 u21.1 t_saidMany t_clauses t_newMany t_rounds t_pinFrom t_pinTimes t_lines t_wasTold t_wasBarred t_goesNow t_jamsNow t_queued t_isKept u21.2 u9.2.2.2.2.2.2.2.2 s23 u24 hu24) dX12_readsCondition_215 (by decide) rfl (Nat.le_of_ble_eq_true rfl) 0 11 rfl rfl [0, 2, 3] rfl (by decide) rfl rfl rfl rfl ?_
              refine g_goto (pc := 218) (tgt := 40) C dX12_readsCondition_218 (by decide) ?_
              exact ih _ h
            refine g_icmp_ne (pc := 205) (tgt := 213) C dX12_readsCondition_205 (by decide) h (fun h => ?_) (fun h => ?_)
            · refine g_bipush (pc := 213) (v := 12) C dX12_readsCondition_213 (by decide) ?_
              exact hj215 _ h
            · refine g_bipush (pc := 208) (v := 11) C dX12_readsCondition_208 (by decide) ?_
              refine g_goto (pc := 210) (tgt := 215) C dX12_readsCondition_210 (by decide) ?_
              exact hj215 _ h
          refine g_icmp_ne (pc := 187) (tgt := 194) C dX12_readsCondition_187 (by decide) h (fun h => ?_) (fun h => ?_)
          · refine g_iconst (pc := 194) (v := 0) C dX12_readsCondition_194 (by decide) ?_
            exact hj195 _ h
          · refine g_iconst (pc := 190) (v := 1) C dX12_readsCondition_190 (by decide) ?_
            refine g_goto (pc := 191) (tgt := 195) C dX12_readsCondition_191 (by decide) ?_
            exact hj195 _ h
        refine g_icmp_eq (pc := 158) (tgt := 180) C dX12_readsCondition_158 (by decide) h (fun h => ?_) (fun h => ?_)
        · exact hj180 _ h
        · refine g_aload_n (pc := 161) C dX12_readsCondition_161 rfl 0 rfl ?_
          obtain ⟨u25, hu25, h⟩ := bs h
          refine g_callV (pc := 162) (st := []) (st1 := [.int u25]) (ws' := (W_X12_readsCondition E o_t a_t t_toldDoors t_barredDoors t_taped s16.1 t_length0 u9.2.2.1 u9.2.2.2.1 s16.2.1 s16.2.2.1 s16.2.2.2.1 t_saidMany t_clauses t_newMany t_rounds t_pinFrom t_pinTimes t_lines t_wasTold t_wasBarred t_goesNow t_jamsNow t_queued t_isKept t_tape s16.2.2.2.2 u9.2.2.2.2.2.2.2.2)) C mv_X12_here mi_X12_here ml_X12_152 (c_X12_here X.2.1 E o_t a_t t_toldDoors t_barredDoors t_taped s16.1 t_length0 u9.2.2.1 u9.2.2.2.1 s16.2.1 s16.2.2.1 s16.2.2.2.1 t_saidMany t_clauses t_newMany t_rounds t_pinFrom t_pinTimes t_lines t_wasTold t_wasBarred t_goesNow t_jamsNow t_queued t_isKept t_tape u25 hu25) dX12_readsCondition_162 (by decide) rfl (Nat.le_of_ble_eq_true rfl) 0 11 rfl rfl [0, 1] rfl (by decide) rfl rfl rfl rfl ?_
          refine g_bipush (pc := 165) (v := 124) C dX12_readsCondition_165 (by decide) ?_
          refine g_icmp_eq (pc := 167) (tgt := 180) C dX12_readsCondition_167 (by decide) h (fun h => ?_) (fun h => ?_)
          · exact hj180 _ h
          · exact hk0 _ h
      · refine g_iconst (pc := 90) (v := 0) C dX12_readsCondition_90 (by decide) ?_
        cases h
        exact hret _ _ _ dX12_readsCondition_91 nb0 rfl
    · exact hj58 _ h
set_option maxHeartbeats 4000000 in
set_option maxRecDepth 100000 in
theorem c_X12_readsCondition (l : Launch) (E : GE) (o_t : Nat) (a_t : Nat → Nat) (t_toldDoors : Int32) (t_barredDoors : Int32) (t_taped : Int32) (t_place0 : Int32) (t_length0 : Int32) (t_fault : Int32) (t_number0 : Int32) (t_open : Int32) (t_codeMany : Int32) (t_waiting : Int32) (t_saidMany : Int32) (t_clauses : Int32) (t_newMany : Int32) (t_rounds : Int32) (t_pinFrom : Int32) (t_pinTimes : Int32) (t_lines : Int32) (t_wasTold : Int32) (t_wasBarred : Int32) (t_goesNow : Int32) (t_jamsNow : Int32) (t_queued : Int32) (t_isKept : Int32) (t_tape : (Nat → Int32)) (t_said : (Nat → Int32)) (t_waitsAt : (Nat → Int32)) (r : Int32 × Int32 × Int32 × Int32 × Int32 × Int32 × Int32 × (Nat → Int32) × (Nat → Int32)) (h : f_X12_readsCondition t_place0 t_length0 t_fault t_number0 t_open t_codeMany t_waiting t_tape t_said t_waitsAt = some r) : Cn l E yX12_readsCondition cX12_readsCondition 1 (some .boolean) 7 0 0 [.ref o_t] (W_X12_readsCondition E o_t a_t t_toldDoors t_barredDoors t_taped t_place0 t_length0 t_fault t_number0 t_open t_codeMany t_waiting t_saidMany t_clauses t_newMany t_rounds t_pinFrom t_pinTimes t_lines t_wasTold t_wasBarred t_goesNow t_jamsNow t_queued t_isKept t_tape t_said t_waitsAt) (fun w => w = (W_X12_readsCondition E o_t a_t t_toldDoors t_barredDoors t_taped r.2.1 t_length0 r.2.2.1 r.2.2.2.1 r.2.2.2.2.1 r.2.2.2.2.2.1 r.2.2.2.2.2.2.1 t_saidMany t_clauses t_newMany t_rounds t_pinFrom t_pinTimes t_lines t_wasTold t_wasBarred t_goesNow t_jamsNow t_queued t_isKept t_tape r.2.2.2.2.2.2.2.1 r.2.2.2.2.2.2.2.2)) (some (.int r.1)) := by
  refine Cn.ofI (by decide +kernel) (Nat.le_of_ble_eq_true rfl) (fun X hX hR C hret => ?_)
  subst hX
  show Gx X E 0 0 (W_X12_readsCondition E o_t a_t t_toldDoors t_barredDoors t_taped t_place0 t_length0 t_fault t_number0 t_open t_codeMany t_waiting t_saidMany t_clauses t_newMany t_rounds t_pinFrom t_pinTimes t_lines t_wasTold t_wasBarred t_goesNow t_jamsNow t_queued t_isKept t_tape t_said t_waitsAt) 0 [(0, .ref o_t)] []
  unfold f_X12_readsCondition at h
  refine g_aload_n (pc := 0) C dX12_readsCondition_0 rfl 0 rfl ?_
  obtain ⟨u1, hu1, h⟩ := bs h
  refine g_callV (pc := 1) (st := []) (st1 := [.int u1]) (ws' := (W_X12_readsCondition E o_t a_t t_toldDoors t_barredDoors t_taped t_place0 t_length0 t_fault t_number0 t_open t_codeMany t_waiting t_saidMany t_clauses t_newMany t_rounds t_pinFrom t_pinTimes t_lines t_wasTold t_wasBarred t_goesNow t_jamsNow t_queued t_isKept t_tape t_said t_waitsAt)) C mv_X12_here mi_X12_here ml_X12_152 (c_X12_here X.2.1 E o_t a_t t_toldDoors t_barredDoors t_taped t_place0 t_length0 t_fault t_number0 t_open t_codeMany t_waiting t_saidMany t_clauses t_newMany t_rounds t_pinFrom t_pinTimes t_lines t_wasTold t_wasBarred t_goesNow t_jamsNow t_queued t_isKept t_tape u1 hu1) dX12_readsCondition_1 (by decide) rfl (Nat.le_of_ble_eq_true rfl) 0 11 rfl rfl [0, 1] rfl (by decide) rfl rfl rfl rfl ?_
  refine g_bipush (pc := 4) (v := 40) C dX12_readsCondition_4 (by decide) ?_
  refine g_icmp_eq (pc := 6) (tgt := 19) C dX12_readsCondition_6 (by decide) h (fun h => ?_) (fun h => ?_)
  · refine g_aload_n (pc := 19) C dX12_readsCondition_19 rfl 0 rfl ?_
    refine g_iconst (pc := 20) (v := 0) C dX12_readsCondition_20 (by decide) ?_
    refine g_put (pc := 21) (ws' := (W_X12_readsCondition E o_t a_t t_toldDoors t_barredDoors t_taped t_place0 t_length0 t_fault t_number0 (0 : Int32) t_codeMany t_waiting t_saidMany t_clauses t_newMany t_rounds t_pinFrom t_pinTimes t_lines t_wasTold t_wasBarred t_goesNow t_jamsNow t_queued t_isKept t_tape t_said t_waitsAt)) C .int fl_X12_173 dX12_readsCondition_21 0 rfl (by decide +kernel) rfl rfl (Nat.le_of_ble_eq_true rfl) rfl ?_
    refine g_aload_n (pc := 24) C dX12_readsCondition_24 rfl 0 rfl ?_
    refine g_iconst (pc := 25) (v := 0) C dX12_readsCondition_25 (by decide) ?_
    refine g_put (pc := 26) (ws' := (W_X12_readsCondition E o_t a_t t_toldDoors t_barredDoors t_taped t_place0 t_length0 t_fault t_number0 (0 : Int32) t_codeMany (0 : Int32) t_saidMany t_clauses t_newMany t_rounds t_pinFrom t_pinTimes t_lines t_wasTold t_wasBarred t_goesNow t_jamsNow t_queued t_isKept t_tape t_said t_waitsAt)) C .int fl_X12_176 dX12_readsCondition_26 0 rfl (by decide +kernel) rfl rfl (Nat.le_of_ble_eq_true rfl) rfl ?_
    refine g_aload_n (pc := 29) C dX12_readsCondition_29 rfl 0 rfl ?_
    refine g_bipush (pc := 30) (v := 13) C dX12_readsCondition_30 (by decide) ?_
    obtain ⟨u2, hu2, h⟩ := bs h
    refine g_callV (pc := 32) (st := []) (st1 := [.int u2.1]) (ws' := (W_X12_readsCondition E o_t a_t t_toldDoors t_barredDoors t_taped u2.2.1 t_length0 u2.2.2.1 t_number0 u2.2.2.2.1 t_codeMany u2.2.2.2.2.1 t_saidMany t_clauses t_newMany t_rounds t_pinFrom t_pinTimes t_lines t_wasTold t_wasBarred t_goesNow t_jamsNow t_queued t_isKept t_tape t_said u2.2.2.2.2.2)) C mv_X12_opens mi_X12_opens ml_X12_186 (c_X12_opens X.2.1 E o_t a_t t_toldDoors t_barredDoors t_taped t_place0 t_length0 t_fault t_number0 (0 : Int32) t_codeMany (0 : Int32) t_saidMany t_clauses t_newMany t_rounds t_pinFrom t_pinTimes t_lines t_wasTold t_wasBarred t_goesNow t_jamsNow t_queued t_isKept t_waitsAt (13 : Int32) u2 hu2) dX12_readsCondition_32 (by decide) rfl (Nat.le_of_ble_eq_true rfl) 0 11 rfl rfl [0, 3] rfl (by decide) rfl rfl rfl rfl ?_
    refine g_if_ne (pc := 35) (tgt := 40) C dX12_readsCondition_35 (by decide) h (fun h => ?_) (fun h => ?_)
    · refine kL_X12_readsCondition_40 C o_t a_t t_toldDoors t_barredDoors t_taped t_saidMany t_clauses t_newMany t_rounds t_pinFrom t_pinTimes t_lines t_wasTold t_wasBarred t_goesNow t_jamsNow t_queued t_isKept t_length0 t_tape _ hret (fun s26 h => ?_) _ _ h
      refine g_aload_n (pc := 170) C dX12_readsCondition_170 rfl 0 rfl ?_
      refine g_iconst (pc := 171) (v := 1) C dX12_readsCondition_171 (by decide) ?_
      refine g_aload_n (pc := 172) C dX12_readsCondition_172 rfl 0 rfl ?_
      refine g_get (pc := 173) C fl_X12_146 dX12_readsCondition_173 0 rfl rfl ?_
      obtain ⟨u27, hu27, h⟩ := bs h
      refine g_callV (pc := 176) (st := []) (st1 := [.int u27.1]) (ws' := (W_X12_readsCondition E o_t a_t t_toldDoors t_barredDoors t_taped s26.1 t_length0 u27.2 s26.2.2.1 s26.2.2.2.1 s26.2.2.2.2.1 s26.2.2.2.2.2.1 t_saidMany t_clauses t_newMany t_rounds t_pinFrom t_pinTimes t_lines t_wasTold t_wasBarred t_goesNow t_jamsNow t_queued t_isKept t_tape s26.2.2.2.2.2.2.1 s26.2.2.2.2.2.2.2)) C mv_X12_wrongAt mi_X12_wrongAt ml_X12_159 (c_X12_wrongAt X.2.1 E o_t a_t t_toldDoors t_barredDoors t_taped s26.1 t_length0 s26.2.1 s26.2.2.1 s26.2.2.2.1 s26.2.2.2.2.1 s26.2.2.2.2.2.1 t_saidMany t_clauses t_newMany t_rounds t_pinFrom t_pinTimes t_lines t_wasTold t_wasBarred t_goesNow t_jamsNow t_queued t_isKept (1 : Int32) s26.1 u27 hu27) dX12_readsCondition_176 (by decide) rfl (Nat.le_of_ble_eq_true rfl) 0 11 rfl rfl [0] rfl (by decide) rfl rfl rfl rfl ?_
      obtain ⟨hgb, h⟩ := gb_is h
      cases h
      exact hret _ _ _ dX12_readsCondition_179 hgb rfl
    · refine g_iconst (pc := 38) (v := 0) C dX12_readsCondition_38 (by decide) ?_
      cases h
      exact hret _ _ _ dX12_readsCondition_39 nb0 rfl
  · refine g_aload_n (pc := 9) C dX12_readsCondition_9 rfl 0 rfl ?_
    refine g_iconst (pc := 10) (v := 1) C dX12_readsCondition_10 (by decide) ?_
    refine g_aload_n (pc := 11) C dX12_readsCondition_11 rfl 0 rfl ?_
    refine g_get (pc := 12) C fl_X12_146 dX12_readsCondition_12 0 rfl rfl ?_
    obtain ⟨u28, hu28, h⟩ := bs h
    refine g_callV (pc := 15) (st := []) (st1 := [.int u28.1]) (ws' := (W_X12_readsCondition E o_t a_t t_toldDoors t_barredDoors t_taped t_place0 t_length0 u28.2 t_number0 t_open t_codeMany t_waiting t_saidMany t_clauses t_newMany t_rounds t_pinFrom t_pinTimes t_lines t_wasTold t_wasBarred t_goesNow t_jamsNow t_queued t_isKept t_tape t_said t_waitsAt)) C mv_X12_wrongAt mi_X12_wrongAt ml_X12_159 (c_X12_wrongAt X.2.1 E o_t a_t t_toldDoors t_barredDoors t_taped t_place0 t_length0 t_fault t_number0 t_open t_codeMany t_waiting t_saidMany t_clauses t_newMany t_rounds t_pinFrom t_pinTimes t_lines t_wasTold t_wasBarred t_goesNow t_jamsNow t_queued t_isKept (1 : Int32) t_place0 u28 hu28) dX12_readsCondition_15 (by decide) rfl (Nat.le_of_ble_eq_true rfl) 0 11 rfl rfl [0] rfl (by decide) rfl rfl rfl rfl ?_
    obtain ⟨hgb, h⟩ := gb_is h
    cases h
    exact hret _ _ _ dX12_readsCondition_18 hgb rfl
abbrev W_X12_roundsGo (E : GE) (O_t : Nat) (a_t : Nat → Nat) (t_toldDoors : Int32) (t_barredDoors : Int32) (t_taped : Int32) (t_place0 : Int32) (t_length0 : Int32) (t_fault : Int32) (t_number0 : Int32) (t_open : Int32) (t_codeMany : Int32) (t_waiting : Int32) (t_saidMany : Int32) (t_clauses : Int32) (t_newMany : Int32) (t_rounds : Int32) (t_pinFrom : Int32) (t_pinTimes : Int32) (t_lines : Int32) (t_wasTold : Int32) (t_wasBarred : Int32) (t_goesNow : Int32) (t_jamsNow : Int32) (t_queued : Int32) (t_isKept : Int32) (t_now : (Nat → Int32)) (t_prongsOf : (Nat → Int32)) (t_oneOf : (Nat → Int32)) (t_otherOf : (Nat → Int32)) (t_wardsOf : (Nat → Int32)) (t_codes : (Nat → Int32)) (t_clauseOf : (Nat → Int32)) (t_codeFrom : (Nat → Int32)) (t_codeHalf : (Nat → Int32)) (t_codeTo : (Nat → Int32)) (t_stack : (Nat → Int32)) (t_facts : (Nat → Int32)) : va_W := [(O_t, ob_X12 a_t t_toldDoors t_barredDoors t_taped t_place0 t_length0 t_fault t_number0 t_open t_codeMany t_waiting t_saidMany t_clauses t_newMany t_rounds t_pinFrom t_pinTimes t_lines t_wasTold t_wasBarred t_goesNow t_jamsNow t_queued t_isKept), (a_t 0, .inl (E.2.1, 166, .inl t_now)), (a_t 3, .inl (E.2.1, 6, .inl t_prongsOf)), (a_t 4, .inl (E.2.1, 24, .inl t_oneOf)), (a_t 5, .inl (E.2.1, 24, .inl t_otherOf)), (a_t 6, .inl (E.2.1, 24, .inl t_wardsOf)), (a_t 30, .inl (E.2.1, 260, .inl t_codes)), (a_t 31, .inl (E.2.1, 16, .inl t_clauseOf)), (a_t 32, .inl (E.2.1, 16, .inl t_codeFrom)), (a_t 33, .inl (E.2.1, 16, .inl t_codeHalf)), (a_t 34, .inl (E.2.1, 16, .inl t_codeTo)), (a_t 35, .inl (E.2.1, 260, .inl t_stack)), (a_t 36, .inl (E.2.1, 10, .inl t_facts))]
def L_X12_roundsGo_33 (t_toldDoors : Int32) (t_barredDoors : Int32) (t_clauses : Int32) (t_prongsOf : (Nat → Int32)) (t_oneOf : (Nat → Int32)) (t_otherOf : (Nat → Int32)) (t_wardsOf : (Nat → Int32)) (t_codes : (Nat → Int32)) (t_clauseOf : (Nat → Int32)) (t_codeFrom : (Nat → Int32)) (t_codeHalf : (Nat → Int32)) (t_codeTo : (Nat → Int32)) (x1 : Int32) (x2 : Int32) (k0 : Int32 × Int32 × (Nat → Int32) × (Nat → Int32) × (Nat → Int32) → Option (Int32 × Int32 × (Nat → Int32) × (Nat → Int32) × (Nat → Int32))) : Nat → Int32 × Int32 × Int32 × (Nat → Int32) × (Nat → Int32) × (Nat → Int32) → Option (Int32 × Int32 × (Nat → Int32) × (Nat → Int32) × (Nat → Int32)) := lp fun go s => if (10 : Int32) ≤ s.1 then (k0 (s.2.1, s.2.2.1, s.2.2.2.1, s.2.2.2.2.1, s.2.2.2.2.2)) else (f_X12_isWoman s.2.2.2.1 s.1).bind fun u2 => if u2 = 0 then (nm (s.1 + (1 : Int32)) fun v3 => go (v3, s.2.1, s.2.2.1, s.2.2.2.1, s.2.2.2.2.1, s.2.2.2.2.2)) else (f_X12_turnOf t_toldDoors t_barredDoors t_clauses s.2.1 s.2.2.1 s.2.2.2.1 t_prongsOf t_oneOf t_otherOf t_wardsOf t_codes t_clauseOf t_codeFrom t_codeHalf t_codeTo s.2.2.2.2.1 s.2.2.2.2.2 s.1).bind fun u4 => nm (s.1 + (1 : Int32)) fun v5 => go (v5, u4.1, u4.2.1, u4.2.2.1, u4.2.2.2.1, u4.2.2.2.2)
def L_X12_roundsGo_12 (t_toldDoors : Int32) (t_barredDoors : Int32) (t_clauses : Int32) (t_prongsOf : (Nat → Int32)) (t_oneOf : (Nat → Int32)) (t_otherOf : (Nat → Int32)) (t_wardsOf : (Nat → Int32)) (t_codes : (Nat → Int32)) (t_clauseOf : (Nat → Int32)) (t_codeFrom : (Nat → Int32)) (t_codeHalf : (Nat → Int32)) (t_codeTo : (Nat → Int32)) (x1 : Int32) : Nat → Int32 × Int32 × Int32 × (Nat → Int32) × (Nat → Int32) × (Nat → Int32) → Option (Int32 × Int32 × (Nat → Int32) × (Nat → Int32) × (Nat → Int32)) := lp fun go s => if x1 ≤ s.1 then (some (s.2.1, s.2.2.1, s.2.2.2.1, s.2.2.2.2.1, s.2.2.2.2.2)) else rd s.2.2.2.1 166 (164 : Int32) fun v1 => if (9999 : Int32) ≤ v1 then (some (s.2.1, s.2.2.1, s.2.2.2.1, s.2.2.2.2.1, s.2.2.2.2.2)) else L_X12_roundsGo_33 t_toldDoors t_barredDoors t_clauses t_prongsOf t_oneOf t_otherOf t_wardsOf t_codes t_clauseOf t_codeFrom t_codeHalf t_codeTo x1 s.1 (fun s6 => rd s6.2.2.1 166 (164 : Int32) fun v7 => wr s6.2.2.1 166 (164 : Int32) (v7 + (1 : Int32)) fun g8 => nm (s.1 + (1 : Int32)) fun v9 => go (v9, s6.1, s6.2.1, g8, s6.2.2.2.1, s6.2.2.2.2)) fu ((0 : Int32), s.2.1, s.2.2.1, s.2.2.2.1, s.2.2.2.2.1, s.2.2.2.2.2)
def f_X12_roundsGo (t_toldDoors : Int32) (t_barredDoors : Int32) (t_clauses : Int32) (t_goesNow : Int32) (t_jamsNow : Int32) (t_now : (Nat → Int32)) (t_prongsOf : (Nat → Int32)) (t_oneOf : (Nat → Int32)) (t_otherOf : (Nat → Int32)) (t_wardsOf : (Nat → Int32)) (t_codes : (Nat → Int32)) (t_clauseOf : (Nat → Int32)) (t_codeFrom : (Nat → Int32)) (t_codeHalf : (Nat → Int32)) (t_codeTo : (Nat → Int32)) (t_stack : (Nat → Int32)) (t_facts : (Nat → Int32)) (x1 : Int32) : Option (Int32 × Int32 × (Nat → Int32) × (Nat → Int32) × (Nat → Int32)) := L_X12_roundsGo_12 t_toldDoors t_barredDoors t_clauses t_prongsOf t_oneOf t_otherOf t_wardsOf t_codes t_clauseOf t_codeFrom t_codeHalf t_codeTo x1 fu ((0 : Int32), (0 : Int32), (0 : Int32), t_now, t_stack, t_facts)
theorem dX12_roundsGo_0 : decode cX12_roundsGo 0 = .ok (.aload_n 0, 1) := by decide +kernel
theorem dX12_roundsGo_1 : decode cX12_roundsGo 1 = .ok (.iconst 0, 1) := by decide +kernel
theorem dX12_roundsGo_2 : decode cX12_roundsGo 2 = .ok (.putfield 351, 3) := by decide +kernel
theorem dX12_roundsGo_5 : decode cX12_roundsGo 5 = .ok (.aload_n 0, 1) := by decide +kernel
theorem dX12_roundsGo_6 : decode cX12_roundsGo 6 = .ok (.iconst 0, 1) := by decide +kernel
theorem dX12_roundsGo_7 : decode cX12_roundsGo 7 = .ok (.putfield 348, 3) := by decide +kernel
theorem dX12_roundsGo_10 : decode cX12_roundsGo 10 = .ok (.iconst 0, 1) := by decide +kernel
theorem dX12_roundsGo_11 : decode cX12_roundsGo 11 = .ok (.istore_n 2, 1) := by decide +kernel
theorem dX12_roundsGo_12 : decode cX12_roundsGo 12 = .ok (.iload_n 2, 1) := by decide +kernel
theorem dX12_roundsGo_13 : decode cX12_roundsGo 13 = .ok (.iload_n 1, 1) := by decide +kernel
theorem dX12_roundsGo_14 : decode cX12_roundsGo 14 = .ok (.if_icmp .ge 68, 3) := by decide +kernel
theorem dX12_roundsGo_17 : decode cX12_roundsGo 17 = .ok (.aload_n 0, 1) := by decide +kernel
theorem dX12_roundsGo_18 : decode cX12_roundsGo 18 = .ok (.getfield 7, 3) := by decide +kernel
theorem dX12_roundsGo_21 : decode cX12_roundsGo 21 = .ok (.sipush 164, 3) := by decide +kernel
theorem dX12_roundsGo_24 : decode cX12_roundsGo 24 = .ok (.iaload, 1) := by decide +kernel
theorem dX12_roundsGo_25 : decode cX12_roundsGo 25 = .ok (.sipush 9999, 3) := by decide +kernel
theorem dX12_roundsGo_28 : decode cX12_roundsGo 28 = .ok (.if_icmp .ge 54, 3) := by decide +kernel
theorem dX12_roundsGo_31 : decode cX12_roundsGo 31 = .ok (.iconst 0, 1) := by decide +kernel
theorem dX12_roundsGo_32 : decode cX12_roundsGo 32 = .ok (.istore_n 3, 1) := by decide +kernel
theorem dX12_roundsGo_33 : decode cX12_roundsGo 33 = .ok (.iload_n 3, 1) := by decide +kernel
theorem dX12_roundsGo_34 : decode cX12_roundsGo 34 = .ok (.bipush 10, 2) := by decide +kernel
theorem dX12_roundsGo_36 : decode cX12_roundsGo 36 = .ok (.if_icmp .ge 22, 3) := by decide +kernel
theorem dX12_roundsGo_39 : decode cX12_roundsGo 39 = .ok (.aload_n 0, 1) := by decide +kernel
theorem dX12_roundsGo_40 : decode cX12_roundsGo 40 = .ok (.iload_n 3, 1) := by decide +kernel
theorem dX12_roundsGo_41 : decode cX12_roundsGo 41 = .ok (.invokevirtual 268, 3) := by decide +kernel
theorem dX12_roundsGo_44 : decode cX12_roundsGo 44 = .ok (.ifCond .eq 8, 3) := by decide +kernel
theorem dX12_roundsGo_47 : decode cX12_roundsGo 47 = .ok (.aload_n 0, 1) := by decide +kernel
theorem dX12_roundsGo_48 : decode cX12_roundsGo 48 = .ok (.iload_n 3, 1) := by decide +kernel
theorem dX12_roundsGo_49 : decode cX12_roundsGo 49 = .ok (.invokevirtual 354, 3) := by decide +kernel
theorem dX12_roundsGo_52 : decode cX12_roundsGo 52 = .ok (.iinc 3 1, 3) := by decide +kernel
theorem dX12_roundsGo_55 : decode cX12_roundsGo 55 = .ok (.goto (-22), 3) := by decide +kernel
theorem dX12_roundsGo_58 : decode cX12_roundsGo 58 = .ok (.aload_n 0, 1) := by decide +kernel
theorem dX12_roundsGo_59 : decode cX12_roundsGo 59 = .ok (.getfield 7, 3) := by decide +kernel
theorem dX12_roundsGo_62 : decode cX12_roundsGo 62 = .ok (.sipush 164, 3) := by decide +kernel
theorem dX12_roundsGo_65 : decode cX12_roundsGo 65 = .ok (.aload_n 0, 1) := by decide +kernel
theorem dX12_roundsGo_66 : decode cX12_roundsGo 66 = .ok (.getfield 7, 3) := by decide +kernel
theorem dX12_roundsGo_69 : decode cX12_roundsGo 69 = .ok (.sipush 164, 3) := by decide +kernel
theorem dX12_roundsGo_72 : decode cX12_roundsGo 72 = .ok (.iaload, 1) := by decide +kernel
theorem dX12_roundsGo_73 : decode cX12_roundsGo 73 = .ok (.iconst 1, 1) := by decide +kernel
theorem dX12_roundsGo_74 : decode cX12_roundsGo 74 = .ok (.iadd, 1) := by decide +kernel
theorem dX12_roundsGo_75 : decode cX12_roundsGo 75 = .ok (.iastore, 1) := by decide +kernel
theorem dX12_roundsGo_76 : decode cX12_roundsGo 76 = .ok (.iinc 2 1, 3) := by decide +kernel
theorem dX12_roundsGo_79 : decode cX12_roundsGo 79 = .ok (.goto (-67), 3) := by decide +kernel
theorem dX12_roundsGo_82 : decode cX12_roundsGo 82 = .ok (.return_, 1) := by decide +kernel
set_option maxHeartbeats 4000000 in
set_option maxRecDepth 100000 in
theorem kL_X12_roundsGo_33 {X : GC} {E : GE} (C : Cx X E cX12_roundsGo RX12 7 4) (o_t : Nat) (a_t : Nat → Nat) (t_taped : Int32) (t_place0 : Int32) (t_length0 : Int32) (t_fault : Int32) (t_number0 : Int32) (t_open : Int32) (t_codeMany : Int32) (t_waiting : Int32) (t_saidMany : Int32) (t_newMany : Int32) (t_rounds : Int32) (t_pinFrom : Int32) (t_pinTimes : Int32) (t_lines : Int32) (t_wasTold : Int32) (t_wasBarred : Int32) (t_queued : Int32) (t_isKept : Int32) (t_toldDoors : Int32) (t_barredDoors : Int32) (t_clauses : Int32) (t_prongsOf : (Nat → Int32)) (t_oneOf : (Nat → Int32)) (t_otherOf : (Nat → Int32)) (t_wardsOf : (Nat → Int32)) (t_codes : (Nat → Int32)) (t_clauseOf : (Nat → Int32)) (t_codeFrom : (Nat → Int32)) (t_codeHalf : (Nat → Int32)) (t_codeTo : (Nat → Int32)) (x1 : Int32) (x2 : Int32) (k0 : Int32 × Int32 × (Nat → Int32) × (Nat → Int32) × (Nat → Int32) → Option (Int32 × Int32 × (Nat → Int32) × (Nat → Int32) × (Nat → Int32))) {r : Int32 × Int32 × (Nat → Int32) × (Nat → Int32) × (Nat → Int32)} (hret : RtV X E cX12_roundsGo 0 0 (fun w => w = (W_X12_roundsGo E o_t a_t t_toldDoors t_barredDoors t_taped t_place0 t_length0 t_fault t_number0 t_open t_codeMany t_waiting t_saidMany t_clauses t_newMany t_rounds t_pinFrom t_pinTimes t_lines t_wasTold t_wasBarred r.1 r.2.1 t_queued t_isKept r.2.2.1 t_prongsOf t_oneOf t_otherOf t_wardsOf t_codes t_clauseOf t_codeFrom t_codeHalf t_codeTo r.2.2.2.1 r.2.2.2.2))) (hk0 : ∀ u, k0 u = some r → Gx X E 0 0 (W_X12_roundsGo E o_t a_t t_toldDoors t_barredDoors t_taped t_place0 t_length0 t_fault t_number0 t_open t_codeMany t_waiting t_saidMany t_clauses t_newMany t_rounds t_pinFrom t_pinTimes t_lines t_wasTold t_wasBarred u.1 u.2.1 t_queued t_isKept u.2.2.1 t_prongsOf t_oneOf t_otherOf t_wardsOf t_codes t_clauseOf t_codeFrom t_codeHalf t_codeTo u.2.2.2.1 u.2.2.2.2) 58 [(0, .ref o_t), (1, .int x1), (2, .int x2)] []) : ∀ (n : Nat) (s : Int32 × Int32 × Int32 × (Nat → Int32) × (Nat → Int32) × (Nat → Int32)), L_X12_roundsGo_33 t_toldDoors t_barredDoors t_clauses t_prongsOf t_oneOf t_otherOf t_wardsOf t_codes t_clauseOf t_codeFrom t_codeHalf t_codeTo x1 x2 k0 n s = some r → Gx X E 0 0 (W_X12_roundsGo E o_t a_t t_toldDoors t_barredDoors t_taped t_place0 t_length0 t_fault t_number0 t_open t_codeMany t_waiting t_saidMany t_clauses t_newMany t_rounds t_pinFrom t_pinTimes t_lines t_wasTold t_wasBarred s.2.1 s.2.2.1 t_queued t_isKept s.2.2.2.1 t_prongsOf t_oneOf t_otherOf t_wardsOf t_codes t_clauseOf t_codeFrom t_codeHalf t_codeTo s.2.2.2.2.1 s.2.2.2.2.2) 33 [(0, .ref o_t), (1, .int x1), (2, .int x2), (3, .int s.1)] [] := by
  unfold L_X12_roundsGo_33
  refine lp_ind _ (fun go ih s h => ?_)
  refine g_iload_n (pc := 33) C dX12_roundsGo_33 rfl 3 rfl ?_
  refine g_bipush (pc := 34) (v := 10) C dX12_roundsGo_34 (by decide) ?_
  refine g_icmp_ge (pc := 36) (tgt := 58) C dX12_roundsGo_36 (by decide) h (fun h => ?_) (fun h => ?_)
  · refine g_sub [0, 1, 2] rfl ?_
    exact hk0 _ h
  · refine g_aload_n (pc := 39) C dX12_roundsGo_39 rfl 0 rfl ?_
    refine g_iload_n (pc := 40) C dX12_roundsGo_40 rfl 3 rfl ?_
    obtain ⟨u2, hu2, h⟩ := bs h
    refine g_callV (pc := 41) (st := []) (st1 := [.int u2]) (ws' := (W_X12_roundsGo E o_t a_t t_toldDoors t_barredDoors t_taped t_place0 t_length0 t_fault t_number0 t_open t_codeMany t_waiting t_saidMany t_clauses t_newMany t_rounds t_pinFrom t_pinTimes t_lines t_wasTold t_wasBarred s.2.1 s.2.2.1 t_queued t_isKept s.2.2.2.1 t_prongsOf t_oneOf t_otherOf t_wardsOf t_codes t_clauseOf t_codeFrom t_codeHalf t_codeTo s.2.2.2.2.1 s.2.2.2.2.2)) C mv_X12_isWoman mi_X12_isWoman ml_X12_268 (c_X12_isWoman X.2.1 E o_t a_t t_toldDoors t_barredDoors t_taped t_place0 t_length0 t_fault t_number0 t_open t_codeMany t_waiting t_saidMany t_clauses t_newMany t_rounds t_pinFrom t_pinTimes t_lines t_wasTold t_wasBarred s.2.1 s.2.2.1 t_queued t_isKept s.2.2.2.1 s.1 u2 hu2) dX12_roundsGo_41 (by decide) rfl (Nat.le_of_ble_eq_true rfl) 0 11 rfl rfl [0, 1] rfl (by decide) rfl rfl rfl rfl ?_
    refine g_if_eq (pc := 44) (tgt := 52) C dX12_roundsGo_44 (by decide) h (fun h => ?_) (fun h => ?_)
    · refine g_iincn (pc := 52) (j := 3) (d := 1) (lv' := fun v3 => [(3, .int v3), (0, .ref o_t), (1, .int x1), (2, .int x2)]) C dX12_roundsGo_52 rfl (by decide) (by decide) (fun _ => rfl) h (fun v3 h => ?_)
      refine g_goto (pc := 55) (tgt := 33) C dX12_roundsGo_55 (by decide) ?_
      refine g_sub [1, 2, 3, 0] rfl ?_
      exact ih _ h
    · refine g_aload_n (pc := 47) C dX12_roundsGo_47 rfl 0 rfl ?_
      refine g_iload_n (pc := 48) C dX12_roundsGo_48 rfl 3 rfl ?_
      obtain ⟨u4, hu4, h⟩ := bs h
      refine g_callV (pc := 49) (st := []) (st1 := []) (ws' := (W_X12_roundsGo E o_t a_t t_toldDoors t_barredDoors t_taped t_place0 t_length0 t_fault t_number0 t_open t_codeMany t_waiting t_saidMany t_clauses t_newMany t_rounds t_pinFrom t_pinTimes t_lines t_wasTold t_wasBarred u4.1 u4.2.1 t_queued t_isKept u4.2.2.1 t_prongsOf t_oneOf t_otherOf t_wardsOf t_codes t_clauseOf t_codeFrom t_codeHalf t_codeTo u4.2.2.2.1 u4.2.2.2.2)) C mv_X12_turnOf mi_X12_turnOf ml_X12_354 (c_X12_turnOf X.2.1 E o_t a_t t_toldDoors t_barredDoors t_taped t_place0 t_length0 t_fault t_number0 t_open t_codeMany t_waiting t_saidMany t_clauses t_newMany t_rounds t_pinFrom t_pinTimes t_lines t_wasTold t_wasBarred s.2.1 s.2.2.1 t_queued t_isKept s.2.2.2.1 t_prongsOf t_oneOf t_otherOf t_wardsOf t_codes t_clauseOf t_codeFrom t_codeHalf t_codeTo s.2.2.2.2.1 s.2.2.2.2.2 s.1 u4 hu4) dX12_roundsGo_49 (by decide) rfl (Nat.le_of_ble_eq_true rfl) 0 11 rfl rfl [0, 1, 2, 3, 4, 5, 6, 7, 8, 9, 10, 11, 12] rfl (by decide) rfl rfl rfl rfl ?_
      refine g_iincn (pc := 52) (j := 3) (d := 1) (lv' := fun v5 => [(3, .int v5), (0, .ref o_t), (1, .int x1), (2, .int x2)]) C dX12_roundsGo_52 rfl (by decide) (by decide) (fun _ => rfl) h (fun v5 h => ?_)
      refine g_goto (pc := 55) (tgt := 33) C dX12_roundsGo_55 (by decide) ?_
      refine g_sub [1, 2, 3, 0] rfl ?_
      exact ih _ h
set_option maxHeartbeats 4000000 in
set_option maxRecDepth 100000 in
theorem kL_X12_roundsGo_12 {X : GC} {E : GE} (C : Cx X E cX12_roundsGo RX12 7 4) (o_t : Nat) (a_t : Nat → Nat) (t_taped : Int32) (t_place0 : Int32) (t_length0 : Int32) (t_fault : Int32) (t_number0 : Int32) (t_open : Int32) (t_codeMany : Int32) (t_waiting : Int32) (t_saidMany : Int32) (t_newMany : Int32) (t_rounds : Int32) (t_pinFrom : Int32) (t_pinTimes : Int32) (t_lines : Int32) (t_wasTold : Int32) (t_wasBarred : Int32) (t_queued : Int32) (t_isKept : Int32) (t_toldDoors : Int32) (t_barredDoors : Int32) (t_clauses : Int32) (t_prongsOf : (Nat → Int32)) (t_oneOf : (Nat → Int32)) (t_otherOf : (Nat → Int32)) (t_wardsOf : (Nat → Int32)) (t_codes : (Nat → Int32)) (t_clauseOf : (Nat → Int32)) (t_codeFrom : (Nat → Int32)) (t_codeHalf : (Nat → Int32)) (t_codeTo : (Nat → Int32)) (x1 : Int32) {r : Int32 × Int32 × (Nat → Int32) × (Nat → Int32) × (Nat → Int32)} (hret : RtV X E cX12_roundsGo 0 0 (fun w => w = (W_X12_roundsGo E o_t a_t t_toldDoors t_barredDoors t_taped t_place0 t_length0 t_fault t_number0 t_open t_codeMany t_waiting t_saidMany t_clauses t_newMany t_rounds t_pinFrom t_pinTimes t_lines t_wasTold t_wasBarred r.1 r.2.1 t_queued t_isKept r.2.2.1 t_prongsOf t_oneOf t_otherOf t_wardsOf t_codes t_clauseOf t_codeFrom t_codeHalf t_codeTo r.2.2.2.1 r.2.2.2.2))) : ∀ (n : Nat) (s : Int32 × Int32 × Int32 × (Nat → Int32) × (Nat → Int32) × (Nat → Int32)), L_X12_roundsGo_12 t_toldDoors t_barredDoors t_clauses t_prongsOf t_oneOf t_otherOf t_wardsOf t_codes t_clauseOf t_codeFrom t_codeHalf t_codeTo x1 n s = some r → Gx X E 0 0 (W_X12_roundsGo E o_t a_t t_toldDoors t_barredDoors t_taped t_place0 t_length0 t_fault t_number0 t_open t_codeMany t_waiting t_saidMany t_clauses t_newMany t_rounds t_pinFrom t_pinTimes t_lines t_wasTold t_wasBarred s.2.1 s.2.2.1 t_queued t_isKept s.2.2.2.1 t_prongsOf t_oneOf t_otherOf t_wardsOf t_codes t_clauseOf t_codeFrom t_codeHalf t_codeTo s.2.2.2.2.1 s.2.2.2.2.2) 12 [(0, .ref o_t), (1, .int x1), (2, .int s.1)] [] := by
  unfold L_X12_roundsGo_12
  refine lp_ind _ (fun go ih s h => ?_)
  refine g_iload_n (pc := 12) C dX12_roundsGo_12 rfl 2 rfl ?_
  refine g_iload_n (pc := 13) C dX12_roundsGo_13 rfl 1 rfl ?_
  refine g_icmp_ge (pc := 14) (tgt := 82) C dX12_roundsGo_14 (by decide) h (fun h => ?_) (fun h => ?_)
  · cases h
    exact hret _ _ _ dX12_roundsGo_82 rfl
  · refine g_aload_n (pc := 17) C dX12_roundsGo_17 rfl 0 rfl ?_
    refine g_get (pc := 18) C fl_X12_7 dX12_roundsGo_18 0 rfl rfl ?_
    refine g_sipush (pc := 21) (v := 164) C dX12_roundsGo_21 (by decide) ?_
    refine g_iald (pc := 24) C dX12_roundsGo_24 1 rfl h (fun v1 h => ?_)
    refine g_sipush (pc := 25) (v := 9999) C dX12_roundsGo_25 (by decide) ?_
    refine g_icmp_ge (pc := 28) (tgt := 82) C dX12_roundsGo_28 (by decide) h (fun h => ?_) (fun h => ?_)
    · cases h
      exact hret _ _ _ dX12_roundsGo_82 rfl
    · refine g_iconst (pc := 31) (v := 0) C dX12_roundsGo_31 (by decide) ?_
      refine g_istore_n (pc := 32) (lv' := [(3, .int (0 : Int32)), (0, .ref o_t), (1, .int x1), (2, .int s.1)]) C dX12_roundsGo_32 rfl (by decide) rfl ?_
      refine g_sub [1, 2, 3, 0] rfl ?_
      refine kL_X12_roundsGo_33 C o_t a_t t_taped t_place0 t_length0 t_fault t_number0 t_open t_codeMany t_waiting t_saidMany t_newMany t_rounds t_pinFrom t_pinTimes t_lines t_wasTold t_wasBarred t_queued t_isKept t_toldDoors t_barredDoors t_clauses t_prongsOf t_oneOf t_otherOf t_wardsOf t_codes t_clauseOf t_codeFrom t_codeHalf t_codeTo x1 s.1 _ hret (fun s6 h => ?_) _ _ h
      refine g_aload_n (pc := 58) C dX12_roundsGo_58 rfl 0 rfl ?_
      refine g_get (pc := 59) C fl_X12_7 dX12_roundsGo_59 0 rfl rfl ?_
      refine g_sipush (pc := 62) (v := 164) C dX12_roundsGo_62 (by decide) ?_
      refine g_aload_n (pc := 65) C dX12_roundsGo_65 rfl 0 rfl ?_
      refine g_get (pc := 66) C fl_X12_7 dX12_roundsGo_66 0 rfl rfl ?_
      refine g_sipush (pc := 69) (v := 164) C dX12_roundsGo_69 (by decide) ?_
      refine g_iald (pc := 72) C dX12_roundsGo_72 1 rfl h (fun v7 h => ?_)
      refine g_iconst (pc := 73) (v := 1) C dX12_roundsGo_73 (by decide) ?_
      refine g_iadd (pc := 74) C dX12_roundsGo_74 ?_
      refine g_iast (pc := 75) C dX12_roundsGo_75 1 rfl h (fun g8 h => ?_)
      refine g_ws (ws' := (W_X12_roundsGo E o_t a_t t_toldDoors t_barredDoors t_taped t_place0 t_length0 t_fault t_number0 t_open t_codeMany t_waiting t_saidMany t_clauses t_newMany t_rounds t_pinFrom t_pinTimes t_lines t_wasTold t_wasBarred s6.1 s6.2.1 t_queued t_isKept g8 t_prongsOf t_oneOf t_otherOf t_wardsOf t_codes t_clauseOf t_codeFrom t_codeHalf t_codeTo s6.2.2.2.1 s6.2.2.2.2)) rfl ?_
      refine g_iincn (pc := 76) (j := 2) (d := 1) (lv' := fun v9 => [(2, .int v9), (0, .ref o_t), (1, .int x1)]) C dX12_roundsGo_76 rfl (by decide) (by decide) (fun _ => rfl) h (fun v9 h => ?_)
      refine g_goto (pc := 79) (tgt := 12) C dX12_roundsGo_79 (by decide) ?_
      refine g_sub [1, 2, 0] rfl ?_
      exact ih _ h
set_option maxHeartbeats 4000000 in
set_option maxRecDepth 100000 in
theorem c_X12_roundsGo (l : Launch) (E : GE) (o_t : Nat) (a_t : Nat → Nat) (t_toldDoors : Int32) (t_barredDoors : Int32) (t_taped : Int32) (t_place0 : Int32) (t_length0 : Int32) (t_fault : Int32) (t_number0 : Int32) (t_open : Int32) (t_codeMany : Int32) (t_waiting : Int32) (t_saidMany : Int32) (t_clauses : Int32) (t_newMany : Int32) (t_rounds : Int32) (t_pinFrom : Int32) (t_pinTimes : Int32) (t_lines : Int32) (t_wasTold : Int32) (t_wasBarred : Int32) (t_goesNow : Int32) (t_jamsNow : Int32) (t_queued : Int32) (t_isKept : Int32) (t_now : (Nat → Int32)) (t_prongsOf : (Nat → Int32)) (t_oneOf : (Nat → Int32)) (t_otherOf : (Nat → Int32)) (t_wardsOf : (Nat → Int32)) (t_codes : (Nat → Int32)) (t_clauseOf : (Nat → Int32)) (t_codeFrom : (Nat → Int32)) (t_codeHalf : (Nat → Int32)) (t_codeTo : (Nat → Int32)) (t_stack : (Nat → Int32)) (t_facts : (Nat → Int32)) (x1 : Int32) (r : Int32 × Int32 × (Nat → Int32) × (Nat → Int32) × (Nat → Int32)) (h : f_X12_roundsGo t_toldDoors t_barredDoors t_clauses t_goesNow t_jamsNow t_now t_prongsOf t_oneOf t_otherOf t_wardsOf t_codes t_clauseOf t_codeFrom t_codeHalf t_codeTo t_stack t_facts x1 = some r) : Cn l E yX12_roundsGo cX12_roundsGo 4 none 7 0 0 [.ref o_t, .int x1] (W_X12_roundsGo E o_t a_t t_toldDoors t_barredDoors t_taped t_place0 t_length0 t_fault t_number0 t_open t_codeMany t_waiting t_saidMany t_clauses t_newMany t_rounds t_pinFrom t_pinTimes t_lines t_wasTold t_wasBarred t_goesNow t_jamsNow t_queued t_isKept t_now t_prongsOf t_oneOf t_otherOf t_wardsOf t_codes t_clauseOf t_codeFrom t_codeHalf t_codeTo t_stack t_facts) (fun w => w = (W_X12_roundsGo E o_t a_t t_toldDoors t_barredDoors t_taped t_place0 t_length0 t_fault t_number0 t_open t_codeMany t_waiting t_saidMany t_clauses t_newMany t_rounds t_pinFrom t_pinTimes t_lines t_wasTold t_wasBarred r.1 r.2.1 t_queued t_isKept r.2.2.1 t_prongsOf t_oneOf t_otherOf t_wardsOf t_codes t_clauseOf t_codeFrom t_codeHalf t_codeTo r.2.2.2.1 r.2.2.2.2)) none := by
  refine Cn.ofV (by decide +kernel) (Nat.le_of_ble_eq_true rfl) (fun X hX hR C hret => ?_)
  subst hX
  show Gx X E 0 0 (W_X12_roundsGo E o_t a_t t_toldDoors t_barredDoors t_taped t_place0 t_length0 t_fault t_number0 t_open t_codeMany t_waiting t_saidMany t_clauses t_newMany t_rounds t_pinFrom t_pinTimes t_lines t_wasTold t_wasBarred t_goesNow t_jamsNow t_queued t_isKept t_now t_prongsOf t_oneOf t_otherOf t_wardsOf t_codes t_clauseOf t_codeFrom t_codeHalf t_codeTo t_stack t_facts) 0 [(0, .ref o_t), (1, .int x1)] []
  unfold f_X12_roundsGo at h
  refine g_aload_n (pc := 0) C dX12_roundsGo_0 rfl 0 rfl ?_
  refine g_iconst (pc := 1) (v := 0) C dX12_roundsGo_1 (by decide) ?_
  refine g_put (pc := 2) (ws' := (W_X12_roundsGo E o_t a_t t_toldDoors t_barredDoors t_taped t_place0 t_length0 t_fault t_number0 t_open t_codeMany t_waiting t_saidMany t_clauses t_newMany t_rounds t_pinFrom t_pinTimes t_lines t_wasTold t_wasBarred (0 : Int32) t_jamsNow t_queued t_isKept t_now t_prongsOf t_oneOf t_otherOf t_wardsOf t_codes t_clauseOf t_codeFrom t_codeHalf t_codeTo t_stack t_facts)) C .int fl_X12_351 dX12_roundsGo_2 0 rfl (by decide +kernel) rfl rfl (Nat.le_of_ble_eq_true rfl) rfl ?_
  refine g_aload_n (pc := 5) C dX12_roundsGo_5 rfl 0 rfl ?_
  refine g_iconst (pc := 6) (v := 0) C dX12_roundsGo_6 (by decide) ?_
  refine g_put (pc := 7) (ws' := (W_X12_roundsGo E o_t a_t t_toldDoors t_barredDoors t_taped t_place0 t_length0 t_fault t_number0 t_open t_codeMany t_waiting t_saidMany t_clauses t_newMany t_rounds t_pinFrom t_pinTimes t_lines t_wasTold t_wasBarred (0 : Int32) (0 : Int32) t_queued t_isKept t_now t_prongsOf t_oneOf t_otherOf t_wardsOf t_codes t_clauseOf t_codeFrom t_codeHalf t_codeTo t_stack t_facts)) C .int fl_X12_348 dX12_roundsGo_7 0 rfl (by decide +kernel) rfl rfl (Nat.le_of_ble_eq_true rfl) rfl ?_
  refine g_iconst (pc := 10) (v := 0) C dX12_roundsGo_10 (by decide) ?_
  refine g_istore_n (pc := 11) (lv' := [(2, .int (0 : Int32)), (0, .ref o_t), (1, .int x1)]) C dX12_roundsGo_11 rfl (by decide) rfl ?_
  refine g_sub [1, 2, 0] rfl ?_
  refine kL_X12_roundsGo_12 C o_t a_t t_taped t_place0 t_length0 t_fault t_number0 t_open t_codeMany t_waiting t_saidMany t_newMany t_rounds t_pinFrom t_pinTimes t_lines t_wasTold t_wasBarred t_queued t_isKept t_toldDoors t_barredDoors t_clauses t_prongsOf t_oneOf t_otherOf t_wardsOf t_codes t_clauseOf t_codeFrom t_codeHalf t_codeTo x1 hret  _ _ h
abbrev W_X12_readsRule (E : GE) (O_t : Nat) (a_t : Nat → Nat) (t_toldDoors : Int32) (t_barredDoors : Int32) (t_taped : Int32) (t_place0 : Int32) (t_length0 : Int32) (t_fault : Int32) (t_number0 : Int32) (t_open : Int32) (t_codeMany : Int32) (t_waiting : Int32) (t_saidMany : Int32) (t_clauses : Int32) (t_newMany : Int32) (t_rounds : Int32) (t_pinFrom : Int32) (t_pinTimes : Int32) (t_lines : Int32) (t_wasTold : Int32) (t_wasBarred : Int32) (t_goesNow : Int32) (t_jamsNow : Int32) (t_queued : Int32) (t_isKept : Int32) (t_tape : (Nat → Int32)) (t_said : (Nat → Int32)) (t_waitsAt : (Nat → Int32)) (t_saidLetter : (Nat → Int32)) (t_saidFrom : (Nat → Int32)) (t_saidHalf : (Nat → Int32)) (t_saidTo : (Nat → Int32)) : va_W := [(O_t, ob_X12 a_t t_toldDoors t_barredDoors t_taped t_place0 t_length0 t_fault t_number0 t_open t_codeMany t_waiting t_saidMany t_clauses t_newMany t_rounds t_pinFrom t_pinTimes t_lines t_wasTold t_wasBarred t_goesNow t_jamsNow t_queued t_isKept), (a_t 13, .inl (E.2.2.1, 260, .inl t_tape)), (a_t 24, .inl (E.2.1, 260, .inl t_said)), (a_t 25, .inl (E.2.1, 260, .inl t_waitsAt)), (a_t 26, .inl (E.2.1, 16, .inl t_saidLetter)), (a_t 27, .inl (E.2.1, 16, .inl t_saidFrom)), (a_t 28, .inl (E.2.1, 16, .inl t_saidHalf)), (a_t 29, .inl (E.2.1, 16, .inl t_saidTo))]
def f_X12_readsRule (t_place0 : Int32) (t_length0 : Int32) (t_fault : Int32) (t_number0 : Int32) (t_open : Int32) (t_codeMany : Int32) (t_waiting : Int32) (t_saidMany : Int32) (t_tape : (Nat → Int32)) (t_said : (Nat → Int32)) (t_waitsAt : (Nat → Int32)) (t_saidLetter : (Nat → Int32)) (t_saidFrom : (Nat → Int32)) (t_saidHalf : (Nat → Int32)) (t_saidTo : (Nat → Int32)) : Option (Int32 × Int32 × Int32 × Int32 × Int32 × Int32 × Int32 × Int32 × (Nat → Int32) × (Nat → Int32) × (Nat → Int32) × (Nat → Int32) × (Nat → Int32) × (Nat → Int32)) := (f_X12_here t_place0 t_length0 t_tape).bind fun u1 => jn (fun s2 : Unit => if t_saidMany = (16 : Int32) then ((f_X12_wrongAt t_fault (4 : Int32) t_place0).bind fun u12 => gb u12.1 <| some (u12.1, t_place0, u12.2, t_number0, t_open, t_codeMany, t_waiting, t_saidMany, t_said, t_waitsAt, t_saidLetter, t_saidFrom, t_saidHalf, t_saidTo)) else wr t_saidLetter 16 t_saidMany u1 fun g3 => nm (t_place0 + (1 : Int32)) fun v4 => wr t_saidFrom 16 t_saidMany t_codeMany fun g5 => jn (fun s6 : Int32 × Int32 × Int32 × Int32 × Int32 × Int32 × (Nat → Int32) × (Nat → Int32) => wr t_saidHalf 16 t_saidMany s6.2.2.2.2.1 fun g7 => (f_X12_readsCondition s6.1 t_length0 s6.2.1 s6.2.2.1 s6.2.2.2.1 s6.2.2.2.2.1 s6.2.2.2.2.2.1 t_tape s6.2.2.2.2.2.2.1 s6.2.2.2.2.2.2.2).bind fun u8 => if u8.1 = 0 then (some ((0 : Int32), u8.2.1, u8.2.2.1, u8.2.2.2.1, u8.2.2.2.2.1, u8.2.2.2.2.2.1, u8.2.2.2.2.2.2.1, t_saidMany, u8.2.2.2.2.2.2.2.1, u8.2.2.2.2.2.2.2.2, g3, g5, g7, t_saidTo)) else wr t_saidTo 16 t_saidMany u8.2.2.2.2.2.1 fun g9 => nm (t_saidMany + (1 : Int32)) fun v10 => some ((1 : Int32), u8.2.1, u8.2.2.1, u8.2.2.2.1, u8.2.2.2.2.1, u8.2.2.2.2.2.1, u8.2.2.2.2.2.2.1, v10, u8.2.2.2.2.2.2.2.1, u8.2.2.2.2.2.2.2.2, g3, g5, g7, g9)) fun j110 => if u1 = (120 : Int32) then (j110 (v4, t_fault, t_number0, (0 : Int32), t_codeMany, (0 : Int32), t_said, t_waitsAt)) else (f_X12_readsSum v4 t_length0 t_fault t_number0 (0 : Int32) t_codeMany (0 : Int32) t_tape t_said t_waitsAt).bind fun u11 => if u11.1 = 0 then (some ((0 : Int32), u11.2.1, u11.2.2.1, u11.2.2.2.1, u11.2.2.2.2.1, u11.2.2.2.2.2.1, u11.2.2.2.2.2.2.1, t_saidMany, u11.2.2.2.2.2.2.2.1, u11.2.2.2.2.2.2.2.2, g3, g5, t_saidHalf, t_saidTo)) else j110 (u11.2.1, u11.2.2.1, u11.2.2.2.1, u11.2.2.2.2.1, u11.2.2.2.2.2.1, u11.2.2.2.2.2.2.1, u11.2.2.2.2.2.2.2.1, u11.2.2.2.2.2.2.2.2)) fun j33 => if u1 = (101 : Int32) then (j33 ()) else if u1 = (106 : Int32) then (j33 ()) else if u1 = (120 : Int32) then (j33 ()) else (f_X12_wrongAt t_fault (1 : Int32) t_place0).bind fun u13 => gb u13.1 <| some (u13.1, t_place0, u13.2, t_number0, t_open, t_codeMany, t_waiting, t_saidMany, t_said, t_waitsAt, t_saidLetter, t_saidFrom, t_saidHalf, t_saidTo)
theorem dX12_readsRule_0 : decode cX12_readsRule 0 = .ok (.aload_n 0, 1) := by decide +kernel
theorem dX12_readsRule_1 : decode cX12_readsRule 1 = .ok (.invokevirtual 152, 3) := by decide +kernel
theorem dX12_readsRule_4 : decode cX12_readsRule 4 = .ok (.istore_n 1, 1) := by decide +kernel
theorem dX12_readsRule_5 : decode cX12_readsRule 5 = .ok (.iload_n 1, 1) := by decide +kernel
theorem dX12_readsRule_6 : decode cX12_readsRule 6 = .ok (.bipush 101, 2) := by decide +kernel
theorem dX12_readsRule_8 : decode cX12_readsRule 8 = .ok (.if_icmp .eq 25, 3) := by decide +kernel
theorem dX12_readsRule_11 : decode cX12_readsRule 11 = .ok (.iload_n 1, 1) := by decide +kernel
theorem dX12_readsRule_12 : decode cX12_readsRule 12 = .ok (.bipush 106, 2) := by decide +kernel
theorem dX12_readsRule_14 : decode cX12_readsRule 14 = .ok (.if_icmp .eq 19, 3) := by decide +kernel
theorem dX12_readsRule_17 : decode cX12_readsRule 17 = .ok (.iload_n 1, 1) := by decide +kernel
theorem dX12_readsRule_18 : decode cX12_readsRule 18 = .ok (.bipush 120, 2) := by decide +kernel
theorem dX12_readsRule_20 : decode cX12_readsRule 20 = .ok (.if_icmp .eq 13, 3) := by decide +kernel
theorem dX12_readsRule_23 : decode cX12_readsRule 23 = .ok (.aload_n 0, 1) := by decide +kernel
theorem dX12_readsRule_24 : decode cX12_readsRule 24 = .ok (.iconst 1, 1) := by decide +kernel
theorem dX12_readsRule_25 : decode cX12_readsRule 25 = .ok (.aload_n 0, 1) := by decide +kernel
theorem dX12_readsRule_26 : decode cX12_readsRule 26 = .ok (.getfield 146, 3) := by decide +kernel
theorem dX12_readsRule_29 : decode cX12_readsRule 29 = .ok (.invokevirtual 159, 3) := by decide +kernel
theorem dX12_readsRule_32 : decode cX12_readsRule 32 = .ok (.ireturn, 1) := by decide +kernel
theorem dX12_readsRule_33 : decode cX12_readsRule 33 = .ok (.aload_n 0, 1) := by decide +kernel
theorem dX12_readsRule_34 : decode cX12_readsRule 34 = .ok (.getfield 224, 3) := by decide +kernel
theorem dX12_readsRule_37 : decode cX12_readsRule 37 = .ok (.bipush 16, 2) := by decide +kernel
theorem dX12_readsRule_39 : decode cX12_readsRule 39 = .ok (.if_icmp .ne 13, 3) := by decide +kernel
theorem dX12_readsRule_42 : decode cX12_readsRule 42 = .ok (.aload_n 0, 1) := by decide +kernel
theorem dX12_readsRule_43 : decode cX12_readsRule 43 = .ok (.iconst 4, 1) := by decide +kernel
theorem dX12_readsRule_44 : decode cX12_readsRule 44 = .ok (.aload_n 0, 1) := by decide +kernel
theorem dX12_readsRule_45 : decode cX12_readsRule 45 = .ok (.getfield 146, 3) := by decide +kernel
theorem dX12_readsRule_48 : decode cX12_readsRule 48 = .ok (.invokevirtual 159, 3) := by decide +kernel
theorem dX12_readsRule_51 : decode cX12_readsRule 51 = .ok (.ireturn, 1) := by decide +kernel
theorem dX12_readsRule_52 : decode cX12_readsRule 52 = .ok (.aload_n 0, 1) := by decide +kernel
theorem dX12_readsRule_53 : decode cX12_readsRule 53 = .ok (.getfield 53, 3) := by decide +kernel
theorem dX12_readsRule_56 : decode cX12_readsRule 56 = .ok (.aload_n 0, 1) := by decide +kernel
theorem dX12_readsRule_57 : decode cX12_readsRule 57 = .ok (.getfield 224, 3) := by decide +kernel
theorem dX12_readsRule_60 : decode cX12_readsRule 60 = .ok (.iload_n 1, 1) := by decide +kernel
theorem dX12_readsRule_61 : decode cX12_readsRule 61 = .ok (.iastore, 1) := by decide +kernel
theorem dX12_readsRule_62 : decode cX12_readsRule 62 = .ok (.aload_n 0, 1) := by decide +kernel
theorem dX12_readsRule_63 : decode cX12_readsRule 63 = .ok (.aload_n 0, 1) := by decide +kernel
theorem dX12_readsRule_64 : decode cX12_readsRule 64 = .ok (.getfield 146, 3) := by decide +kernel
theorem dX12_readsRule_67 : decode cX12_readsRule 67 = .ok (.iconst 1, 1) := by decide +kernel
theorem dX12_readsRule_68 : decode cX12_readsRule 68 = .ok (.iadd, 1) := by decide +kernel
theorem dX12_readsRule_69 : decode cX12_readsRule 69 = .ok (.putfield 146, 3) := by decide +kernel
theorem dX12_readsRule_72 : decode cX12_readsRule 72 = .ok (.aload_n 0, 1) := by decide +kernel
theorem dX12_readsRule_73 : decode cX12_readsRule 73 = .ok (.getfield 56, 3) := by decide +kernel
theorem dX12_readsRule_76 : decode cX12_readsRule 76 = .ok (.aload_n 0, 1) := by decide +kernel
theorem dX12_readsRule_77 : decode cX12_readsRule 77 = .ok (.getfield 224, 3) := by decide +kernel
theorem dX12_readsRule_80 : decode cX12_readsRule 80 = .ok (.aload_n 0, 1) := by decide +kernel
theorem dX12_readsRule_81 : decode cX12_readsRule 81 = .ok (.getfield 169, 3) := by decide +kernel
theorem dX12_readsRule_84 : decode cX12_readsRule 84 = .ok (.iastore, 1) := by decide +kernel
theorem dX12_readsRule_85 : decode cX12_readsRule 85 = .ok (.aload_n 0, 1) := by decide +kernel
theorem dX12_readsRule_86 : decode cX12_readsRule 86 = .ok (.iconst 0, 1) := by decide +kernel
theorem dX12_readsRule_87 : decode cX12_readsRule 87 = .ok (.putfield 173, 3) := by decide +kernel
theorem dX12_readsRule_90 : decode cX12_readsRule 90 = .ok (.aload_n 0, 1) := by decide +kernel
theorem dX12_readsRule_91 : decode cX12_readsRule 91 = .ok (.iconst 0, 1) := by decide +kernel
theorem dX12_readsRule_92 : decode cX12_readsRule 92 = .ok (.putfield 176, 3) := by decide +kernel
theorem dX12_readsRule_95 : decode cX12_readsRule 95 = .ok (.iload_n 1, 1) := by decide +kernel
theorem dX12_readsRule_96 : decode cX12_readsRule 96 = .ok (.bipush 120, 2) := by decide +kernel
theorem dX12_readsRule_98 : decode cX12_readsRule 98 = .ok (.if_icmp .eq 12, 3) := by decide +kernel
theorem dX12_readsRule_101 : decode cX12_readsRule 101 = .ok (.aload_n 0, 1) := by decide +kernel
theorem dX12_readsRule_102 : decode cX12_readsRule 102 = .ok (.invokevirtual 209, 3) := by decide +kernel
theorem dX12_readsRule_105 : decode cX12_readsRule 105 = .ok (.ifCond .ne 5, 3) := by decide +kernel
theorem dX12_readsRule_108 : decode cX12_readsRule 108 = .ok (.iconst 0, 1) := by decide +kernel
theorem dX12_readsRule_109 : decode cX12_readsRule 109 = .ok (.ireturn, 1) := by decide +kernel
theorem dX12_readsRule_110 : decode cX12_readsRule 110 = .ok (.aload_n 0, 1) := by decide +kernel
theorem dX12_readsRule_111 : decode cX12_readsRule 111 = .ok (.getfield 59, 3) := by decide +kernel
theorem dX12_readsRule_114 : decode cX12_readsRule 114 = .ok (.aload_n 0, 1) := by decide +kernel
theorem dX12_readsRule_115 : decode cX12_readsRule 115 = .ok (.getfield 224, 3) := by decide +kernel
theorem dX12_readsRule_118 : decode cX12_readsRule 118 = .ok (.aload_n 0, 1) := by decide +kernel
theorem dX12_readsRule_119 : decode cX12_readsRule 119 = .ok (.getfield 169, 3) := by decide +kernel
theorem dX12_readsRule_122 : decode cX12_readsRule 122 = .ok (.iastore, 1) := by decide +kernel
theorem dX12_readsRule_123 : decode cX12_readsRule 123 = .ok (.aload_n 0, 1) := by decide +kernel
theorem dX12_readsRule_124 : decode cX12_readsRule 124 = .ok (.invokevirtual 227, 3) := by decide +kernel
theorem dX12_readsRule_127 : decode cX12_readsRule 127 = .ok (.ifCond .ne 5, 3) := by decide +kernel
theorem dX12_readsRule_130 : decode cX12_readsRule 130 = .ok (.iconst 0, 1) := by decide +kernel
theorem dX12_readsRule_131 : decode cX12_readsRule 131 = .ok (.ireturn, 1) := by decide +kernel
theorem dX12_readsRule_132 : decode cX12_readsRule 132 = .ok (.aload_n 0, 1) := by decide +kernel
theorem dX12_readsRule_133 : decode cX12_readsRule 133 = .ok (.getfield 62, 3) := by decide +kernel
theorem dX12_readsRule_136 : decode cX12_readsRule 136 = .ok (.aload_n 0, 1) := by decide +kernel
theorem dX12_readsRule_137 : decode cX12_readsRule 137 = .ok (.getfield 224, 3) := by decide +kernel
theorem dX12_readsRule_140 : decode cX12_readsRule 140 = .ok (.aload_n 0, 1) := by decide +kernel
theorem dX12_readsRule_141 : decode cX12_readsRule 141 = .ok (.getfield 169, 3) := by decide +kernel
theorem dX12_readsRule_144 : decode cX12_readsRule 144 = .ok (.iastore, 1) := by decide +kernel
theorem dX12_readsRule_145 : decode cX12_readsRule 145 = .ok (.aload_n 0, 1) := by decide +kernel
theorem dX12_readsRule_146 : decode cX12_readsRule 146 = .ok (.aload_n 0, 1) := by decide +kernel
theorem dX12_readsRule_147 : decode cX12_readsRule 147 = .ok (.getfield 224, 3) := by decide +kernel
theorem dX12_readsRule_150 : decode cX12_readsRule 150 = .ok (.iconst 1, 1) := by decide +kernel
theorem dX12_readsRule_151 : decode cX12_readsRule 151 = .ok (.iadd, 1) := by decide +kernel
theorem dX12_readsRule_152 : decode cX12_readsRule 152 = .ok (.putfield 224, 3) := by decide +kernel
theorem dX12_readsRule_155 : decode cX12_readsRule 155 = .ok (.iconst 1, 1) := by decide +kernel
theorem dX12_readsRule_156 : decode cX12_readsRule 156 = .ok (.ireturn, 1) := by decide +kernel
set_option maxHeartbeats 4000000 in
set_option maxRecDepth 100000 in
theorem c_X12_readsRule (l : Launch) (E : GE) (o_t : Nat) (a_t : Nat → Nat) (t_toldDoors : Int32) (t_barredDoors : Int32) (t_taped : Int32) (t_place0 : Int32) (t_length0 : Int32) (t_fault : Int32) (t_number0 : Int32) (t_open : Int32) (t_codeMany : Int32) (t_waiting : Int32) (t_saidMany : Int32) (t_clauses : Int32) (t_newMany : Int32) (t_rounds : Int32) (t_pinFrom : Int32) (t_pinTimes : Int32) (t_lines : Int32) (t_wasTold : Int32) (t_wasBarred : Int32) (t_goesNow : Int32) (t_jamsNow : Int32) (t_queued : Int32) (t_isKept : Int32) (t_tape : (Nat → Int32)) (t_said : (Nat → Int32)) (t_waitsAt : (Nat → Int32)) (t_saidLetter : (Nat → Int32)) (t_saidFrom : (Nat → Int32)) (t_saidHalf : (Nat → Int32)) (t_saidTo : (Nat → Int32)) (r : Int32 × Int32 × Int32 × Int32 × Int32 × Int32 × Int32 × Int32 × (Nat → Int32) × (Nat → Int32) × (Nat → Int32) × (Nat → Int32) × (Nat → Int32) × (Nat → Int32)) (h : f_X12_readsRule t_place0 t_length0 t_fault t_number0 t_open t_codeMany t_waiting t_saidMany t_tape t_said t_waitsAt t_saidLetter t_saidFrom t_saidHalf t_saidTo = some r) : Cn l E yX12_readsRule cX12_readsRule 2 (some .boolean) 8 0 0 [.ref o_t] (W_X12_readsRule E o_t a_t t_toldDoors t_barredDoors t_taped t_place0 t_length0 t_fault t_number0 t_open t_codeMany t_waiting t_saidMany t_clauses t_newMany t_rounds t_pinFrom t_pinTimes t_lines t_wasTold t_wasBarred t_goesNow t_jamsNow t_queued t_isKept t_tape t_said t_waitsAt t_saidLetter t_saidFrom t_saidHalf t_saidTo) (fun w => w = (W_X12_readsRule E o_t a_t t_toldDoors t_barredDoors t_taped r.2.1 t_length0 r.2.2.1 r.2.2.2.1 r.2.2.2.2.1 r.2.2.2.2.2.1 r.2.2.2.2.2.2.1 r.2.2.2.2.2.2.2.1 t_clauses t_newMany t_rounds t_pinFrom t_pinTimes t_lines t_wasTold t_wasBarred t_goesNow t_jamsNow t_queued t_isKept t_tape r.2.2.2.2.2.2.2.2.1 r.2.2.2.2.2.2.2.2.2.1 r.2.2.2.2.2.2.2.2.2.2.1 r.2.2.2.2.2.2.2.2.2.2.2.1 r.2.2.2.2.2.2.2.2.2.2.2.2.1 r.2.2.2.2.2.2.2.2.2.2.2.2.2)) (some (.int r.1)) := by
  refine Cn.ofI (by decide +kernel) (Nat.le_of_ble_eq_true rfl) (fun X hX hR C hret => ?_)
  subst hX
  show Gx X E 0 0 (W_X12_readsRule E o_t a_t t_toldDoors t_barredDoors t_taped t_place0 t_length0 t_fault t_number0 t_open t_codeMany t_waiting t_saidMany t_clauses t_newMany t_rounds t_pinFrom t_pinTimes t_lines t_wasTold t_wasBarred t_goesNow t_jamsNow t_queued t_isKept t_tape t_said t_waitsAt t_saidLetter t_saidFrom t_saidHalf t_saidTo) 0 [(0, .ref o_t)] []
  unfold f_X12_readsRule at h
  refine g_aload_n (pc := 0) C dX12_readsRule_0 rfl 0 rfl ?_
  obtain ⟨u1, hu1, h⟩ := bs h
  refine g_callV (pc := 1) (st := []) (st1 := [.int u1]) (ws' := (W_X12_readsRule E o_t a_t t_toldDoors t_barredDoors t_taped t_place0 t_length0 t_fault t_number0 t_open t_codeMany t_waiting t_saidMany t_clauses t_newMany t_rounds t_pinFrom t_pinTimes t_lines t_wasTold t_wasBarred t_goesNow t_jamsNow t_queued t_isKept t_tape t_said t_waitsAt t_saidLetter t_saidFrom t_saidHalf t_saidTo)) C mv_X12_here mi_X12_here ml_X12_152 (c_X12_here X.2.1 E o_t a_t t_toldDoors t_barredDoors t_taped t_place0 t_length0 t_fault t_number0 t_open t_codeMany t_waiting t_saidMany t_clauses t_newMany t_rounds t_pinFrom t_pinTimes t_lines t_wasTold t_wasBarred t_goesNow t_jamsNow t_queued t_isKept t_tape u1 hu1) dX12_readsRule_1 (by decide) rfl (Nat.le_of_ble_eq_true rfl) 0 11 rfl rfl [0, 1] rfl (by decide) rfl rfl rfl rfl ?_
  refine g_istore_n (pc := 4) (lv' := [(1, .int u1), (0, .ref o_t)]) C dX12_readsRule_4 rfl (by decide) rfl ?_
  refine g_iload_n (pc := 5) C dX12_readsRule_5 rfl 0 rfl ?_
  refine g_bipush (pc := 6) (v := 101) C dX12_readsRule_6 (by decide) ?_
  refine g_jn (fun s2 : Unit => Gx X E 0 0 (W_X12_readsRule E o_t a_t t_toldDoors t_barredDoors t_taped t_place0 t_length0 t_fault t_number0 t_open t_codeMany t_waiting t_saidMany t_clauses t_newMany t_rounds t_pinFrom t_pinTimes t_lines t_wasTold t_wasBarred t_goesNow t_jamsNow t_queued t_isKept t_tape t_said t_waitsAt t_saidLetter t_saidFrom t_saidHalf t_saidTo) 33 [(0, .ref o_t), (1, .int u1)] []) h (fun s2 h => ?_) (fun j33 hj33 h => ?_)
  · refine g_aload_n (pc := 33) C dX12_readsRule_33 rfl 0 rfl ?_
    refine g_get (pc := 34) C fl_X12_224 dX12_readsRule_34 0 rfl rfl ?_
    refine g_bipush (pc := 37) (v := 16) C dX12_readsRule_37 (by decide) ?_
    refine g_icmp_ne (pc := 39) (tgt := 52) C dX12_readsRule_39 (by decide) h (fun h => ?_) (fun h => ?_)
    · refine g_aload_n (pc := 52) C dX12_readsRule_52 rfl 0 rfl ?_
      refine g_get (pc := 53) C fl_X12_53 dX12_readsRule_53 0 rfl rfl ?_
      refine g_aload_n (pc := 56) C dX12_readsRule_56 rfl 0 rfl ?_
      refine g_get (pc := 57) C fl_X12_224 dX12_readsRule_57 0 rfl rfl ?_
      refine g_iload_n (pc := 60) C dX12_readsRule_60 rfl 1 rfl ?_
      refine g_iast (pc := 61) C dX12_readsRule_61 4 rfl h (fun g3 h => ?_)
      refine g_ws (ws' := (W_X12_readsRule E o_t a_t t_toldDoors t_barredDoors t_taped t_place0 t_length0 t_fault t_number0 t_open t_codeMany t_waiting t_saidMany t_clauses t_newMany t_rounds t_pinFrom t_pinTimes t_lines t_wasTold t_wasBarred t_goesNow t_jamsNow t_queued t_isKept t_tape t_said t_waitsAt g3 t_saidFrom t_saidHalf t_saidTo)) rfl ?_
      refine g_aload_n (pc := 62) C dX12_readsRule_62 rfl 0 rfl ?_
      refine g_aload_n (pc := 63) C dX12_readsRule_63 rfl 0 rfl ?_
      refine g_get (pc := 64) C fl_X12_146 dX12_readsRule_64 0 rfl rfl ?_
      refine g_iconst (pc := 67) (v := 1) C dX12_readsRule_67 (by decide) ?_
      refine g_iadd (pc := 68) C dX12_readsRule_68 ?_
      refine g_nm h (fun v4 h => ?_)
      refine g_put (pc := 69) (ws' := (W_X12_readsRule E o_t a_t t_toldDoors t_barredDoors t_taped v4 t_length0 t_fault t_number0 t_open t_codeMany t_waiting t_saidMany t_clauses t_newMany t_rounds t_pinFrom t_pinTimes t_lines t_wasTold t_wasBarred t_goesNow t_jamsNow t_queued t_isKept t_tape t_said t_waitsAt g3 t_saidFrom t_saidHalf t_saidTo)) C .int fl_X12_146 dX12_readsRule_69 0 rfl (by decide +kernel) rfl rfl (Nat.le_of_ble_eq_true rfl) rfl ?_
      refine g_aload_n (pc := 72) C dX12_readsRule_72 rfl 0 rfl ?_
      refine g_get (pc := 73) C fl_X12_56 dX12_readsRule_73 0 rfl rfl ?_
      refine g_aload_n (pc := 76) C dX12_readsRule_76 rfl 0 rfl ?_
      refine g_get (pc := 77) C fl_X12_224 dX12_readsRule_77 0 rfl rfl ?_
      refine g_aload_n (pc := 80) C dX12_readsRule_80 rfl 0 rfl ?_
      refine g_get (pc := 81) C fl_X12_169 dX12_readsRule_81 0 rfl rfl ?_
      refine g_iast (pc := 84) C dX12_readsRule_84 5 rfl h (fun g5 h => ?_)
      refine g_ws (ws' := (W_X12_readsRule E o_t a_t t_toldDoors t_barredDoors t_taped v4 t_length0 t_fault t_number0 t_open t_codeMany t_waiting t_saidMany t_clauses t_newMany t_rounds t_pinFrom t_pinTimes t_lines t_wasTold t_wasBarred t_goesNow t_jamsNow t_queued t_isKept t_tape t_said t_waitsAt g3 g5 t_saidHalf t_saidTo)) rfl ?_
      refine g_aload_n (pc := 85) C dX12_readsRule_85 rfl 0 rfl ?_
      refine g_iconst (pc := 86) (v := 0) C dX12_readsRule_86 (by decide) ?_
      refine g_put (pc := 87) (ws' := (W_X12_readsRule E o_t a_t t_toldDoors t_barredDoors t_taped v4 t_length0 t_fault t_number0 (0 : Int32) t_codeMany t_waiting t_saidMany t_clauses t_newMany t_rounds t_pinFrom t_pinTimes t_lines t_wasTold t_wasBarred t_goesNow t_jamsNow t_queued t_isKept t_tape t_said t_waitsAt g3 g5 t_saidHalf t_saidTo)) C .int fl_X12_173 dX12_readsRule_87 0 rfl (by decide +kernel) rfl rfl (Nat.le_of_ble_eq_true rfl) rfl ?_
      refine g_aload_n (pc := 90) C dX12_readsRule_90 rfl 0 rfl ?_
      refine g_iconst (pc := 91) (v := 0) C dX12_readsRule_91 (by decide) ?_
      refine g_put (pc := 92) (ws' := (W_X12_readsRule E o_t a_t t_toldDoors t_barredDoors t_taped v4 t_length0 t_fault t_number0 (0 : Int32) t_codeMany (0 : Int32) t_saidMany t_clauses t_newMany t_rounds t_pinFrom t_pinTimes t_lines t_wasTold t_wasBarred t_goesNow t_jamsNow t_queued t_isKept t_tape t_said t_waitsAt g3 g5 t_saidHalf t_saidTo)) C .int fl_X12_176 dX12_readsRule_92 0 rfl (by decide +kernel) rfl rfl (Nat.le_of_ble_eq_true rfl) rfl ?_
      refine g_iload_n (pc := 95) C dX12_readsRule_95 rfl 1 rfl ?_
      refine g_bipush (pc := 96) (v := 120) C dX12_readsRule_96 (by decide) ?_
      refine g_jn (fun s6 : Int32 × Int32 × Int32 × Int32 × Int32 × Int32 × (Nat → Int32) × (Nat → Int32) => Gx X E 0 0 (W_X12_readsRule E o_t a_t t_toldDoors t_barredDoors t_taped s6.1 t_length0 s6.2.1 s6.2.2.1 s6.2.2.2.1 s6.2.2.2.2.1 s6.2.2.2.2.2.1 t_saidMany t_clauses t_newMany t_rounds t_pinFrom t_pinTimes t_lines t_wasTold t_wasBarred t_goesNow t_jamsNow t_queued t_isKept t_tape s6.2.2.2.2.2.2.1 s6.2.2.2.2.2.2.2 g3 g5 t_saidHalf t_saidTo) 110 [(0, .ref o_t)] []) h (fun s6 h => ?_) (fun j110 hj110 h => ?_)
      · refine g_aload_n (pc := 110) C dX12_readsRule_110 rfl 0 rfl ?_
        refine g_get (pc := 111) C fl_X12_59 dX12_readsRule_111 0 rfl rfl ?_
        refine g_aload_n (pc := 114) C dX12_readsRule_114 rfl 0 rfl ?_
        refine g_get (pc := 115) C fl_X12_224 dX12_readsRule_115 0 rfl rfl ?_
        refine g_aload_n (pc := 118) C dX12_readsRule_118 rfl 0 rfl ?_
        refine g_get (pc := 119) C fl_X12_169 dX12_readsRule_119 0 rfl rfl ?_
        refine g_iast (pc := 122) C dX12_readsRule_122 6 rfl h (fun g7 h => ?_)
        refine g_ws (ws' := (W_X12_readsRule E o_t a_t t_toldDoors t_barredDoors t_taped s6.1 t_length0 s6.2.1 s6.2.2.1 s6.2.2.2.1 s6.2.2.2.2.1 s6.2.2.2.2.2.1 t_saidMany t_clauses t_newMany t_rounds t_pinFrom t_pinTimes t_lines t_wasTold t_wasBarred t_goesNow t_jamsNow t_queued t_isKept t_tape s6.2.2.2.2.2.2.1 s6.2.2.2.2.2.2.2 g3 g5 g7 t_saidTo)) rfl ?_
        refine g_aload_n (pc := 123) C dX12_readsRule_123 rfl 0 rfl ?_
        obtain ⟨u8, hu8, h⟩ := bs h
        refine g_callV (pc := 124) (st := []) (st1 := [.int u8.1]) (ws' := (W_X12_readsRule E o_t a_t t_toldDoors t_barredDoors t_taped u8.2.1 t_length0 u8.2.2.1 u8.2.2.2.1 u8.2.2.2.2.1 u8.2.2.2.2.2.1 u8.2.2.2.2.2.2.1 t_saidMany t_clauses t_newMany t_rounds t_pinFrom t_pinTimes t_lines t_wasTold t_wasBarred t_goesNow t_jamsNow t_queued t_isKept t_tape u8.2.2.2.2.2.2.2.1 u8.2.2.2.2.2.2.2.2 g3 g5 g7 t_saidTo)) C mv_X12_readsCondition mi_X12_readsCondition ml_X12_227 (c_X12_readsCondition X.2.1 E o_t a_t t_toldDoors t_barredDoors t_taped s6.1 t_length0 s6.2.1 s6.2.2.1 s6.2.2.2.1 s6.2.2.2.2.1 s6.2.2.2.2.2.1 t_saidMany t_clauses t_newMany t_rounds t_pinFrom t_pinTimes t_lines t_wasTold t_wasBarred t_goesNow t_jamsNow t_queued t_isKept t_tape s6.2.2.2.2.2.2.1 s6.2.2.2.2.2.2.2 u8 hu8) dX12_readsRule_124 (by decide) rfl (Nat.le_of_ble_eq_true rfl) 0 11 rfl rfl [0, 1, 2, 3] rfl (by decide) rfl rfl rfl rfl ?_
        refine g_if_ne (pc := 127) (tgt := 132) C dX12_readsRule_127 (by decide) h (fun h => ?_) (fun h => ?_)
        · refine g_aload_n (pc := 132) C dX12_readsRule_132 rfl 0 rfl ?_
          refine g_get (pc := 133) C fl_X12_62 dX12_readsRule_133 0 rfl rfl ?_
          refine g_aload_n (pc := 136) C dX12_readsRule_136 rfl 0 rfl ?_
          refine g_get (pc := 137) C fl_X12_224 dX12_readsRule_137 0 rfl rfl ?_
          refine g_aload_n (pc := 140) C dX12_readsRule_140 rfl 0 rfl ?_
          refine g_get (pc := 141) C fl_X12_169 dX12_readsRule_141 0 rfl rfl ?_
          refine g_iast (pc := 144) C dX12_readsRule_144 7 rfl h (fun g9 h => ?_)
          refine g_ws (ws' := (W_X12_readsRule E o_t a_t t_toldDoors t_barredDoors t_taped u8.2.1 t_length0 u8.2.2.1 u8.2.2.2.1 u8.2.2.2.2.1 u8.2.2.2.2.2.1 u8.2.2.2.2.2.2.1 t_saidMany t_clauses t_newMany t_rounds t_pinFrom t_pinTimes t_lines t_wasTold t_wasBarred t_goesNow t_jamsNow t_queued t_isKept t_tape u8.2.2.2.2.2.2.2.1 u8.2.2.2.2.2.2.2.2 g3 g5 g7 g9)) rfl ?_
          refine g_aload_n (pc := 145) C dX12_readsRule_145 rfl 0 rfl ?_
          refine g_aload_n (pc := 146) C dX12_readsRule_146 rfl 0 rfl ?_
          refine g_get (pc := 147) C fl_X12_224 dX12_readsRule_147 0 rfl rfl ?_
          refine g_iconst (pc := 150) (v := 1) C dX12_readsRule_150 (by decide) ?_
          refine g_iadd (pc := 151) C dX12_readsRule_151 ?_
          refine g_nm h (fun v10 h => ?_)
          refine g_put (pc := 152) (ws' := (W_X12_readsRule E o_t a_t t_toldDoors t_barredDoors t_taped u8.2.1 t_length0 u8.2.2.1 u8.2.2.2.1 u8.2.2.2.2.1 u8.2.2.2.2.2.1 u8.2.2.2.2.2.2.1 v10 t_clauses t_newMany t_rounds t_pinFrom t_pinTimes t_lines t_wasTold t_wasBarred t_goesNow t_jamsNow t_queued t_isKept t_tape u8.2.2.2.2.2.2.2.1 u8.2.2.2.2.2.2.2.2 g3 g5 g7 g9)) C .int fl_X12_224 dX12_readsRule_152 0 rfl (by decide +kernel) rfl rfl (Nat.le_of_ble_eq_true rfl) rfl ?_
          refine g_iconst (pc := 155) (v := 1) C dX12_readsRule_155 (by decide) ?_
          cases h
          exact hret _ _ _ dX12_readsRule_156 nb1 rfl
        · refine g_iconst (pc := 130) (v := 0) C dX12_readsRule_130 (by decide) ?_
          cases h
          exact hret _ _ _ dX12_readsRule_131 nb0 rfl
      refine g_icmp_eq (pc := 98) (tgt := 110) C dX12_readsRule_98 (by decide) h (fun h => ?_) (fun h => ?_)
      · refine g_sub [0] rfl ?_
        exact hj110 _ h
      · refine g_aload_n (pc := 101) C dX12_readsRule_101 rfl 0 rfl ?_
        obtain ⟨u11, hu11, h⟩ := bs h
        refine g_callV (pc := 102) (st := []) (st1 := [.int u11.1]) (ws' := (W_X12_readsRule E o_t a_t t_toldDoors t_barredDoors t_taped u11.2.1 t_length0 u11.2.2.1 u11.2.2.2.1 u11.2.2.2.2.1 u11.2.2.2.2.2.1 u11.2.2.2.2.2.2.1 t_saidMany t_clauses t_newMany t_rounds t_pinFrom t_pinTimes t_lines t_wasTold t_wasBarred t_goesNow t_jamsNow t_queued t_isKept t_tape u11.2.2.2.2.2.2.2.1 u11.2.2.2.2.2.2.2.2 g3 g5 t_saidHalf t_saidTo)) C mv_X12_readsSum mi_X12_readsSum ml_X12_209 (c_X12_readsSum X.2.1 E o_t a_t t_toldDoors t_barredDoors t_taped v4 t_length0 t_fault t_number0 (0 : Int32) t_codeMany (0 : Int32) t_saidMany t_clauses t_newMany t_rounds t_pinFrom t_pinTimes t_lines t_wasTold t_wasBarred t_goesNow t_jamsNow t_queued t_isKept t_tape t_said t_waitsAt u11 hu11) dX12_readsRule_102 (by decide) rfl (Nat.le_of_ble_eq_true rfl) 0 11 rfl rfl [0, 1, 2, 3] rfl (by decide) rfl rfl rfl rfl ?_
        refine g_if_ne (pc := 105) (tgt := 110) C dX12_readsRule_105 (by decide) h (fun h => ?_) (fun h => ?_)
        · refine g_sub [0] rfl ?_
          exact hj110 _ h
        · refine g_iconst (pc := 108) (v := 0) C dX12_readsRule_108 (by decide) ?_
          cases h
          exact hret _ _ _ dX12_readsRule_109 nb0 rfl
    · refine g_aload_n (pc := 42) C dX12_readsRule_42 rfl 0 rfl ?_
      refine g_iconst (pc := 43) (v := 4) C dX12_readsRule_43 (by decide) ?_
      refine g_aload_n (pc := 44) C dX12_readsRule_44 rfl 0 rfl ?_
      refine g_get (pc := 45) C fl_X12_146 dX12_readsRule_45 0 rfl rfl ?_
      obtain ⟨u12, hu12, h⟩ := bs h
      refine g_callV (pc := 48) (st := []) (st1 := [.int u12.1]) (ws' := (W_X12_readsRule E o_t a_t t_toldDoors t_barredDoors t_taped t_place0 t_length0 u12.2 t_number0 t_open t_codeMany t_waiting t_saidMany t_clauses t_newMany t_rounds t_pinFrom t_pinTimes t_lines t_wasTold t_wasBarred t_goesNow t_jamsNow t_queued t_isKept t_tape t_said t_waitsAt t_saidLetter t_saidFrom t_saidHalf t_saidTo)) C mv_X12_wrongAt mi_X12_wrongAt ml_X12_159 (c_X12_wrongAt X.2.1 E o_t a_t t_toldDoors t_barredDoors t_taped t_place0 t_length0 t_fault t_number0 t_open t_codeMany t_waiting t_saidMany t_clauses t_newMany t_rounds t_pinFrom t_pinTimes t_lines t_wasTold t_wasBarred t_goesNow t_jamsNow t_queued t_isKept (4 : Int32) t_place0 u12 hu12) dX12_readsRule_48 (by decide) rfl (Nat.le_of_ble_eq_true rfl) 0 11 rfl rfl [0] rfl (by decide) rfl rfl rfl rfl ?_
      obtain ⟨hgb, h⟩ := gb_is h
      cases h
      exact hret _ _ _ dX12_readsRule_51 hgb rfl
  refine g_icmp_eq (pc := 8) (tgt := 33) C dX12_readsRule_8 (by decide) h (fun h => ?_) (fun h => ?_)
  · refine g_sub [1, 0] rfl ?_
    exact hj33 _ h
  · refine g_iload_n (pc := 11) C dX12_readsRule_11 rfl 0 rfl ?_
    refine g_bipush (pc := 12) (v := 106) C dX12_readsRule_12 (by decide) ?_
    refine g_icmp_eq (pc := 14) (tgt := 33) C dX12_readsRule_14 (by decide) h (fun h => ?_) (fun h => ?_)
    · refine g_sub [1, 0] rfl ?_
      exact hj33 _ h
    · refine g_iload_n (pc := 17) C dX12_readsRule_17 rfl 0 rfl ?_
      refine g_bipush (pc := 18) (v := 120) C dX12_readsRule_18 (by decide) ?_
      refine g_icmp_eq (pc := 20) (tgt := 33) C dX12_readsRule_20 (by decide) h (fun h => ?_) (fun h => ?_)
      · refine g_sub [1, 0] rfl ?_
        exact hj33 _ h
      · refine g_aload_n (pc := 23) C dX12_readsRule_23 rfl 1 rfl ?_
        refine g_iconst (pc := 24) (v := 1) C dX12_readsRule_24 (by decide) ?_
        refine g_aload_n (pc := 25) C dX12_readsRule_25 rfl 1 rfl ?_
        refine g_get (pc := 26) C fl_X12_146 dX12_readsRule_26 0 rfl rfl ?_
        obtain ⟨u13, hu13, h⟩ := bs h
        refine g_callV (pc := 29) (st := []) (st1 := [.int u13.1]) (ws' := (W_X12_readsRule E o_t a_t t_toldDoors t_barredDoors t_taped t_place0 t_length0 u13.2 t_number0 t_open t_codeMany t_waiting t_saidMany t_clauses t_newMany t_rounds t_pinFrom t_pinTimes t_lines t_wasTold t_wasBarred t_goesNow t_jamsNow t_queued t_isKept t_tape t_said t_waitsAt t_saidLetter t_saidFrom t_saidHalf t_saidTo)) C mv_X12_wrongAt mi_X12_wrongAt ml_X12_159 (c_X12_wrongAt X.2.1 E o_t a_t t_toldDoors t_barredDoors t_taped t_place0 t_length0 t_fault t_number0 t_open t_codeMany t_waiting t_saidMany t_clauses t_newMany t_rounds t_pinFrom t_pinTimes t_lines t_wasTold t_wasBarred t_goesNow t_jamsNow t_queued t_isKept (1 : Int32) t_place0 u13 hu13) dX12_readsRule_29 (by decide) rfl (Nat.le_of_ble_eq_true rfl) 0 11 rfl rfl [0] rfl (by decide) rfl rfl rfl rfl ?_
        obtain ⟨hgb, h⟩ := gb_is h
        cases h
        exact hret _ _ _ dX12_readsRule_32 hgb rfl
abbrev W_X12_rounds (E : GE) (O_t : Nat) (a_t : Nat → Nat) (t_toldDoors : Int32) (t_barredDoors : Int32) (t_taped : Int32) (t_place0 : Int32) (t_length0 : Int32) (t_fault : Int32) (t_number0 : Int32) (t_open : Int32) (t_codeMany : Int32) (t_waiting : Int32) (t_saidMany : Int32) (t_clauses : Int32) (t_newMany : Int32) (t_rounds : Int32) (t_pinFrom : Int32) (t_pinTimes : Int32) (t_lines : Int32) (t_wasTold : Int32) (t_wasBarred : Int32) (t_goesNow : Int32) (t_jamsNow : Int32) (t_queued : Int32) (t_isKept : Int32) (t_now : (Nat → Int32)) (t_prongsOf : (Nat → Int32)) (t_oneOf : (Nat → Int32)) (t_otherOf : (Nat → Int32)) (t_wardsOf : (Nat → Int32)) (t_codes : (Nat → Int32)) (t_clauseOf : (Nat → Int32)) (t_codeFrom : (Nat → Int32)) (t_codeHalf : (Nat → Int32)) (t_codeTo : (Nat → Int32)) (t_stack : (Nat → Int32)) (t_facts : (Nat → Int32)) : va_W := [(O_t, ob_X12 a_t t_toldDoors t_barredDoors t_taped t_place0 t_length0 t_fault t_number0 t_open t_codeMany t_waiting t_saidMany t_clauses t_newMany t_rounds t_pinFrom t_pinTimes t_lines t_wasTold t_wasBarred t_goesNow t_jamsNow t_queued t_isKept), (a_t 0, .inl (E.2.1, 166, .inl t_now)), (a_t 3, .inl (E.2.1, 6, .inl t_prongsOf)), (a_t 4, .inl (E.2.1, 24, .inl t_oneOf)), (a_t 5, .inl (E.2.1, 24, .inl t_otherOf)), (a_t 6, .inl (E.2.1, 24, .inl t_wardsOf)), (a_t 30, .inl (E.2.1, 260, .inl t_codes)), (a_t 31, .inl (E.2.1, 16, .inl t_clauseOf)), (a_t 32, .inl (E.2.1, 16, .inl t_codeFrom)), (a_t 33, .inl (E.2.1, 16, .inl t_codeHalf)), (a_t 34, .inl (E.2.1, 16, .inl t_codeTo)), (a_t 35, .inl (E.2.1, 260, .inl t_stack)), (a_t 36, .inl (E.2.1, 10, .inl t_facts))]
def f_X12_rounds (t_toldDoors : Int32) (t_barredDoors : Int32) (t_clauses : Int32) (t_goesNow : Int32) (t_jamsNow : Int32) (t_now : (Nat → Int32)) (t_prongsOf : (Nat → Int32)) (t_oneOf : (Nat → Int32)) (t_otherOf : (Nat → Int32)) (t_wardsOf : (Nat → Int32)) (t_codes : (Nat → Int32)) (t_clauseOf : (Nat → Int32)) (t_codeFrom : (Nat → Int32)) (t_codeHalf : (Nat → Int32)) (t_codeTo : (Nat → Int32)) (t_stack : (Nat → Int32)) (t_facts : (Nat → Int32)) (x1 : Int32) : Option (Int32 × Int32 × Int32 × (Nat → Int32) × (Nat → Int32) × (Nat → Int32)) := (f_X12_in x1 (1 : Int32) (100 : Int32)).bind fun u1 => if u1 = 0 then (some ((-1 : Int32), t_goesNow, t_jamsNow, t_now, t_stack, t_facts)) else (f_X12_roundsGo t_toldDoors t_barredDoors t_clauses t_goesNow t_jamsNow t_now t_prongsOf t_oneOf t_otherOf t_wardsOf t_codes t_clauseOf t_codeFrom t_codeHalf t_codeTo t_stack t_facts x1).bind fun u2 => some (u2.1, u2.1, u2.2.1, u2.2.2.1, u2.2.2.2.1, u2.2.2.2.2)
theorem dX12_rounds_0 : decode cX12_rounds 0 = .ok (.iload_n 1, 1) := by decide +kernel
theorem dX12_rounds_1 : decode cX12_rounds 1 = .ok (.iconst 1, 1) := by decide +kernel
theorem dX12_rounds_2 : decode cX12_rounds 2 = .ok (.bipush 100, 2) := by decide +kernel
theorem dX12_rounds_4 : decode cX12_rounds 4 = .ok (.invokestatic 117, 3) := by decide +kernel
theorem dX12_rounds_7 : decode cX12_rounds 7 = .ok (.ifCond .ne 5, 3) := by decide +kernel
theorem dX12_rounds_10 : decode cX12_rounds 10 = .ok (.iconst (-1), 1) := by decide +kernel
theorem dX12_rounds_11 : decode cX12_rounds 11 = .ok (.ireturn, 1) := by decide +kernel
theorem dX12_rounds_12 : decode cX12_rounds 12 = .ok (.aload_n 0, 1) := by decide +kernel
theorem dX12_rounds_13 : decode cX12_rounds 13 = .ok (.iload_n 1, 1) := by decide +kernel
theorem dX12_rounds_14 : decode cX12_rounds 14 = .ok (.invokevirtual 357, 3) := by decide +kernel
theorem dX12_rounds_17 : decode cX12_rounds 17 = .ok (.aload_n 0, 1) := by decide +kernel
theorem dX12_rounds_18 : decode cX12_rounds 18 = .ok (.getfield 351, 3) := by decide +kernel
theorem dX12_rounds_21 : decode cX12_rounds 21 = .ok (.ireturn, 1) := by decide +kernel
set_option maxHeartbeats 4000000 in
set_option maxRecDepth 100000 in
theorem c_X12_rounds (l : Launch) (E : GE) (o_t : Nat) (a_t : Nat → Nat) (t_toldDoors : Int32) (t_barredDoors : Int32) (t_taped : Int32) (t_place0 : Int32) (t_length0 : Int32) (t_fault : Int32) (t_number0 : Int32) (t_open : Int32) (t_codeMany : Int32) (t_waiting : Int32) (t_saidMany : Int32) (t_clauses : Int32) (t_newMany : Int32) (t_rounds : Int32) (t_pinFrom : Int32) (t_pinTimes : Int32) (t_lines : Int32) (t_wasTold : Int32) (t_wasBarred : Int32) (t_goesNow : Int32) (t_jamsNow : Int32) (t_queued : Int32) (t_isKept : Int32) (t_now : (Nat → Int32)) (t_prongsOf : (Nat → Int32)) (t_oneOf : (Nat → Int32)) (t_otherOf : (Nat → Int32)) (t_wardsOf : (Nat → Int32)) (t_codes : (Nat → Int32)) (t_clauseOf : (Nat → Int32)) (t_codeFrom : (Nat → Int32)) (t_codeHalf : (Nat → Int32)) (t_codeTo : (Nat → Int32)) (t_stack : (Nat → Int32)) (t_facts : (Nat → Int32)) (x1 : Int32) (r : Int32 × Int32 × Int32 × (Nat → Int32) × (Nat → Int32) × (Nat → Int32)) (h : f_X12_rounds t_toldDoors t_barredDoors t_clauses t_goesNow t_jamsNow t_now t_prongsOf t_oneOf t_otherOf t_wardsOf t_codes t_clauseOf t_codeFrom t_codeHalf t_codeTo t_stack t_facts x1 = some r) : Cn l E yX12_rounds cX12_rounds 2 (some .int) 8 0 0 [.ref o_t, .int x1] (W_X12_rounds E o_t a_t t_toldDoors t_barredDoors t_taped t_place0 t_length0 t_fault t_number0 t_open t_codeMany t_waiting t_saidMany t_clauses t_newMany t_rounds t_pinFrom t_pinTimes t_lines t_wasTold t_wasBarred t_goesNow t_jamsNow t_queued t_isKept t_now t_prongsOf t_oneOf t_otherOf t_wardsOf t_codes t_clauseOf t_codeFrom t_codeHalf t_codeTo t_stack t_facts) (fun w => w = (W_X12_rounds E o_t a_t t_toldDoors t_barredDoors t_taped t_place0 t_length0 t_fault t_number0 t_open t_codeMany t_waiting t_saidMany t_clauses t_newMany t_rounds t_pinFrom t_pinTimes t_lines t_wasTold t_wasBarred r.2.1 r.2.2.1 t_queued t_isKept r.2.2.2.1 t_prongsOf t_oneOf t_otherOf t_wardsOf t_codes t_clauseOf t_codeFrom t_codeHalf t_codeTo r.2.2.2.2.1 r.2.2.2.2.2)) (some (.int r.1)) := by
  refine Cn.ofI (by decide +kernel) (Nat.le_of_ble_eq_true rfl) (fun X hX hR C hret => ?_)
  subst hX
  show Gx X E 0 0 (W_X12_rounds E o_t a_t t_toldDoors t_barredDoors t_taped t_place0 t_length0 t_fault t_number0 t_open t_codeMany t_waiting t_saidMany t_clauses t_newMany t_rounds t_pinFrom t_pinTimes t_lines t_wasTold t_wasBarred t_goesNow t_jamsNow t_queued t_isKept t_now t_prongsOf t_oneOf t_otherOf t_wardsOf t_codes t_clauseOf t_codeFrom t_codeHalf t_codeTo t_stack t_facts) 0 [(0, .ref o_t), (1, .int x1)] []
  unfold f_X12_rounds at h
  refine g_iload_n (pc := 0) C dX12_rounds_0 rfl 1 rfl ?_
  refine g_iconst (pc := 1) (v := 1) C dX12_rounds_1 (by decide) ?_
  refine g_bipush (pc := 2) (v := 100) C dX12_rounds_2 (by decide) ?_
  obtain ⟨u1, hu1, h⟩ := bs h
  refine g_callS (pc := 4) (st := []) (st1 := [.int u1]) (ws' := (W_X12_rounds E o_t a_t t_toldDoors t_barredDoors t_taped t_place0 t_length0 t_fault t_number0 t_open t_codeMany t_waiting t_saidMany t_clauses t_newMany t_rounds t_pinFrom t_pinTimes t_lines t_wasTold t_wasBarred t_goesNow t_jamsNow t_queued t_isKept t_now t_prongsOf t_oneOf t_otherOf t_wardsOf t_codes t_clauseOf t_codeFrom t_codeHalf t_codeTo t_stack t_facts)) C mv_X12_in ms_X12_in ml_X12_117 (c_X12_in X.2.1 E x1 (1 : Int32) (100 : Int32) u1 hu1) dX12_rounds_4 (by decide) rfl (Nat.le_of_ble_eq_true rfl) [] rfl (by decide) rfl rfl rfl rfl ?_
  refine g_if_ne (pc := 7) (tgt := 12) C dX12_rounds_7 (by decide) h (fun h => ?_) (fun h => ?_)
  · refine g_aload_n (pc := 12) C dX12_rounds_12 rfl 0 rfl ?_
    refine g_iload_n (pc := 13) C dX12_rounds_13 rfl 1 rfl ?_
    obtain ⟨u2, hu2, h⟩ := bs h
    refine g_callV (pc := 14) (st := []) (st1 := []) (ws' := (W_X12_rounds E o_t a_t t_toldDoors t_barredDoors t_taped t_place0 t_length0 t_fault t_number0 t_open t_codeMany t_waiting t_saidMany t_clauses t_newMany t_rounds t_pinFrom t_pinTimes t_lines t_wasTold t_wasBarred u2.1 u2.2.1 t_queued t_isKept u2.2.2.1 t_prongsOf t_oneOf t_otherOf t_wardsOf t_codes t_clauseOf t_codeFrom t_codeHalf t_codeTo u2.2.2.2.1 u2.2.2.2.2)) C mv_X12_roundsGo mi_X12_roundsGo ml_X12_357 (c_X12_roundsGo X.2.1 E o_t a_t t_toldDoors t_barredDoors t_taped t_place0 t_length0 t_fault t_number0 t_open t_codeMany t_waiting t_saidMany t_clauses t_newMany t_rounds t_pinFrom t_pinTimes t_lines t_wasTold t_wasBarred t_goesNow t_jamsNow t_queued t_isKept t_now t_prongsOf t_oneOf t_otherOf t_wardsOf t_codes t_clauseOf t_codeFrom t_codeHalf t_codeTo t_stack t_facts x1 u2 hu2) dX12_rounds_14 (by decide) rfl (Nat.le_of_ble_eq_true rfl) 0 11 rfl rfl [0, 1, 2, 3, 4, 5, 6, 7, 8, 9, 10, 11, 12] rfl (by decide) rfl rfl rfl rfl ?_
    refine g_aload_n (pc := 17) C dX12_rounds_17 rfl 0 rfl ?_
    refine g_get (pc := 18) C fl_X12_351 dX12_rounds_18 0 rfl rfl ?_
    cases h
    exact hret _ _ _ dX12_rounds_21 rfl rfl
  · refine g_iconst (pc := 10) (v := -1) C dX12_rounds_10 (by decide) ?_
    cases h
    exact hret _ _ _ dX12_rounds_11 rfl rfl
abbrev W_X12_tried (E : GE) (O_t : Nat) (a_t : Nat → Nat) (t_toldDoors : Int32) (t_barredDoors : Int32) (t_taped : Int32) (t_place0 : Int32) (t_length0 : Int32) (t_fault : Int32) (t_number0 : Int32) (t_open : Int32) (t_codeMany : Int32) (t_waiting : Int32) (t_saidMany : Int32) (t_clauses : Int32) (t_newMany : Int32) (t_rounds : Int32) (t_pinFrom : Int32) (t_pinTimes : Int32) (t_lines : Int32) (t_wasTold : Int32) (t_wasBarred : Int32) (t_goesNow : Int32) (t_jamsNow : Int32) (t_queued : Int32) (t_isKept : Int32) (t_now : (Nat → Int32)) (t_aside : (Nat → Int32)) (t_prongsOf : (Nat → Int32)) (t_oneOf : (Nat → Int32)) (t_otherOf : (Nat → Int32)) (t_wardsOf : (Nat → Int32)) (t_codes : (Nat → Int32)) (t_clauseOf : (Nat → Int32)) (t_codeFrom : (Nat → Int32)) (t_codeHalf : (Nat → Int32)) (t_codeTo : (Nat → Int32)) (t_stack : (Nat → Int32)) (t_facts : (Nat → Int32)) : va_W := [(O_t, ob_X12 a_t t_toldDoors t_barredDoors t_taped t_place0 t_length0 t_fault t_number0 t_open t_codeMany t_waiting t_saidMany t_clauses t_newMany t_rounds t_pinFrom t_pinTimes t_lines t_wasTold t_wasBarred t_goesNow t_jamsNow t_queued t_isKept), (a_t 0, .inl (E.2.1, 166, .inl t_now)), (a_t 1, .inl (E.2.1, 166, .inl t_aside)), (a_t 3, .inl (E.2.1, 6, .inl t_prongsOf)), (a_t 4, .inl (E.2.1, 24, .inl t_oneOf)), (a_t 5, .inl (E.2.1, 24, .inl t_otherOf)), (a_t 6, .inl (E.2.1, 24, .inl t_wardsOf)), (a_t 30, .inl (E.2.1, 260, .inl t_codes)), (a_t 31, .inl (E.2.1, 16, .inl t_clauseOf)), (a_t 32, .inl (E.2.1, 16, .inl t_codeFrom)), (a_t 33, .inl (E.2.1, 16, .inl t_codeHalf)), (a_t 34, .inl (E.2.1, 16, .inl t_codeTo)), (a_t 35, .inl (E.2.1, 260, .inl t_stack)), (a_t 36, .inl (E.2.1, 10, .inl t_facts))]
def f_X12_tried (t_toldDoors : Int32) (t_barredDoors : Int32) (t_clauses : Int32) (t_goesNow : Int32) (t_jamsNow : Int32) (t_now : (Nat → Int32)) (t_aside : (Nat → Int32)) (t_prongsOf : (Nat → Int32)) (t_oneOf : (Nat → Int32)) (t_otherOf : (Nat → Int32)) (t_wardsOf : (Nat → Int32)) (t_codes : (Nat → Int32)) (t_clauseOf : (Nat → Int32)) (t_codeFrom : (Nat → Int32)) (t_codeHalf : (Nat → Int32)) (t_codeTo : (Nat → Int32)) (t_stack : (Nat → Int32)) (t_facts : (Nat → Int32)) (x1 : Int32) (x2 : Int32) : Option (Int32 × Int32 × Int32 × (Nat → Int32) × (Nat → Int32) × (Nat → Int32) × (Nat → Int32)) := (f_X12_in x1 (1 : Int32) (100 : Int32)).bind fun u1 => if u1 = 0 then (some ((-1 : Int32), t_goesNow, t_jamsNow, t_now, t_aside, t_stack, t_facts)) else (f_X12_in x2 (0 : Int32) (1 : Int32)).bind fun u2 => jn (fun s3 : Unit => (f_X12_copies 166 166 t_now t_aside).bind fun u4 => (f_X12_roundsGo t_toldDoors t_barredDoors t_clauses t_goesNow t_jamsNow t_now t_prongsOf t_oneOf t_otherOf t_wardsOf t_codes t_clauseOf t_codeFrom t_codeHalf t_codeTo t_stack t_facts x1).bind fun u5 => jn (fun s6 : Int32 => (f_X12_copies 166 166 u4 u5.2.2.1).bind fun u7 => some (s6, u5.1, u5.2.1, u7, u4, u5.2.2.2.1, u5.2.2.2.2)) fun j111 => if x2 = 0 then (j111 u5.1) else if x2 = (1 : Int32) then (j111 u5.2.1) else if (30 : Int32) ≤ x2 then ((f_X12_pinsOf u5.2.2.1 (x2 - (30 : Int32))).bind fun u8 => j111 u8) else rd u5.2.2.1 166 (((34 : Int32) + x2) - (10 : Int32)) fun v9 => j111 v9) fun j43 => if u2 = 0 then ((f_X12_isWoman t_now (x2 - (10 : Int32))).bind fun u10 => if u10 = 0 then ((f_X12_isWoman t_now (x2 - (30 : Int32))).bind fun u11 => if u11 = 0 then (some ((-1 : Int32), t_goesNow, t_jamsNow, t_now, t_aside, t_stack, t_facts)) else j43 ()) else j43 ()) else j43 ()
theorem dX12_tried_0 : decode cX12_tried 0 = .ok (.iload_n 1, 1) := by decide +kernel
theorem dX12_tried_1 : decode cX12_tried 1 = .ok (.iconst 1, 1) := by decide +kernel
theorem dX12_tried_2 : decode cX12_tried 2 = .ok (.bipush 100, 2) := by decide +kernel
theorem dX12_tried_4 : decode cX12_tried 4 = .ok (.invokestatic 117, 3) := by decide +kernel
theorem dX12_tried_7 : decode cX12_tried 7 = .ok (.ifCond .eq 34, 3) := by decide +kernel
theorem dX12_tried_10 : decode cX12_tried 10 = .ok (.iload_n 2, 1) := by decide +kernel
theorem dX12_tried_11 : decode cX12_tried 11 = .ok (.iconst 0, 1) := by decide +kernel
theorem dX12_tried_12 : decode cX12_tried 12 = .ok (.iconst 1, 1) := by decide +kernel
theorem dX12_tried_13 : decode cX12_tried 13 = .ok (.invokestatic 117, 3) := by decide +kernel
theorem dX12_tried_16 : decode cX12_tried 16 = .ok (.ifCond .ne 27, 3) := by decide +kernel
theorem dX12_tried_19 : decode cX12_tried 19 = .ok (.aload_n 0, 1) := by decide +kernel
theorem dX12_tried_20 : decode cX12_tried 20 = .ok (.iload_n 2, 1) := by decide +kernel
theorem dX12_tried_21 : decode cX12_tried 21 = .ok (.bipush 10, 2) := by decide +kernel
theorem dX12_tried_23 : decode cX12_tried 23 = .ok (.isub, 1) := by decide +kernel
theorem dX12_tried_24 : decode cX12_tried 24 = .ok (.invokevirtual 268, 3) := by decide +kernel
theorem dX12_tried_27 : decode cX12_tried 27 = .ok (.ifCond .ne 16, 3) := by decide +kernel
theorem dX12_tried_30 : decode cX12_tried 30 = .ok (.aload_n 0, 1) := by decide +kernel
theorem dX12_tried_31 : decode cX12_tried 31 = .ok (.iload_n 2, 1) := by decide +kernel
theorem dX12_tried_32 : decode cX12_tried 32 = .ok (.bipush 30, 2) := by decide +kernel
theorem dX12_tried_34 : decode cX12_tried 34 = .ok (.isub, 1) := by decide +kernel
theorem dX12_tried_35 : decode cX12_tried 35 = .ok (.invokevirtual 268, 3) := by decide +kernel
theorem dX12_tried_38 : decode cX12_tried 38 = .ok (.ifCond .ne 5, 3) := by decide +kernel
theorem dX12_tried_41 : decode cX12_tried 41 = .ok (.iconst (-1), 1) := by decide +kernel
theorem dX12_tried_42 : decode cX12_tried 42 = .ok (.ireturn, 1) := by decide +kernel
theorem dX12_tried_43 : decode cX12_tried 43 = .ok (.aload_n 0, 1) := by decide +kernel
theorem dX12_tried_44 : decode cX12_tried 44 = .ok (.getfield 7, 3) := by decide +kernel
theorem dX12_tried_47 : decode cX12_tried 47 = .ok (.aload_n 0, 1) := by decide +kernel
theorem dX12_tried_48 : decode cX12_tried 48 = .ok (.getfield 13, 3) := by decide +kernel
theorem dX12_tried_51 : decode cX12_tried 51 = .ok (.invokestatic 298, 3) := by decide +kernel
theorem dX12_tried_54 : decode cX12_tried 54 = .ok (.aload_n 0, 1) := by decide +kernel
theorem dX12_tried_55 : decode cX12_tried 55 = .ok (.iload_n 1, 1) := by decide +kernel
theorem dX12_tried_56 : decode cX12_tried 56 = .ok (.invokevirtual 357, 3) := by decide +kernel
theorem dX12_tried_59 : decode cX12_tried 59 = .ok (.iload_n 2, 1) := by decide +kernel
theorem dX12_tried_60 : decode cX12_tried 60 = .ok (.ifCond .ne 10, 3) := by decide +kernel
theorem dX12_tried_63 : decode cX12_tried 63 = .ok (.aload_n 0, 1) := by decide +kernel
theorem dX12_tried_64 : decode cX12_tried 64 = .ok (.getfield 351, 3) := by decide +kernel
theorem dX12_tried_67 : decode cX12_tried 67 = .ok (.goto 44, 3) := by decide +kernel
theorem dX12_tried_70 : decode cX12_tried 70 = .ok (.iload_n 2, 1) := by decide +kernel
theorem dX12_tried_71 : decode cX12_tried 71 = .ok (.iconst 1, 1) := by decide +kernel
theorem dX12_tried_72 : decode cX12_tried 72 = .ok (.if_icmp .ne 10, 3) := by decide +kernel
theorem dX12_tried_75 : decode cX12_tried 75 = .ok (.aload_n 0, 1) := by decide +kernel
theorem dX12_tried_76 : decode cX12_tried 76 = .ok (.getfield 348, 3) := by decide +kernel
theorem dX12_tried_79 : decode cX12_tried 79 = .ok (.goto 32, 3) := by decide +kernel
theorem dX12_tried_82 : decode cX12_tried 82 = .ok (.iload_n 2, 1) := by decide +kernel
theorem dX12_tried_83 : decode cX12_tried 83 = .ok (.bipush 30, 2) := by decide +kernel
theorem dX12_tried_85 : decode cX12_tried 85 = .ok (.if_icmp .ge 18, 3) := by decide +kernel
theorem dX12_tried_88 : decode cX12_tried 88 = .ok (.aload_n 0, 1) := by decide +kernel
theorem dX12_tried_89 : decode cX12_tried 89 = .ok (.getfield 7, 3) := by decide +kernel
theorem dX12_tried_92 : decode cX12_tried 92 = .ok (.bipush 34, 2) := by decide +kernel
theorem dX12_tried_94 : decode cX12_tried 94 = .ok (.iload_n 2, 1) := by decide +kernel
theorem dX12_tried_95 : decode cX12_tried 95 = .ok (.iadd, 1) := by decide +kernel
theorem dX12_tried_96 : decode cX12_tried 96 = .ok (.bipush 10, 2) := by decide +kernel
theorem dX12_tried_98 : decode cX12_tried 98 = .ok (.isub, 1) := by decide +kernel
theorem dX12_tried_99 : decode cX12_tried 99 = .ok (.iaload, 1) := by decide +kernel
theorem dX12_tried_100 : decode cX12_tried 100 = .ok (.goto 11, 3) := by decide +kernel
theorem dX12_tried_103 : decode cX12_tried 103 = .ok (.aload_n 0, 1) := by decide +kernel
theorem dX12_tried_104 : decode cX12_tried 104 = .ok (.iload_n 2, 1) := by decide +kernel
theorem dX12_tried_105 : decode cX12_tried 105 = .ok (.bipush 30, 2) := by decide +kernel
theorem dX12_tried_107 : decode cX12_tried 107 = .ok (.isub, 1) := by decide +kernel
theorem dX12_tried_108 : decode cX12_tried 108 = .ok (.invokevirtual 311, 3) := by decide +kernel
theorem dX12_tried_111 : decode cX12_tried 111 = .ok (.istore_n 3, 1) := by decide +kernel
theorem dX12_tried_112 : decode cX12_tried 112 = .ok (.aload_n 0, 1) := by decide +kernel
theorem dX12_tried_113 : decode cX12_tried 113 = .ok (.getfield 13, 3) := by decide +kernel
theorem dX12_tried_116 : decode cX12_tried 116 = .ok (.aload_n 0, 1) := by decide +kernel
theorem dX12_tried_117 : decode cX12_tried 117 = .ok (.getfield 7, 3) := by decide +kernel
theorem dX12_tried_120 : decode cX12_tried 120 = .ok (.invokestatic 298, 3) := by decide +kernel
theorem dX12_tried_123 : decode cX12_tried 123 = .ok (.iload_n 3, 1) := by decide +kernel
theorem dX12_tried_124 : decode cX12_tried 124 = .ok (.ireturn, 1) := by decide +kernel
set_option maxHeartbeats 4000000 in
set_option maxRecDepth 100000 in
theorem c_X12_tried (l : Launch) (E : GE) (o_t : Nat) (a_t : Nat → Nat) (t_toldDoors : Int32) (t_barredDoors : Int32) (t_taped : Int32) (t_place0 : Int32) (t_length0 : Int32) (t_fault : Int32) (t_number0 : Int32) (t_open : Int32) (t_codeMany : Int32) (t_waiting : Int32) (t_saidMany : Int32) (t_clauses : Int32) (t_newMany : Int32) (t_rounds : Int32) (t_pinFrom : Int32) (t_pinTimes : Int32) (t_lines : Int32) (t_wasTold : Int32) (t_wasBarred : Int32) (t_goesNow : Int32) (t_jamsNow : Int32) (t_queued : Int32) (t_isKept : Int32) (t_now : (Nat → Int32)) (t_aside : (Nat → Int32)) (t_prongsOf : (Nat → Int32)) (t_oneOf : (Nat → Int32)) (t_otherOf : (Nat → Int32)) (t_wardsOf : (Nat → Int32)) (t_codes : (Nat → Int32)) (t_clauseOf : (Nat → Int32)) (t_codeFrom : (Nat → Int32)) (t_codeHalf : (Nat → Int32)) (t_codeTo : (Nat → Int32)) (t_stack : (Nat → Int32)) (t_facts : (Nat → Int32)) (x1 : Int32) (x2 : Int32) (r : Int32 × Int32 × Int32 × (Nat → Int32) × (Nat → Int32) × (Nat → Int32) × (Nat → Int32)) (h : f_X12_tried t_toldDoors t_barredDoors t_clauses t_goesNow t_jamsNow t_now t_aside t_prongsOf t_oneOf t_otherOf t_wardsOf t_codes t_clauseOf t_codeFrom t_codeHalf t_codeTo t_stack t_facts x1 x2 = some r) : Cn l E yX12_tried cX12_tried 4 (some .int) 8 0 0 [.ref o_t, .int x1, .int x2] (W_X12_tried E o_t a_t t_toldDoors t_barredDoors t_taped t_place0 t_length0 t_fault t_number0 t_open t_codeMany t_waiting t_saidMany t_clauses t_newMany t_rounds t_pinFrom t_pinTimes t_lines t_wasTold t_wasBarred t_goesNow t_jamsNow t_queued t_isKept t_now t_aside t_prongsOf t_oneOf t_otherOf t_wardsOf t_codes t_clauseOf t_codeFrom t_codeHalf t_codeTo t_stack t_facts) (fun w => w = (W_X12_tried E o_t a_t t_toldDoors t_barredDoors t_taped t_place0 t_length0 t_fault t_number0 t_open t_codeMany t_waiting t_saidMany t_clauses t_newMany t_rounds t_pinFrom t_pinTimes t_lines t_wasTold t_wasBarred r.2.1 r.2.2.1 t_queued t_isKept r.2.2.2.1 r.2.2.2.2.1 t_prongsOf t_oneOf t_otherOf t_wardsOf t_codes t_clauseOf t_codeFrom t_codeHalf t_codeTo r.2.2.2.2.2.1 r.2.2.2.2.2.2)) (some (.int r.1)) := by
  refine Cn.ofI (by decide +kernel) (Nat.le_of_ble_eq_true rfl) (fun X hX hR C hret => ?_)
  subst hX
  show Gx X E 0 0 (W_X12_tried E o_t a_t t_toldDoors t_barredDoors t_taped t_place0 t_length0 t_fault t_number0 t_open t_codeMany t_waiting t_saidMany t_clauses t_newMany t_rounds t_pinFrom t_pinTimes t_lines t_wasTold t_wasBarred t_goesNow t_jamsNow t_queued t_isKept t_now t_aside t_prongsOf t_oneOf t_otherOf t_wardsOf t_codes t_clauseOf t_codeFrom t_codeHalf t_codeTo t_stack t_facts) 0 [(0, .ref o_t), (1, .int x1), (2, .int x2)] []
  unfold f_X12_tried at h
  refine g_iload_n (pc := 0) C dX12_tried_0 rfl 1 rfl ?_
  refine g_iconst (pc := 1) (v := 1) C dX12_tried_1 (by decide) ?_
  refine g_bipush (pc := 2) (v := 100) C dX12_tried_2 (by decide) ?_
  obtain ⟨u1, hu1, h⟩ := bs h
  refine g_callS (pc := 4) (st := []) (st1 := [.int u1]) (ws' := (W_X12_tried E o_t a_t t_toldDoors t_barredDoors t_taped t_place0 t_length0 t_fault t_number0 t_open t_codeMany t_waiting t_saidMany t_clauses t_newMany t_rounds t_pinFrom t_pinTimes t_lines t_wasTold t_wasBarred t_goesNow t_jamsNow t_queued t_isKept t_now t_aside t_prongsOf t_oneOf t_otherOf t_wardsOf t_codes t_clauseOf t_codeFrom t_codeHalf t_codeTo t_stack t_facts)) C mv_X12_in ms_X12_in ml_X12_117 (c_X12_in X.2.1 E x1 (1 : Int32) (100 : Int32) u1 hu1) dX12_tried_4 (by decide) rfl (Nat.le_of_ble_eq_true rfl) [] rfl (by decide) rfl rfl rfl rfl ?_
  refine g_if_eq (pc := 7) (tgt := 41) C dX12_tried_7 (by decide) h (fun h => ?_) (fun h => ?_)
  · refine g_iconst (pc := 41) (v := -1) C dX12_tried_41 (by decide) ?_
    cases h
    exact hret _ _ _ dX12_tried_42 rfl rfl
  · refine g_iload_n (pc := 10) C dX12_tried_10 rfl 2 rfl ?_
    refine g_iconst (pc := 11) (v := 0) C dX12_tried_11 (by decide) ?_
    refine g_iconst (pc := 12) (v := 1) C dX12_tried_12 (by decide) ?_
    obtain ⟨u2, hu2, h⟩ := bs h
    refine g_callS (pc := 13) (st := []) (st1 := [.int u2]) (ws' := (W_X12_tried E o_t a_t t_toldDoors t_barredDoors t_taped t_place0 t_length0 t_fault t_number0 t_open t_codeMany t_waiting t_saidMany t_clauses t_newMany t_rounds t_pinFrom t_pinTimes t_lines t_wasTold t_wasBarred t_goesNow t_jamsNow t_queued t_isKept t_now t_aside t_prongsOf t_oneOf t_otherOf t_wardsOf t_codes t_clauseOf t_codeFrom t_codeHalf t_codeTo t_stack t_facts)) C mv_X12_in ms_X12_in ml_X12_117 (c_X12_in X.2.1 E x2 (0 : Int32) (1 : Int32) u2 hu2) dX12_tried_13 (by decide) rfl (Nat.le_of_ble_eq_true rfl) [] rfl (by decide) rfl rfl rfl rfl ?_
    refine g_jn (fun s3 : Unit => Gx X E 0 0 (W_X12_tried E o_t a_t t_toldDoors t_barredDoors t_taped t_place0 t_length0 t_fault t_number0 t_open t_codeMany t_waiting t_saidMany t_clauses t_newMany t_rounds t_pinFrom t_pinTimes t_lines t_wasTold t_wasBarred t_goesNow t_jamsNow t_queued t_isKept t_now t_aside t_prongsOf t_oneOf t_otherOf t_wardsOf t_codes t_clauseOf t_codeFrom t_codeHalf t_codeTo t_stack t_facts) 43 [(0, .ref o_t), (1, .int x1), (2, .int x2)] []) h (fun s3 h => ?_) (fun j43 hj43 h => ?_)
    · refine g_aload_n (pc := 43) C dX12_tried_43 rfl 0 rfl ?_
      refine g_get (pc := 44) C fl_X12_7 dX12_tried_44 0 rfl rfl ?_
      refine g_aload_n (pc := 47) C dX12_tried_47 rfl 0 rfl ?_
      refine g_get (pc := 48) C fl_X12_13 dX12_tried_48 0 rfl rfl ?_
      obtain ⟨u4, hu4, h⟩ := bs h
      refine g_callS (pc := 51) (st := []) (st1 := []) (ws' := (W_X12_tried E o_t a_t t_toldDoors t_barredDoors t_taped t_place0 t_length0 t_fault t_number0 t_open t_codeMany t_waiting t_saidMany t_clauses t_newMany t_rounds t_pinFrom t_pinTimes t_lines t_wasTold t_wasBarred t_goesNow t_jamsNow t_queued t_isKept t_now u4 t_prongsOf t_oneOf t_otherOf t_wardsOf t_codes t_clauseOf t_codeFrom t_codeHalf t_codeTo t_stack t_facts)) C mv_X12_copies ms_X12_copies ml_X12_298 (c_X12_copies X.2.1 E (a_t 0) 166 (a_t 1) 166 t_now t_aside u4 hu4) dX12_tried_51 (by decide) rfl (Nat.le_of_ble_eq_true rfl) [1, 2] rfl (by decide) rfl rfl rfl rfl ?_
      refine g_aload_n (pc := 54) C dX12_tried_54 rfl 0 rfl ?_
      refine g_iload_n (pc := 55) C dX12_tried_55 rfl 1 rfl ?_
      obtain ⟨u5, hu5, h⟩ := bs h
      refine g_callV (pc := 56) (st := []) (st1 := []) (ws' := (W_X12_tried E o_t a_t t_toldDoors t_barredDoors t_taped t_place0 t_length0 t_fault t_number0 t_open t_codeMany t_waiting t_saidMany t_clauses t_newMany t_rounds t_pinFrom t_pinTimes t_lines t_wasTold t_wasBarred u5.1 u5.2.1 t_queued t_isKept u5.2.2.1 u4 t_prongsOf t_oneOf t_otherOf t_wardsOf t_codes t_clauseOf t_codeFrom t_codeHalf t_codeTo u5.2.2.2.1 u5.2.2.2.2)) C mv_X12_roundsGo mi_X12_roundsGo ml_X12_357 (c_X12_roundsGo X.2.1 E o_t a_t t_toldDoors t_barredDoors t_taped t_place0 t_length0 t_fault t_number0 t_open t_codeMany t_waiting t_saidMany t_clauses t_newMany t_rounds t_pinFrom t_pinTimes t_lines t_wasTold t_wasBarred t_goesNow t_jamsNow t_queued t_isKept t_now t_prongsOf t_oneOf t_otherOf t_wardsOf t_codes t_clauseOf t_codeFrom t_codeHalf t_codeTo t_stack t_facts x1 u5 hu5) dX12_tried_56 (by decide) rfl (Nat.le_of_ble_eq_true rfl) 0 11 rfl rfl [0, 1, 3, 4, 5, 6, 7, 8, 9, 10, 11, 12, 13] rfl (by decide) rfl rfl rfl rfl ?_
      refine g_iload_n (pc := 59) C dX12_tried_59 rfl 2 rfl ?_
      refine g_jn (fun s6 : Int32 => Gx X E 0 0 (W_X12_tried E o_t a_t t_toldDoors t_barredDoors t_taped t_place0 t_length0 t_fault t_number0 t_open t_codeMany t_waiting t_saidMany t_clauses t_newMany t_rounds t_pinFrom t_pinTimes t_lines t_wasTold t_wasBarred u5.1 u5.2.1 t_queued t_isKept u5.2.2.1 u4 t_prongsOf t_oneOf t_otherOf t_wardsOf t_codes t_clauseOf t_codeFrom t_codeHalf t_codeTo u5.2.2.2.1 u5.2.2.2.2) 111 [(0, .ref o_t)] [.int s6]) h (fun s6 h => ?_) (fun j111 hj111 h => ?_)
      · refine g_istore_n (pc := 111) (lv' := [(3, .int s6), (0, .ref o_t)]) C dX12_tried_111 rfl (by decide) rfl ?_
        refine g_aload_n (pc := 112) C dX12_tried_112 rfl 1 rfl ?_
        refine g_get (pc := 113) C fl_X12_13 dX12_tried_113 0 rfl rfl ?_
        refine g_aload_n (pc := 116) C dX12_tried_116 rfl 1 rfl ?_
        refine g_get (pc := 117) C fl_X12_7 dX12_tried_117 0 rfl rfl ?_
        obtain ⟨u7, hu7, h⟩ := bs h
        refine g_callS (pc := 120) (st := []) (st1 := []) (ws' := (W_X12_tried E o_t a_t t_toldDoors t_barredDoors t_taped t_place0 t_length0 t_fault t_number0 t_open t_codeMany t_waiting t_saidMany t_clauses t_newMany t_rounds t_pinFrom t_pinTimes t_lines t_wasTold t_wasBarred u5.1 u5.2.1 t_queued t_isKept u7 u4 t_prongsOf t_oneOf t_otherOf t_wardsOf t_codes t_clauseOf t_codeFrom t_codeHalf t_codeTo u5.2.2.2.1 u5.2.2.2.2)) C mv_X12_copies ms_X12_copies ml_X12_298 (c_X12_copies X.2.1 E (a_t 1) 166 (a_t 0) 166 u4 u5.2.2.1 u7 hu7) dX12_tried_120 (by decide) rfl (Nat.le_of_ble_eq_true rfl) [2, 1] rfl (by decide) rfl rfl rfl rfl ?_
        refine g_iload_n (pc := 123) C dX12_tried_123 rfl 0 rfl ?_
        cases h
        exact hret _ _ _ dX12_tried_124 rfl rfl
      refine g_if_ne (pc := 60) (tgt := 70) C dX12_tried_60 (by decide) h (fun h => ?_) (fun h => ?_)
      · refine g_iload_n (pc := 70) C dX12_tried_70 rfl 2 rfl ?_
        refine g_iconst (pc := 71) (v := 1) C dX12_tried_71 (by decide) ?_
        refine g_icmp_ne (pc := 72) (tgt := 82) C dX12_tried_72 (by decide) h (fun h => ?_) (fun h => ?_)
        · refine g_iload_n (pc := 82) C dX12_tried_82 rfl 2 rfl ?_
          refine g_bipush (pc := 83) (v := 30) C dX12_tried_83 (by decide) ?_
          refine g_icmp_ge (pc := 85) (tgt := 103) C dX12_tried_85 (by decide) h (fun h => ?_) (fun h => ?_)
          · refine g_aload_n (pc := 103) C dX12_tried_103 rfl 0 rfl ?_
            refine g_iload_n (pc := 104) C dX12_tried_104 rfl 2 rfl ?_
            refine g_bipush (pc := 105) (v := 30) C dX12_tried_105 (by decide) ?_
            refine g_isub (pc := 107) C dX12_tried_107 ?_
            obtain ⟨u8, hu8, h⟩ := bs h
            refine g_callV (pc := 108) (st := []) (st1 := [.int u8]) (ws' := (W_X12_tried E o_t a_t t_toldDoors t_barredDoors t_taped t_place0 t_length0 t_fault t_number0 t_open t_codeMany t_waiting t_saidMany t_clauses t_newMany t_rounds t_pinFrom t_pinTimes t_lines t_wasTold t_wasBarred u5.1 u5.2.1 t_queued t_isKept u5.2.2.1 u4 t_prongsOf t_oneOf t_otherOf t_wardsOf t_codes t_clauseOf t_codeFrom t_codeHalf t_codeTo u5.2.2.2.1 u5.2.2.2.2)) C mv_X12_pinsOf mi_X12_pinsOf ml_X12_311 (c_X12_pinsOf X.2.1 E o_t a_t t_toldDoors t_barredDoors t_taped t_place0 t_length0 t_fault t_number0 t_open t_codeMany t_waiting t_saidMany t_clauses t_newMany t_rounds t_pinFrom t_pinTimes t_lines t_wasTold t_wasBarred u5.1 u5.2.1 t_queued t_isKept u5.2.2.1 (x2 - (30 : Int32)) u8 hu8) dX12_tried_108 (by decide) rfl (Nat.le_of_ble_eq_true rfl) 0 11 rfl rfl [0, 1] rfl (by decide) rfl rfl rfl rfl ?_
            refine g_sub [0] rfl ?_
            exact hj111 _ h
          · refine g_aload_n (pc := 88) C dX12_tried_88 rfl 0 rfl ?_
            refine g_get (pc := 89) C fl_X12_7 dX12_tried_89 0 rfl rfl ?_
            refine g_bipush (pc := 92) (v := 34) C dX12_tried_92 (by decide) ?_
            refine g_iload_n (pc := 94) C dX12_tried_94 rfl 2 rfl ?_
            refine g_iadd (pc := 95) C dX12_tried_95 ?_
            refine g_bipush (pc := 96) (v := 10) C dX12_tried_96 (by decide) ?_
            refine g_isub (pc := 98) C dX12_tried_98 ?_
            refine g_iald (pc := 99) C dX12_tried_99 1 rfl h (fun v9 h => ?_)
            refine g_goto (pc := 100) (tgt := 111) C dX12_tried_100 (by decide) ?_
            refine g_sub [0] rfl ?_
            exact hj111 _ h
        · refine g_aload_n (pc := 75) C dX12_tried_75 rfl 0 rfl ?_
          refine g_get (pc := 76) C fl_X12_348 dX12_tried_76 0 rfl rfl ?_
          refine g_goto (pc := 79) (tgt := 111) C dX12_tried_79 (by decide) ?_
          refine g_sub [0] rfl ?_
          exact hj111 _ h
      · refine g_aload_n (pc := 63) C dX12_tried_63 rfl 0 rfl ?_
        refine g_get (pc := 64) C fl_X12_351 dX12_tried_64 0 rfl rfl ?_
        refine g_goto (pc := 67) (tgt := 111) C dX12_tried_67 (by decide) ?_
        refine g_sub [0] rfl ?_
        exact hj111 _ h
    refine g_if_ne (pc := 16) (tgt := 43) C dX12_tried_16 (by decide) h (fun h => ?_) (fun h => ?_)
    · exact hj43 _ h
    · refine g_aload_n (pc := 19) C dX12_tried_19 rfl 0 rfl ?_
      refine g_iload_n (pc := 20) C dX12_tried_20 rfl 2 rfl ?_
      refine g_bipush (pc := 21) (v := 10) C dX12_tried_21 (by decide) ?_
      refine g_isub (pc := 23) C dX12_tried_23 ?_
      obtain ⟨u10, hu10, h⟩ := bs h
      refine g_callV (pc := 24) (st := []) (st1 := [.int u10]) (ws' := (W_X12_tried E o_t a_t t_toldDoors t_barredDoors t_taped t_place0 t_length0 t_fault t_number0 t_open t_codeMany t_waiting t_saidMany t_clauses t_newMany t_rounds t_pinFrom t_pinTimes t_lines t_wasTold t_wasBarred t_goesNow t_jamsNow t_queued t_isKept t_now t_aside t_prongsOf t_oneOf t_otherOf t_wardsOf t_codes t_clauseOf t_codeFrom t_codeHalf t_codeTo t_stack t_facts)) C mv_X12_isWoman mi_X12_isWoman ml_X12_268 (c_X12_isWoman X.2.1 E o_t a_t t_toldDoors t_barredDoors t_taped t_place0 t_length0 t_fault t_number0 t_open t_codeMany t_waiting t_saidMany t_clauses t_newMany t_rounds t_pinFrom t_pinTimes t_lines t_wasTold t_wasBarred t_goesNow t_jamsNow t_queued t_isKept t_now (x2 - (10 : Int32)) u10 hu10) dX12_tried_24 (by decide) rfl (Nat.le_of_ble_eq_true rfl) 0 11 rfl rfl [0, 1] rfl (by decide) rfl rfl rfl rfl ?_
      refine g_if_ne (pc := 27) (tgt := 43) C dX12_tried_27 (by decide) h (fun h => ?_) (fun h => ?_)
      · exact hj43 _ h
      · refine g_aload_n (pc := 30) C dX12_tried_30 rfl 0 rfl ?_
        refine g_iload_n (pc := 31) C dX12_tried_31 rfl 2 rfl ?_
        refine g_bipush (pc := 32) (v := 30) C dX12_tried_32 (by decide) ?_
        refine g_isub (pc := 34) C dX12_tried_34 ?_
        obtain ⟨u11, hu11, h⟩ := bs h
        refine g_callV (pc := 35) (st := []) (st1 := [.int u11]) (ws' := (W_X12_tried E o_t a_t t_toldDoors t_barredDoors t_taped t_place0 t_length0 t_fault t_number0 t_open t_codeMany t_waiting t_saidMany t_clauses t_newMany t_rounds t_pinFrom t_pinTimes t_lines t_wasTold t_wasBarred t_goesNow t_jamsNow t_queued t_isKept t_now t_aside t_prongsOf t_oneOf t_otherOf t_wardsOf t_codes t_clauseOf t_codeFrom t_codeHalf t_codeTo t_stack t_facts)) C mv_X12_isWoman mi_X12_isWoman ml_X12_268 (c_X12_isWoman X.2.1 E o_t a_t t_toldDoors t_barredDoors t_taped t_place0 t_length0 t_fault t_number0 t_open t_codeMany t_waiting t_saidMany t_clauses t_newMany t_rounds t_pinFrom t_pinTimes t_lines t_wasTold t_wasBarred t_goesNow t_jamsNow t_queued t_isKept t_now (x2 - (30 : Int32)) u11 hu11) dX12_tried_35 (by decide) rfl (Nat.le_of_ble_eq_true rfl) 0 11 rfl rfl [0, 1] rfl (by decide) rfl rfl rfl rfl ?_
        refine g_if_ne (pc := 38) (tgt := 43) C dX12_tried_38 (by decide) h (fun h => ?_) (fun h => ?_)
        · exact hj43 _ h
        · refine g_iconst (pc := 41) (v := -1) C dX12_tried_41 (by decide) ?_
          cases h
          exact hret _ _ _ dX12_tried_42 rfl rfl
abbrev W_X12_law (E : GE) (O_t : Nat) (a_t : Nat → Nat) (t_toldDoors : Int32) (t_barredDoors : Int32) (t_taped : Int32) (t_place0 : Int32) (t_length0 : Int32) (t_fault : Int32) (t_number0 : Int32) (t_open : Int32) (t_codeMany : Int32) (t_waiting : Int32) (t_saidMany : Int32) (t_clauses : Int32) (t_newMany : Int32) (t_rounds : Int32) (t_pinFrom : Int32) (t_pinTimes : Int32) (t_lines : Int32) (t_wasTold : Int32) (t_wasBarred : Int32) (t_goesNow : Int32) (t_jamsNow : Int32) (t_queued : Int32) (t_isKept : Int32) (t_tape : (Nat → Int32)) (t_said : (Nat → Int32)) (t_waitsAt : (Nat → Int32)) (t_saidLetter : (Nat → Int32)) (t_saidFrom : (Nat → Int32)) (t_saidHalf : (Nat → Int32)) (t_saidTo : (Nat → Int32)) (t_codes : (Nat → Int32)) (t_clauseOf : (Nat → Int32)) (t_codeFrom : (Nat → Int32)) (t_codeHalf : (Nat → Int32)) (t_codeTo : (Nat → Int32)) : va_W := [(O_t, ob_X12 a_t t_toldDoors t_barredDoors t_taped t_place0 t_length0 t_fault t_number0 t_open t_codeMany t_waiting t_saidMany t_clauses t_newMany t_rounds t_pinFrom t_pinTimes t_lines t_wasTold t_wasBarred t_goesNow t_jamsNow t_queued t_isKept), (a_t 13, .inl (E.2.2.1, 260, .inl t_tape)), (a_t 24, .inl (E.2.1, 260, .inl t_said)), (a_t 25, .inl (E.2.1, 260, .inl t_waitsAt)), (a_t 26, .inl (E.2.1, 16, .inl t_saidLetter)), (a_t 27, .inl (E.2.1, 16, .inl t_saidFrom)), (a_t 28, .inl (E.2.1, 16, .inl t_saidHalf)), (a_t 29, .inl (E.2.1, 16, .inl t_saidTo)), (a_t 30, .inl (E.2.1, 260, .inl t_codes)), (a_t 31, .inl (E.2.1, 16, .inl t_clauseOf)), (a_t 32, .inl (E.2.1, 16, .inl t_codeFrom)), (a_t 33, .inl (E.2.1, 16, .inl t_codeHalf)), (a_t 34, .inl (E.2.1, 16, .inl t_codeTo))]
def L_X12_law_31 (t_taped : Int32) (t_length0 : Int32) (t_clauses : Int32) (t_tape : (Nat → Int32)) (t_codes : (Nat → Int32)) (t_clauseOf : (Nat → Int32)) (t_codeFrom : (Nat → Int32)) (t_codeHalf : (Nat → Int32)) (t_codeTo : (Nat → Int32)) (k0 : Int32 × Int32 × Int32 × Int32 × Int32 × Int32 × Int32 × Int32 × (Nat → Int32) × (Nat → Int32) × (Nat → Int32) × (Nat → Int32) × (Nat → Int32) × (Nat → Int32) → Option (Int32 × Int32 × Int32 × Int32 × Int32 × Int32 × Int32 × Int32 × Int32 × Int32 × Int32 × (Nat → Int32) × (Nat → Int32) × (Nat → Int32) × (Nat → Int32) × (Nat → Int32) × (Nat → Int32) × (Nat → Int32) × (Nat → Int32) × (Nat → Int32) × (Nat → Int32) × (Nat → Int32))) : Nat → Int32 × Int32 × Int32 × Int32 × Int32 × Int32 × Int32 × Int32 × (Nat → Int32) × (Nat → Int32) × (Nat → Int32) × (Nat → Int32) × (Nat → Int32) × (Nat → Int32) → Option (Int32 × Int32 × Int32 × Int32 × Int32 × Int32 × Int32 × Int32 × Int32 × Int32 × Int32 × (Nat → Int32) × (Nat → Int32) × (Nat → Int32) × (Nat → Int32) × (Nat → Int32) × (Nat → Int32) × (Nat → Int32) × (Nat → Int32) × (Nat → Int32) × (Nat → Int32) × (Nat → Int32)) := lp fun go s => if s.1 = 0 then (k0 (s.1, s.2.1, s.2.2.1, s.2.2.2.1, s.2.2.2.2.1, s.2.2.2.2.2.1, s.2.2.2.2.2.2.1, s.2.2.2.2.2.2.2.1, s.2.2.2.2.2.2.2.2.1, s.2.2.2.2.2.2.2.2.2.1, s.2.2.2.2.2.2.2.2.2.2.1, s.2.2.2.2.2.2.2.2.2.2.2.1, s.2.2.2.2.2.2.2.2.2.2.2.2.1, s.2.2.2.2.2.2.2.2.2.2.2.2.2)) else if t_length0 ≤ s.2.1 then (k0 (s.1, s.2.1, s.2.2.1, s.2.2.2.1, s.2.2.2.2.1, s.2.2.2.2.2.1, s.2.2.2.2.2.2.1, s.2.2.2.2.2.2.2.1, s.2.2.2.2.2.2.2.2.1, s.2.2.2.2.2.2.2.2.2.1, s.2.2.2.2.2.2.2.2.2.2.1, s.2.2.2.2.2.2.2.2.2.2.2.1, s.2.2.2.2.2.2.2.2.2.2.2.2.1, s.2.2.2.2.2.2.2.2.2.2.2.2.2)) else (f_X12_takes s.2.1 t_length0 s.2.2.1 t_tape (59 : Int32)).bind fun u4 => if u4.1 = 0 then (go ((0 : Int32), u4.2.1, u4.2.2, s.2.2.2.1, s.2.2.2.2.1, s.2.2.2.2.2.1, s.2.2.2.2.2.2.1, s.2.2.2.2.2.2.2.1, s.2.2.2.2.2.2.2.2.1, s.2.2.2.2.2.2.2.2.2.1, s.2.2.2.2.2.2.2.2.2.2.1, s.2.2.2.2.2.2.2.2.2.2.2.1, s.2.2.2.2.2.2.2.2.2.2.2.2.1, s.2.2.2.2.2.2.2.2.2.2.2.2.2)) else (f_X12_readsRule u4.2.1 t_length0 u4.2.2 s.2.2.2.1 s.2.2.2.2.1 s.2.2.2.2.2.1 s.2.2.2.2.2.2.1 s.2.2.2.2.2.2.2.1 t_tape s.2.2.2.2.2.2.2.2.1 s.2.2.2.2.2.2.2.2.2.1 s.2.2.2.2.2.2.2.2.2.2.1 s.2.2.2.2.2.2.2.2.2.2.2.1 s.2.2.2.2.2.2.2.2.2.2.2.2.1 s.2.2.2.2.2.2.2.2.2.2.2.2.2).bind fun u5 => if u5.1 = 0 then (go ((0 : Int32), u5.2.1, u5.2.2.1, u5.2.2.2.1, u5.2.2.2.2.1, u5.2.2.2.2.2.1, u5.2.2.2.2.2.2.1, u5.2.2.2.2.2.2.2.1, u5.2.2.2.2.2.2.2.2.1, u5.2.2.2.2.2.2.2.2.2.1, u5.2.2.2.2.2.2.2.2.2.2.1, u5.2.2.2.2.2.2.2.2.2.2.2.1, u5.2.2.2.2.2.2.2.2.2.2.2.2.1, u5.2.2.2.2.2.2.2.2.2.2.2.2.2)) else go ((1 : Int32), u5.2.1, u5.2.2.1, u5.2.2.2.1, u5.2.2.2.2.1, u5.2.2.2.2.2.1, u5.2.2.2.2.2.2.1, u5.2.2.2.2.2.2.2.1, u5.2.2.2.2.2.2.2.2.1, u5.2.2.2.2.2.2.2.2.2.1, u5.2.2.2.2.2.2.2.2.2.2.1, u5.2.2.2.2.2.2.2.2.2.2.2.1, u5.2.2.2.2.2.2.2.2.2.2.2.2.1, u5.2.2.2.2.2.2.2.2.2.2.2.2.2)
def L_X12_law_95 (t_taped : Int32) (t_place0 : Int32) (t_length0 : Int32) (t_fault : Int32) (t_number0 : Int32) (t_open : Int32) (t_codeMany : Int32) (t_waiting : Int32) (t_saidMany : Int32) (t_clauses : Int32) (t_tape : (Nat → Int32)) (t_said : (Nat → Int32)) (t_waitsAt : (Nat → Int32)) (t_saidLetter : (Nat → Int32)) (t_saidFrom : (Nat → Int32)) (t_saidHalf : (Nat → Int32)) (t_saidTo : (Nat → Int32)) (t_clauseOf : (Nat → Int32)) (t_codeFrom : (Nat → Int32)) (t_codeHalf : (Nat → Int32)) (t_codeTo : (Nat → Int32)) (k0 : (Nat → Int32) → Option (Int32 × Int32 × Int32 × Int32 × Int32 × Int32 × Int32 × Int32 × Int32 × Int32 × Int32 × (Nat → Int32) × (Nat → Int32) × (Nat → Int32) × (Nat → Int32) × (Nat → Int32) × (Nat → Int32) × (Nat → Int32) × (Nat → Int32) × (Nat → Int32) × (Nat → Int32) × (Nat → Int32))) : Nat → Int32 × (Nat → Int32) → Option (Int32 × Int32 × Int32 × Int32 × Int32 × Int32 × Int32 × Int32 × Int32 × Int32 × Int32 × (Nat → Int32) × (Nat → Int32) × (Nat → Int32) × (Nat → Int32) × (Nat → Int32) × (Nat → Int32) × (Nat → Int32) × (Nat → Int32) × (Nat → Int32) × (Nat → Int32) × (Nat → Int32)) := lp fun go s => if t_codeMany ≤ s.1 then (k0 s.2) else rd t_said 260 s.1 fun v7 => wr s.2 260 s.1 v7 fun g8 => nm (s.1 + (1 : Int32)) fun v9 => go (v9, g8)
def L_X12_law_123 (t_taped : Int32) (t_place0 : Int32) (t_length0 : Int32) (t_fault : Int32) (t_number0 : Int32) (t_open : Int32) (t_codeMany : Int32) (t_waiting : Int32) (t_saidMany : Int32) (t_clauses : Int32) (t_tape : (Nat → Int32)) (t_said : (Nat → Int32)) (t_waitsAt : (Nat → Int32)) (t_saidLetter : (Nat → Int32)) (t_saidFrom : (Nat → Int32)) (t_saidHalf : (Nat → Int32)) (t_saidTo : (Nat → Int32)) (t_codes : (Nat → Int32)) : Nat → Int32 × (Nat → Int32) × (Nat → Int32) × (Nat → Int32) × (Nat → Int32) → Option (Int32 × Int32 × Int32 × Int32 × Int32 × Int32 × Int32 × Int32 × Int32 × Int32 × Int32 × (Nat → Int32) × (Nat → Int32) × (Nat → Int32) × (Nat → Int32) × (Nat → Int32) × (Nat → Int32) × (Nat → Int32) × (Nat → Int32) × (Nat → Int32) × (Nat → Int32) × (Nat → Int32)) := lp fun go s => if t_saidMany ≤ s.1 then (some (t_saidMany, t_taped, t_place0, t_length0, t_fault, t_number0, t_open, t_codeMany, t_waiting, t_saidMany, t_clauses, t_said, t_waitsAt, t_saidLetter, t_saidFrom, t_saidHalf, t_saidTo, t_codes, s.2.1, s.2.2.1, s.2.2.2.1, s.2.2.2.2)) else rd t_saidLetter 16 s.1 fun v11 => wr s.2.1 16 s.1 v11 fun g12 => rd t_saidFrom 16 s.1 fun v13 => wr s.2.2.1 16 s.1 v13 fun g14 => rd t_saidHalf 16 s.1 fun v15 => wr s.2.2.2.1 16 s.1 v15 fun g16 => rd t_saidTo 16 s.1 fun v17 => wr s.2.2.2.2 16 s.1 v17 fun g18 => nm (s.1 + (1 : Int32)) fun v19 => go (v19, g12, g14, g16, g18)
def f_X12_law (t_taped : Int32) (t_place0 : Int32) (t_length0 : Int32) (t_fault : Int32) (t_number0 : Int32) (t_open : Int32) (t_codeMany : Int32) (t_waiting : Int32) (t_saidMany : Int32) (t_clauses : Int32) (t_tape : (Nat → Int32)) (t_said : (Nat → Int32)) (t_waitsAt : (Nat → Int32)) (t_saidLetter : (Nat → Int32)) (t_saidFrom : (Nat → Int32)) (t_saidHalf : (Nat → Int32)) (t_saidTo : (Nat → Int32)) (t_codes : (Nat → Int32)) (t_clauseOf : (Nat → Int32)) (t_codeFrom : (Nat → Int32)) (t_codeHalf : (Nat → Int32)) (t_codeTo : (Nat → Int32)) (x1 : Int32) : Option (Int32 × Int32 × Int32 × Int32 × Int32 × Int32 × Int32 × Int32 × Int32 × Int32 × Int32 × (Nat → Int32) × (Nat → Int32) × (Nat → Int32) × (Nat → Int32) × (Nat → Int32) × (Nat → Int32) × (Nat → Int32) × (Nat → Int32) × (Nat → Int32) × (Nat → Int32) × (Nat → Int32)) := (f_X12_in x1 (1 : Int32) (240 : Int32)).bind fun u1 => if u1 = 0 then (some ((-1 : Int32), t_taped, t_place0, t_length0, t_fault, t_number0, t_open, t_codeMany, t_waiting, t_saidMany, t_clauses, t_said, t_waitsAt, t_saidLetter, t_saidFrom, t_saidHalf, t_saidTo, t_codes, t_clauseOf, t_codeFrom, t_codeHalf, t_codeTo)) else if x1 ≤ t_taped then ((f_X12_beginsText t_place0 t_length0 t_codeMany t_saidMany x1).bind fun u2 => (f_X12_readsRule u2.1 u2.2.1 t_fault t_number0 t_open u2.2.2.1 t_waiting u2.2.2.2 t_tape t_said t_waitsAt t_saidLetter t_saidFrom t_saidHalf t_saidTo).bind fun u3 => L_X12_law_31 t_taped u2.2.1 t_clauses t_tape t_codes t_clauseOf t_codeFrom t_codeHalf t_codeTo (fun s6 => if s6.1 = 0 then (some (s6.2.2.1, (0 : Int32), s6.2.1, u2.2.1, s6.2.2.1, s6.2.2.2.1, s6.2.2.2.2.1, s6.2.2.2.2.2.1, s6.2.2.2.2.2.2.1, s6.2.2.2.2.2.2.2.1, t_clauses, s6.2.2.2.2.2.2.2.2.1, s6.2.2.2.2.2.2.2.2.2.1, s6.2.2.2.2.2.2.2.2.2.2.1, s6.2.2.2.2.2.2.2.2.2.2.2.1, s6.2.2.2.2.2.2.2.2.2.2.2.2.1, s6.2.2.2.2.2.2.2.2.2.2.2.2.2, t_codes, t_clauseOf, t_codeFrom, t_codeHalf, t_codeTo)) else L_X12_law_95 (0 : Int32) s6.2.1 u2.2.1 s6.2.2.1 s6.2.2.2.1 s6.2.2.2.2.1 s6.2.2.2.2.2.1 s6.2.2.2.2.2.2.1 s6.2.2.2.2.2.2.2.1 s6.2.2.2.2.2.2.2.1 t_tape s6.2.2.2.2.2.2.2.2.1 s6.2.2.2.2.2.2.2.2.2.1 s6.2.2.2.2.2.2.2.2.2.2.1 s6.2.2.2.2.2.2.2.2.2.2.2.1 s6.2.2.2.2.2.2.2.2.2.2.2.2.1 s6.2.2.2.2.2.2.2.2.2.2.2.2.2 t_clauseOf t_codeFrom t_codeHalf t_codeTo (fun s10 => L_X12_law_123 (0 : Int32) s6.2.1 u2.2.1 s6.2.2.1 s6.2.2.2.1 s6.2.2.2.2.1 s6.2.2.2.2.2.1 s6.2.2.2.2.2.2.1 s6.2.2.2.2.2.2.2.1 s6.2.2.2.2.2.2.2.1 t_tape s6.2.2.2.2.2.2.2.2.1 s6.2.2.2.2.2.2.2.2.2.1 s6.2.2.2.2.2.2.2.2.2.2.1 s6.2.2.2.2.2.2.2.2.2.2.2.1 s6.2.2.2.2.2.2.2.2.2.2.2.2.1 s6.2.2.2.2.2.2.2.2.2.2.2.2.2 s10 fu ((0 : Int32), t_clauseOf, t_codeFrom, t_codeHalf, t_codeTo)) fu ((0 : Int32), t_codes)) fu (u3.1, u3.2.1, u3.2.2.1, u3.2.2.2.1, u3.2.2.2.2.1, u3.2.2.2.2.2.1, u3.2.2.2.2.2.2.1, u3.2.2.2.2.2.2.2.1, u3.2.2.2.2.2.2.2.2.1, u3.2.2.2.2.2.2.2.2.2.1, u3.2.2.2.2.2.2.2.2.2.2.1, u3.2.2.2.2.2.2.2.2.2.2.2.1, u3.2.2.2.2.2.2.2.2.2.2.2.2.1, u3.2.2.2.2.2.2.2.2.2.2.2.2.2)) else some ((-1 : Int32), t_taped, t_place0, t_length0, t_fault, t_number0, t_open, t_codeMany, t_waiting, t_saidMany, t_clauses, t_said, t_waitsAt, t_saidLetter, t_saidFrom, t_saidHalf, t_saidTo, t_codes, t_clauseOf, t_codeFrom, t_codeHalf, t_codeTo)
theorem dX12_law_0 : decode cX12_law 0 = .ok (.iload_n 1, 1) := by decide +kernel
theorem dX12_law_1 : decode cX12_law 1 = .ok (.iconst 1, 1) := by decide +kernel
theorem dX12_law_2 : decode cX12_law 2 = .ok (.sipush 240, 3) := by decide +kernel
theorem dX12_law_5 : decode cX12_law 5 = .ok (.invokestatic 117, 3) := by decide +kernel
theorem dX12_law_8 : decode cX12_law 8 = .ok (.ifCond .eq 11, 3) := by decide +kernel
theorem dX12_law_11 : decode cX12_law 11 = .ok (.iload_n 1, 1) := by decide +kernel
theorem dX12_law_12 : decode cX12_law 12 = .ok (.aload_n 0, 1) := by decide +kernel
theorem dX12_law_13 : decode cX12_law 13 = .ok (.getfield 139, 3) := by decide +kernel
theorem dX12_law_16 : decode cX12_law 16 = .ok (.if_icmp .le 5, 3) := by decide +kernel
theorem dX12_law_19 : decode cX12_law 19 = .ok (.iconst (-1), 1) := by decide +kernel
theorem dX12_law_20 : decode cX12_law 20 = .ok (.ireturn, 1) := by decide +kernel
theorem dX12_law_21 : decode cX12_law 21 = .ok (.aload_n 0, 1) := by decide +kernel
theorem dX12_law_22 : decode cX12_law 22 = .ok (.iload_n 1, 1) := by decide +kernel
theorem dX12_law_23 : decode cX12_law 23 = .ok (.invokevirtual 230, 3) := by decide +kernel
theorem dX12_law_26 : decode cX12_law 26 = .ok (.aload_n 0, 1) := by decide +kernel
theorem dX12_law_27 : decode cX12_law 27 = .ok (.invokevirtual 233, 3) := by decide +kernel
theorem dX12_law_30 : decode cX12_law 30 = .ok (.istore_n 2, 1) := by decide +kernel
theorem dX12_law_31 : decode cX12_law 31 = .ok (.iload_n 2, 1) := by decide +kernel
theorem dX12_law_32 : decode cX12_law 32 = .ok (.ifCond .eq 39, 3) := by decide +kernel
theorem dX12_law_35 : decode cX12_law 35 = .ok (.aload_n 0, 1) := by decide +kernel
theorem dX12_law_36 : decode cX12_law 36 = .ok (.getfield 146, 3) := by decide +kernel
theorem dX12_law_39 : decode cX12_law 39 = .ok (.aload_n 0, 1) := by decide +kernel
theorem dX12_law_40 : decode cX12_law 40 = .ok (.getfield 149, 3) := by decide +kernel
theorem dX12_law_43 : decode cX12_law 43 = .ok (.if_icmp .ge 28, 3) := by decide +kernel
theorem dX12_law_46 : decode cX12_law 46 = .ok (.aload_n 0, 1) := by decide +kernel
theorem dX12_law_47 : decode cX12_law 47 = .ok (.bipush 59, 2) := by decide +kernel
theorem dX12_law_49 : decode cX12_law 49 = .ok (.invokevirtual 236, 3) := by decide +kernel
theorem dX12_law_52 : decode cX12_law 52 = .ok (.ifCond .eq 14, 3) := by decide +kernel
theorem dX12_law_55 : decode cX12_law 55 = .ok (.aload_n 0, 1) := by decide +kernel
theorem dX12_law_56 : decode cX12_law 56 = .ok (.invokevirtual 233, 3) := by decide +kernel
theorem dX12_law_59 : decode cX12_law 59 = .ok (.ifCond .eq 7, 3) := by decide +kernel
theorem dX12_law_62 : decode cX12_law 62 = .ok (.iconst 1, 1) := by decide +kernel
theorem dX12_law_63 : decode cX12_law 63 = .ok (.goto 4, 3) := by decide +kernel
theorem dX12_law_66 : decode cX12_law 66 = .ok (.iconst 0, 1) := by decide +kernel
theorem dX12_law_67 : decode cX12_law 67 = .ok (.istore_n 2, 1) := by decide +kernel
theorem dX12_law_68 : decode cX12_law 68 = .ok (.goto (-37), 3) := by decide +kernel
theorem dX12_law_71 : decode cX12_law 71 = .ok (.aload_n 0, 1) := by decide +kernel
theorem dX12_law_72 : decode cX12_law 72 = .ok (.iconst 0, 1) := by decide +kernel
theorem dX12_law_73 : decode cX12_law 73 = .ok (.putfield 139, 3) := by decide +kernel
theorem dX12_law_76 : decode cX12_law 76 = .ok (.iload_n 2, 1) := by decide +kernel
theorem dX12_law_77 : decode cX12_law 77 = .ok (.ifCond .ne 8, 3) := by decide +kernel
theorem dX12_law_80 : decode cX12_law 80 = .ok (.aload_n 0, 1) := by decide +kernel
theorem dX12_law_81 : decode cX12_law 81 = .ok (.getfield 156, 3) := by decide +kernel
theorem dX12_law_84 : decode cX12_law 84 = .ok (.ireturn, 1) := by decide +kernel
theorem dX12_law_85 : decode cX12_law 85 = .ok (.aload_n 0, 1) := by decide +kernel
theorem dX12_law_86 : decode cX12_law 86 = .ok (.aload_n 0, 1) := by decide +kernel
theorem dX12_law_87 : decode cX12_law 87 = .ok (.getfield 224, 3) := by decide +kernel
theorem dX12_law_90 : decode cX12_law 90 = .ok (.putfield 239, 3) := by decide +kernel
theorem dX12_law_93 : decode cX12_law 93 = .ok (.iconst 0, 1) := by decide +kernel
theorem dX12_law_94 : decode cX12_law 94 = .ok (.istore_n 3, 1) := by decide +kernel
theorem dX12_law_95 : decode cX12_law 95 = .ok (.iload_n 3, 1) := by decide +kernel
theorem dX12_law_96 : decode cX12_law 96 = .ok (.aload_n 0, 1) := by decide +kernel
theorem dX12_law_97 : decode cX12_law 97 = .ok (.getfield 169, 3) := by decide +kernel
theorem dX12_law_100 : decode cX12_law 100 = .ok (.if_icmp .ge 21, 3) := by decide +kernel
theorem dX12_law_103 : decode cX12_law 103 = .ok (.aload_n 0, 1) := by decide +kernel
theorem dX12_law_104 : decode cX12_law 104 = .ok (.getfield 65, 3) := by decide +kernel
theorem dX12_law_107 : decode cX12_law 107 = .ok (.iload_n 3, 1) := by decide +kernel
theorem dX12_law_108 : decode cX12_law 108 = .ok (.aload_n 0, 1) := by decide +kernel
theorem dX12_law_109 : decode cX12_law 109 = .ok (.getfield 47, 3) := by decide +kernel
theorem dX12_law_112 : decode cX12_law 112 = .ok (.iload_n 3, 1) := by decide +kernel
theorem dX12_law_113 : decode cX12_law 113 = .ok (.iaload, 1) := by decide +kernel
theorem dX12_law_114 : decode cX12_law 114 = .ok (.iastore, 1) := by decide +kernel
theorem dX12_law_115 : decode cX12_law 115 = .ok (.iinc 3 1, 3) := by decide +kernel
theorem dX12_law_118 : decode cX12_law 118 = .ok (.goto (-23), 3) := by decide +kernel
theorem dX12_law_121 : decode cX12_law 121 = .ok (.iconst 0, 1) := by decide +kernel
theorem dX12_law_122 : decode cX12_law 122 = .ok (.istore_n 3, 1) := by decide +kernel
theorem dX12_law_123 : decode cX12_law 123 = .ok (.iload_n 3, 1) := by decide +kernel
theorem dX12_law_124 : decode cX12_law 124 = .ok (.aload_n 0, 1) := by decide +kernel
theorem dX12_law_125 : decode cX12_law 125 = .ok (.getfield 224, 3) := by decide +kernel
theorem dX12_law_128 : decode cX12_law 128 = .ok (.if_icmp .ge 57, 3) := by decide +kernel
theorem dX12_law_131 : decode cX12_law 131 = .ok (.aload_n 0, 1) := by decide +kernel
theorem dX12_law_132 : decode cX12_law 132 = .ok (.getfield 68, 3) := by decide +kernel
theorem dX12_law_135 : decode cX12_law 135 = .ok (.iload_n 3, 1) := by decide +kernel
theorem dX12_law_136 : decode cX12_law 136 = .ok (.aload_n 0, 1) := by decide +kernel
theorem dX12_law_137 : decode cX12_law 137 = .ok (.getfield 53, 3) := by decide +kernel
theorem dX12_law_140 : decode cX12_law 140 = .ok (.iload_n 3, 1) := by decide +kernel
theorem dX12_law_141 : decode cX12_law 141 = .ok (.iaload, 1) := by decide +kernel
theorem dX12_law_142 : decode cX12_law 142 = .ok (.iastore, 1) := by decide +kernel
theorem dX12_law_143 : decode cX12_law 143 = .ok (.aload_n 0, 1) := by decide +kernel
theorem dX12_law_144 : decode cX12_law 144 = .ok (.getfield 71, 3) := by decide +kernel
theorem dX12_law_147 : decode cX12_law 147 = .ok (.iload_n 3, 1) := by decide +kernel
theorem dX12_law_148 : decode cX12_law 148 = .ok (.aload_n 0, 1) := by decide +kernel
theorem dX12_law_149 : decode cX12_law 149 = .ok (.getfield 56, 3) := by decide +kernel
theorem dX12_law_152 : decode cX12_law 152 = .ok (.iload_n 3, 1) := by decide +kernel
theorem dX12_law_153 : decode cX12_law 153 = .ok (.iaload, 1) := by decide +kernel
theorem dX12_law_154 : decode cX12_law 154 = .ok (.iastore, 1) := by decide +kernel
theorem dX12_law_155 : decode cX12_law 155 = .ok (.aload_n 0, 1) := by decide +kernel
theorem dX12_law_156 : decode cX12_law 156 = .ok (.getfield 74, 3) := by decide +kernel
theorem dX12_law_159 : decode cX12_law 159 = .ok (.iload_n 3, 1) := by decide +kernel
theorem dX12_law_160 : decode cX12_law 160 = .ok (.aload_n 0, 1) := by decide +kernel
theorem dX12_law_161 : decode cX12_law 161 = .ok (.getfield 59, 3) := by decide +kernel
theorem dX12_law_164 : decode cX12_law 164 = .ok (.iload_n 3, 1) := by decide +kernel
theorem dX12_law_165 : decode cX12_law 165 = .ok (.iaload, 1) := by decide +kernel
theorem dX12_law_166 : decode cX12_law 166 = .ok (.iastore, 1) := by decide +kernel
theorem dX12_law_167 : decode cX12_law 167 = .ok (.aload_n 0, 1) := by decide +kernel
theorem dX12_law_168 : decode cX12_law 168 = .ok (.getfield 77, 3) := by decide +kernel
theorem dX12_law_171 : decode cX12_law 171 = .ok (.iload_n 3, 1) := by decide +kernel
theorem dX12_law_172 : decode cX12_law 172 = .ok (.aload_n 0, 1) := by decide +kernel
theorem dX12_law_173 : decode cX12_law 173 = .ok (.getfield 62, 3) := by decide +kernel
theorem dX12_law_176 : decode cX12_law 176 = .ok (.iload_n 3, 1) := by decide +kernel
theorem dX12_law_177 : decode cX12_law 177 = .ok (.iaload, 1) := by decide +kernel
theorem dX12_law_178 : decode cX12_law 178 = .ok (.iastore, 1) := by decide +kernel
theorem dX12_law_179 : decode cX12_law 179 = .ok (.iinc 3 1, 3) := by decide +kernel
theorem dX12_law_182 : decode cX12_law 182 = .ok (.goto (-59), 3) := by decide +kernel
theorem dX12_law_185 : decode cX12_law 185 = .ok (.aload_n 0, 1) := by decide +kernel
theorem dX12_law_186 : decode cX12_law 186 = .ok (.getfield 224, 3) := by decide +kernel
theorem dX12_law_189 : decode cX12_law 189 = .ok (.ireturn, 1) := by decide +kernel
set_option maxHeartbeats 4000000 in
set_option maxRecDepth 100000 in
theorem kL_X12_law_31 {X : GC} {E : GE} (C : Cx X E cX12_law RX12 9 4) (o_t : Nat) (a_t : Nat → Nat) (t_toldDoors : Int32) (t_barredDoors : Int32) (t_newMany : Int32) (t_rounds : Int32) (t_pinFrom : Int32) (t_pinTimes : Int32) (t_lines : Int32) (t_wasTold : Int32) (t_wasBarred : Int32) (t_goesNow : Int32) (t_jamsNow : Int32) (t_queued : Int32) (t_isKept : Int32) (t_taped : Int32) (t_length0 : Int32) (t_clauses : Int32) (t_tape : (Nat → Int32)) (t_codes : (Nat → Int32)) (t_clauseOf : (Nat → Int32)) (t_codeFrom : (Nat → Int32)) (t_codeHalf : (Nat → Int32)) (t_codeTo : (Nat → Int32)) (k0 : Int32 × Int32 × Int32 × Int32 × Int32 × Int32 × Int32 × Int32 × (Nat → Int32) × (Nat → Int32) × (Nat → Int32) × (Nat → Int32) × (Nat → Int32) × (Nat → Int32) → Option (Int32 × Int32 × Int32 × Int32 × Int32 × Int32 × Int32 × Int32 × Int32 × Int32 × Int32 × (Nat → Int32) × (Nat → Int32) × (Nat → Int32) × (Nat → Int32) × (Nat → Int32) × (Nat → Int32) × (Nat → Int32) × (Nat → Int32) × (Nat → Int32) × (Nat → Int32) × (Nat → Int32))) {r : Int32 × Int32 × Int32 × Int32 × Int32 × Int32 × Int32 × Int32 × Int32 × Int32 × Int32 × (Nat → Int32) × (Nat → Int32) × (Nat → Int32) × (Nat → Int32) × (Nat → Int32) × (Nat → Int32) × (Nat → Int32) × (Nat → Int32) × (Nat → Int32) × (Nat → Int32) × (Nat → Int32)} (hret : RtI X E cX12_law .int 0 0 (fun w => w = (W_X12_law E o_t a_t t_toldDoors t_barredDoors r.2.1 r.2.2.1 r.2.2.2.1 r.2.2.2.2.1 r.2.2.2.2.2.1 r.2.2.2.2.2.2.1 r.2.2.2.2.2.2.2.1 r.2.2.2.2.2.2.2.2.1 r.2.2.2.2.2.2.2.2.2.1 r.2.2.2.2.2.2.2.2.2.2.1 t_newMany t_rounds t_pinFrom t_pinTimes t_lines t_wasTold t_wasBarred t_goesNow t_jamsNow t_queued t_isKept t_tape r.2.2.2.2.2.2.2.2.2.2.2.1 r.2.2.2.2.2.2.2.2.2.2.2.2.1 r.2.2.2.2.2.2.2.2.2.2.2.2.2.1 r.2.2.2.2.2.2.2.2.2.2.2.2.2.2.1 r.2.2.2.2.2.2.2.2.2.2.2.2.2.2.2.1 r.2.2.2.2.2.2.2.2.2.2.2.2.2.2.2.2.1 r.2.2.2.2.2.2.2.2.2.2.2.2.2.2.2.2.2.1 r.2.2.2.2.2.2.2.2.2.2.2.2.2.2.2.2.2.2.1 r.2.2.2.2.2.2.2.2.2.2.2.2.2.2.2.2.2.2.2.1 r.2.2.2.2.2.2.2.2.2.2.2.2.2.2.2.2.2.2.2.2.1 r.2.2.2.2.2.2.2.2.2.2.2.2.2.2.2.2.2.2.2.2.2)) r.1) (hk0 : ∀ u, k0 u = some r → Gx X E 0 0 (W_X12_law E o_t a_t t_toldDoors t_barredDoors t_taped u.2.1 t_length0 u.2.2.1 u.2.2.2.1 u.2.2.2.2.1 u.2.2.2.2.2.1 u.2.2.2.2.2.2.1 u.2.2.2.2.2.2.2.1 t_clauses t_newMany t_rounds t_pinFrom t_pinTimes t_lines t_wasTold t_wasBarred t_goesNow t_jamsNow t_queued t_isKept t_tape u.2.2.2.2.2.2.2.2.1 u.2.2.2.2.2.2.2.2.2.1 u.2.2.2.2.2.2.2.2.2.2.1 u.2.2.2.2.2.2.2.2.2.2.2.1 u.2.2.2.2.2.2.2.2.2.2.2.2.1 u.2.2.2.2.2.2.2.2.2.2.2.2.2 t_codes t_clauseOf t_codeFrom t_codeHalf t_codeTo) 71 [(0, .ref o_t), (2, .int u.1)] []) : ∀ (n : Nat) (s : Int32 × Int32 × Int32 × Int32 × Int32 × Int32 × Int32 × Int32 × (Nat → Int32) × (Nat → Int32) × (Nat → Int32) × (Nat → Int32) × (Nat → Int32) × (Nat → Int32)), L_X12_law_31 t_taped t_length0 t_clauses t_tape t_codes t_clauseOf t_codeFrom t_codeHalf t_codeTo k0 n s = some r → Gx X E 0 0 (W_X12_law E o_t a_t t_toldDoors t_barredDoors t_taped s.2.1 t_length0 s.2.2.1 s.2.2.2.1 s.2.2.2.2.1 s.2.2.2.2.2.1 s.2.2.2.2.2.2.1 s.2.2.2.2.2.2.2.1 t_clauses t_newMany t_rounds t_pinFrom t_pinTimes t_lines t_wasTold t_wasBarred t_goesNow t_jamsNow t_queued t_isKept t_tape s.2.2.2.2.2.2.2.2.1 s.2.2.2.2.2.2.2.2.2.1 s.2.2.2.2.2.2.2.2.2.2.1 s.2.2.2.2.2.2.2.2.2.2.2.1 s.2.2.2.2.2.2.2.2.2.2.2.2.1 s.2.2.2.2.2.2.2.2.2.2.2.2.2 t_codes t_clauseOf t_codeFrom t_codeHalf t_codeTo) 31 [(0, .ref o_t), (2, .int s.1)] [] := by
  unfold L_X12_law_31
  refine lp_ind _ (fun go ih s h => ?_)
  refine g_iload_n (pc := 31) C dX12_law_31 rfl 1 rfl ?_
  refine g_if_eq (pc := 32) (tgt := 71) C dX12_law_32 (by decide) h (fun h => ?_) (fun h => ?_)
  · exact hk0 _ h
  · refine g_aload_n (pc := 35) C dX12_law_35 rfl 0 rfl ?_
    refine g_get (pc := 36) C fl_X12_146 dX12_law_36 0 rfl rfl ?_
    refine g_aload_n (pc := 39) C dX12_law_39 rfl 0 rfl ?_
    refine g_get (pc := 40) C fl_X12_149 dX12_law_40 0 rfl rfl ?_
    refine g_icmp_ge (pc := 43) (tgt := 71) C dX12_law_43 (by decide) h (fun h => ?_) (fun h => ?_)
    · exact hk0 _ h
    · refine g_aload_n (pc := 46) C dX12_law_46 rfl 0 rfl ?_
      refine g_bipush (pc := 47) (v := 59) C dX12_law_47 (by decide) ?_
      obtain ⟨u4, hu4, h⟩ := bs h
      refine g_callV (pc := 49) (st := []) (st1 := [.int u4.1]) (ws' := (W_X12_law E o_t a_t t_toldDoors t_barredDoors t_taped u4.2.1 t_length0 u4.2.2 s.2.2.2.1 s.2.2.2.2.1 s.2.2.2.2.2.1 s.2.2.2.2.2.2.1 s.2.2.2.2.2.2.2.1 t_clauses t_newMany t_rounds t_pinFrom t_pinTimes t_lines t_wasTold t_wasBarred t_goesNow t_jamsNow t_queued t_isKept t_tape s.2.2.2.2.2.2.2.2.1 s.2.2.2.2.2.2.2.2.2.1 s.2.2.2.2.2.2.2.2.2.2.1 s.2.2.2.2.2.2.2.2.2.2.2.1 s.2.2.2.2.2.2.2.2.2.2.2.2.1 s.2.2.2.2.2.2.2.2.2.2.2.2.2 t_codes t_clauseOf t_codeFrom t_codeHalf t_codeTo)) C mv_X12_takes mi_X12_takes ml_X12_236 (c_X12_takes X.2.1 E o_t a_t t_toldDoors t_barredDoors t_taped s.2.1 t_length0 s.2.2.1 s.2.2.2.1 s.2.2.2.2.1 s.2.2.2.2.2.1 s.2.2.2.2.2.2.1 s.2.2.2.2.2.2.2.1 t_clauses t_newMany t_rounds t_pinFrom t_pinTimes t_lines t_wasTold t_wasBarred t_goesNow t_jamsNow t_queued t_isKept t_tape (59 : Int32) u4 hu4) dX12_law_49 (by decide) rfl (Nat.le_of_ble_eq_true rfl) 0 11 rfl rfl [0, 1] rfl (by decide) rfl rfl rfl rfl ?_
      refine g_if_eq (pc := 52) (tgt := 66) C dX12_law_52 (by decide) h (fun h => ?_) (fun h => ?_)
      · refine g_iconst (pc := 66) (v := 0) C dX12_law_66 (by decide) ?_
        refine g_istore_n (pc := 67) (lv' := [(2, .int (0 : Int32)), (0, .ref o_t)]) C dX12_law_67 rfl (by decide) rfl ?_
        refine g_goto (pc := 68) (tgt := 31) C dX12_law_68 (by decide) ?_
        refine g_sub [1, 0] rfl ?_
        exact ih _ h
      · refine g_aload_n (pc := 55) C dX12_law_55 rfl 0 rfl ?_
        obtain ⟨u5, hu5, h⟩ := bs h
        refine g_callV (pc := 56) (st := []) (st1 := [.int u5.1]) (ws' := (W_X12_law E o_t a_t t_toldDoors t_barredDoors t_taped u5.2.1 t_length0 u5.2.2.1 u5.2.2.2.1 u5.2.2.2.2.1 u5.2.2.2.2.2.1 u5.2.2.2.2.2.2.1 u5.2.2.2.2.2.2.2.1 t_clauses t_newMany t_rounds t_pinFrom t_pinTimes t_lines t_wasTold t_wasBarred t_goesNow t_jamsNow t_queued t_isKept t_tape u5.2.2.2.2.2.2.2.2.1 u5.2.2.2.2.2.2.2.2.2.1 u5.2.2.2.2.2.2.2.2.2.2.1 u5.2.2.2.2.2.2.2.2.2.2.2.1 u5.2.2.2.2.2.2.2.2.2.2.2.2.1 u5.2.2.2.2.2.2.2.2.2.2.2.2.2 t_codes t_clauseOf t_codeFrom t_codeHalf t_codeTo)) C mv_X12_readsRule mi_X12_readsRule ml_X12_233 (c_X12_readsRule X.2.1 E o_t a_t t_toldDoors t_barredDoors t_taped u4.2.1 t_length0 u4.2.2 s.2.2.2.1 s.2.2.2.2.1 s.2.2.2.2.2.1 s.2.2.2.2.2.2.1 s.2.2.2.2.2.2.2.1 t_clauses t_newMany t_rounds t_pinFrom t_pinTimes t_lines t_wasTold t_wasBarred t_goesNow t_jamsNow t_queued t_isKept t_tape s.2.2.2.2.2.2.2.2.1 s.2.2.2.2.2.2.2.2.2.1 s.2.2.2.2.2.2.2.2.2.2.1 s.2.2.2.2.2.2.2.2.2.2.2.1 s.2.2.2.2.2.2.2.2.2.2.2.2.1 s.2.2.2.2.2.2.2.2.2.2.2.2.2 u5 hu5) dX12_law_56 (by decide) rfl (Nat.le_of_ble_eq_true rfl) 0 11 rfl rfl [0, 1, 2, 3, 4, 5, 6, 7] rfl (by decide) rfl rfl rfl rfl ?_
        refine g_if_eq (pc := 59) (tgt := 66) C dX12_law_59 (by decide) h (fun h => ?_) (fun h => ?_)
        · refine g_iconst (pc := 66) (v := 0) C dX12_law_66 (by decide) ?_
          refine g_istore_n (pc := 67) (lv' := [(2, .int (0 : Int32)), (0, .ref o_t)]) C dX12_law_67 rfl (by decide) rfl ?_
          refine g_goto (pc := 68) (tgt := 31) C dX12_law_68 (by decide) ?_
          refine g_sub [1, 0] rfl ?_
          exact ih _ h
        · refine g_iconst (pc := 62) (v := 1) C dX12_law_62 (by decide) ?_
          refine g_goto (pc := 63) (tgt := 67) C dX12_law_63 (by decide) ?_
          refine g_istore_n (pc := 67) (lv' := [(2, .int (1 : Int32)), (0, .ref o_t)]) C dX12_law_67 rfl (by decide) rfl ?_
          refine g_goto (pc := 68) (tgt := 31) C dX12_law_68 (by decide) ?_
          refine g_sub [1, 0] rfl ?_
          exact ih _ h
set_option maxHeartbeats 4000000 in
set_option maxRecDepth 100000 in
theorem kL_X12_law_95 {X : GC} {E : GE} (C : Cx X E cX12_law RX12 9 4) (o_t : Nat) (a_t : Nat → Nat) (t_toldDoors : Int32) (t_barredDoors : Int32) (t_newMany : Int32) (t_rounds : Int32) (t_pinFrom : Int32) (t_pinTimes : Int32) (t_lines : Int32) (t_wasTold : Int32) (t_wasBarred : Int32) (t_goesNow : Int32) (t_jamsNow : Int32) (t_queued : Int32) (t_isKept : Int32) (t_taped : Int32) (t_place0 : Int32) (t_length0 : Int32) (t_fault : Int32) (t_number0 : Int32) (t_open : Int32) (t_codeMany : Int32) (t_waiting : Int32) (t_saidMany : Int32) (t_clauses : Int32) (t_tape : (Nat → Int32)) (t_said : (Nat → Int32)) (t_waitsAt : (Nat → Int32)) (t_saidLetter : (Nat → Int32)) (t_saidFrom : (Nat → Int32)) (t_saidHalf : (Nat → Int32)) (t_saidTo : (Nat → Int32)) (t_clauseOf : (Nat → Int32)) (t_codeFrom : (Nat → Int32)) (t_codeHalf : (Nat → Int32)) (t_codeTo : (Nat → Int32)) (k0 : (Nat → Int32) → Option (Int32 × Int32 × Int32 × Int32 × Int32 × Int32 × Int32 × Int32 × Int32 × Int32 × Int32 × (Nat → Int32) × (Nat → Int32) × (Nat → Int32) × (Nat → Int32) × (Nat → Int32) × (Nat → Int32) × (Nat → Int32) × (Nat → Int32) × (Nat → Int32) × (Nat → Int32) × (Nat → Int32))) {r : Int32 × Int32 × Int32 × Int32 × Int32 × Int32 × Int32 × Int32 × Int32 × Int32 × Int32 × (Nat → Int32) × (Nat → Int32) × (Nat → Int32) × (Nat → Int32) × (Nat → Int32) × (Nat → Int32) × (Nat → Int32) × (Nat → Int32) × (Nat → Int32) × (Nat → Int32) × (Nat → Int32)} (hret : RtI X E cX12_law .int 0 0 (fun w => w = (W_X12_law E o_t a_t t_toldDoors t_barredDoors r.2.1 r.2.2.1 r.2.2.2.1 r.2.2.2.2.1 r.2.2.2.2.2.1 r.2.2.2.2.2.2.1 r.2.2.2.2.2.2.2.1 r.2.2.2.2.2.2.2.2.1 r.2.2.2.2.2.2.2.2.2.1 r.2.2.2.2.2.2.2.2.2.2.1 t_newMany t_rounds t_pinFrom t_pinTimes t_lines t_wasTold t_wasBarred t_goesNow t_jamsNow t_queued t_isKept t_tape r.2.2.2.2.2.2.2.2.2.2.2.1 r.2.2.2.2.2.2.2.2.2.2.2.2.1 r.2.2.2.2.2.2.2.2.2.2.2.2.2.1 r.2.2.2.2.2.2.2.2.2.2.2.2.2.2.1 r.2.2.2.2.2.2.2.2.2.2.2.2.2.2.2.1 r.2.2.2.2.2.2.2.2.2.2.2.2.2.2.2.2.1 r.2.2.2.2.2.2.2.2.2.2.2.2.2.2.2.2.2.1 r.2.2.2.2.2.2.2.2.2.2.2.2.2.2.2.2.2.2.1 r.2.2.2.2.2.2.2.2.2.2.2.2.2.2.2.2.2.2.2.1 r.2.2.2.2.2.2.2.2.2.2.2.2.2.2.2.2.2.2.2.2.1 r.2.2.2.2.2.2.2.2.2.2.2.2.2.2.2.2.2.2.2.2.2)) r.1) (hk0 : ∀ u, k0 u = some r → Gx X E 0 0 (W_X12_law E o_t a_t t_toldDoors t_barredDoors t_taped t_place0 t_length0 t_fault t_number0 t_open t_codeMany t_waiting t_saidMany t_clauses t_newMany t_rounds t_pinFrom t_pinTimes t_lines t_wasTold t_wasBarred t_goesNow t_jamsNow t_queued t_isKept t_tape t_said t_waitsAt t_saidLetter t_saidFrom t_saidHalf t_saidTo u t_clauseOf t_codeFrom t_codeHalf t_codeTo) 121 [(0, .ref o_t)] []) : ∀ (n : Nat) (s : Int32 × (Nat → Int32)), L_X12_law_95 t_taped t_place0 t_length0 t_fault t_number0 t_open t_codeMany t_waiting t_saidMany t_clauses t_tape t_said t_waitsAt t_saidLetter t_saidFrom t_saidHalf t_saidTo t_clauseOf t_codeFrom t_codeHalf t_codeTo k0 n s = some r → Gx X E 0 0 (W_X12_law E o_t a_t t_toldDoors t_barredDoors t_taped t_place0 t_length0 t_fault t_number0 t_open t_codeMany t_waiting t_saidMany t_clauses t_newMany t_rounds t_pinFrom t_pinTimes t_lines t_wasTold t_wasBarred t_goesNow t_jamsNow t_queued t_isKept t_tape t_said t_waitsAt t_saidLetter t_saidFrom t_saidHalf t_saidTo s.2 t_clauseOf t_codeFrom t_codeHalf t_codeTo) 95 [(0, .ref o_t), (3, .int s.1)] [] := by
  unfold L_X12_law_95
  refine lp_ind _ (fun go ih s h => ?_)
  refine g_iload_n (pc := 95) C dX12_law_95 rfl 1 rfl ?_
  refine g_aload_n (pc := 96) C dX12_law_96 rfl 0 rfl ?_
  refine g_get (pc := 97) C fl_X12_169 dX12_law_97 0 rfl rfl ?_
  refine g_icmp_ge (pc := 100) (tgt := 121) C dX12_law_100 (by decide) h (fun h => ?_) (fun h => ?_)
  · refine g_sub [0] rfl ?_
    exact hk0 _ h
  · refine g_aload_n (pc := 103) C dX12_law_103 rfl 0 rfl ?_
    refine g_get (pc := 104) C fl_X12_65 dX12_law_104 0 rfl rfl ?_
    refine g_iload_n (pc := 107) C dX12_law_107 rfl 1 rfl ?_
    refine g_aload_n (pc := 108) C dX12_law_108 rfl 0 rfl ?_
    refine g_get (pc := 109) C fl_X12_47 dX12_law_109 0 rfl rfl ?_
    refine g_iload_n (pc := 112) C dX12_law_112 rfl 1 rfl ?_
    refine g_iald (pc := 113) C dX12_law_113 2 rfl h (fun v7 h => ?_)
    refine g_iast (pc := 114) C dX12_law_114 8 rfl h (fun g8 h => ?_)
    refine g_ws (ws' := (W_X12_law E o_t a_t t_toldDoors t_barredDoors t_taped t_place0 t_length0 t_fault t_number0 t_open t_codeMany t_waiting t_saidMany t_clauses t_newMany t_rounds t_pinFrom t_pinTimes t_lines t_wasTold t_wasBarred t_goesNow t_jamsNow t_queued t_isKept t_tape t_said t_waitsAt t_saidLetter t_saidFrom t_saidHalf t_saidTo g8 t_clauseOf t_codeFrom t_codeHalf t_codeTo)) rfl ?_
    refine g_iincn (pc := 115) (j := 1) (d := 1) (lv' := fun v9 => [(3, .int v9), (0, .ref o_t)]) C dX12_law_115 rfl (by decide) (by decide) (fun _ => rfl) h (fun v9 h => ?_)
    refine g_goto (pc := 118) (tgt := 95) C dX12_law_118 (by decide) ?_
    refine g_sub [1, 0] rfl ?_
    exact ih _ h
set_option maxHeartbeats 4000000 in
set_option maxRecDepth 100000 in
theorem kL_X12_law_123 {X : GC} {E : GE} (C : Cx X E cX12_law RX12 9 4) (o_t : Nat) (a_t : Nat → Nat) (t_toldDoors : Int32) (t_barredDoors : Int32) (t_newMany : Int32) (t_rounds : Int32) (t_pinFrom : Int32) (t_pinTimes : Int32) (t_lines : Int32) (t_wasTold : Int32) (t_wasBarred : Int32) (t_goesNow : Int32) (t_jamsNow : Int32) (t_queued : Int32) (t_isKept : Int32) (t_taped : Int32) (t_place0 : Int32) (t_length0 : Int32) (t_fault : Int32) (t_number0 : Int32) (t_open : Int32) (t_codeMany : Int32) (t_waiting : Int32) (t_saidMany : Int32) (t_clauses : Int32) (t_tape : (Nat → Int32)) (t_said : (Nat → Int32)) (t_waitsAt : (Nat → Int32)) (t_saidLetter : (Nat → Int32)) (t_saidFrom : (Nat → Int32)) (t_saidHalf : (Nat → Int32)) (t_saidTo : (Nat → Int32)) (t_codes : (Nat → Int32)) {r : Int32 × Int32 × Int32 × Int32 × Int32 × Int32 × Int32 × Int32 × Int32 × Int32 × Int32 × (Nat → Int32) × (Nat → Int32) × (Nat → Int32) × (Nat → Int32) × (Nat → Int32) × (Nat → Int32) × (Nat → Int32) × (Nat → Int32) × (Nat → Int32) × (Nat → Int32) × (Nat → Int32)} (hret : RtI X E cX12_law .int 0 0 (fun w => w = (W_X12_law E o_t a_t t_toldDoors t_barredDoors r.2.1 r.2.2.1 r.2.2.2.1 r.2.2.2.2.1 r.2.2.2.2.2.1 r.2.2.2.2.2.2.1 r.2.2.2.2.2.2.2.1 r.2.2.2.2.2.2.2.2.1 r.2.2.2.2.2.2.2.2.2.1 r.2.2.2.2.2.2.2.2.2.2.1 t_newMany t_rounds t_pinFrom t_pinTimes t_lines t_wasTold t_wasBarred t_goesNow t_jamsNow t_queued t_isKept t_tape r.2.2.2.2.2.2.2.2.2.2.2.1 r.2.2.2.2.2.2.2.2.2.2.2.2.1 r.2.2.2.2.2.2.2.2.2.2.2.2.2.1 r.2.2.2.2.2.2.2.2.2.2.2.2.2.2.1 r.2.2.2.2.2.2.2.2.2.2.2.2.2.2.2.1 r.2.2.2.2.2.2.2.2.2.2.2.2.2.2.2.2.1 r.2.2.2.2.2.2.2.2.2.2.2.2.2.2.2.2.2.1 r.2.2.2.2.2.2.2.2.2.2.2.2.2.2.2.2.2.2.1 r.2.2.2.2.2.2.2.2.2.2.2.2.2.2.2.2.2.2.2.1 r.2.2.2.2.2.2.2.2.2.2.2.2.2.2.2.2.2.2.2.2.1 r.2.2.2.2.2.2.2.2.2.2.2.2.2.2.2.2.2.2.2.2.2)) r.1) : ∀ (n : Nat) (s : Int32 × (Nat → Int32) × (Nat → Int32) × (Nat → Int32) × (Nat → Int32)), L_X12_law_123 t_taped t_place0 t_length0 t_fault t_number0 t_open t_codeMany t_waiting t_saidMany t_clauses t_tape t_said t_waitsAt t_saidLetter t_saidFrom t_saidHalf t_saidTo t_codes n s = some r → Gx X E 0 0 (W_X12_law E o_t a_t t_toldDoors t_barredDoors t_taped t_place0 t_length0 t_fault t_number0 t_open t_codeMany t_waiting t_saidMany t_clauses t_newMany t_rounds t_pinFrom t_pinTimes t_lines t_wasTold t_wasBarred t_goesNow t_jamsNow t_queued t_isKept t_tape t_said t_waitsAt t_saidLetter t_saidFrom t_saidHalf t_saidTo t_codes s.2.1 s.2.2.1 s.2.2.2.1 s.2.2.2.2) 123 [(0, .ref o_t), (3, .int s.1)] [] := by
  unfold L_X12_law_123
  refine lp_ind _ (fun go ih s h => ?_)
  refine g_iload_n (pc := 123) C dX12_law_123 rfl 1 rfl ?_
  refine g_aload_n (pc := 124) C dX12_law_124 rfl 0 rfl ?_
  refine g_get (pc := 125) C fl_X12_224 dX12_law_125 0 rfl rfl ?_
  refine g_icmp_ge (pc := 128) (tgt := 185) C dX12_law_128 (by decide) h (fun h => ?_) (fun h => ?_)
  · refine g_aload_n (pc := 185) C dX12_law_185 rfl 0 rfl ?_
    refine g_get (pc := 186) C fl_X12_224 dX12_law_186 0 rfl rfl ?_
    cases h
    exact hret _ _ _ dX12_law_189 rfl rfl
  · refine g_aload_n (pc := 131) C dX12_law_131 rfl 0 rfl ?_
    refine g_get (pc := 132) C fl_X12_68 dX12_law_132 0 rfl rfl ?_
    refine g_iload_n (pc := 135) C dX12_law_135 rfl 1 rfl ?_
    refine g_aload_n (pc := 136) C dX12_law_136 rfl 0 rfl ?_
    refine g_get (pc := 137) C fl_X12_53 dX12_law_137 0 rfl rfl ?_
    refine g_iload_n (pc := 140) C dX12_law_140 rfl 1 rfl ?_
    refine g_iald (pc := 141) C dX12_law_141 4 rfl h (fun v11 h => ?_)
    refine g_iast (pc := 142) C dX12_law_142 9 rfl h (fun g12 h => ?_)
    refine g_ws (ws' := (W_X12_law E o_t a_t t_toldDoors t_barredDoors t_taped t_place0 t_length0 t_fault t_number0 t_open t_codeMany t_waiting t_saidMany t_clauses t_newMany t_rounds t_pinFrom t_pinTimes t_lines t_wasTold t_wasBarred t_goesNow t_jamsNow t_queued t_isKept t_tape t_said t_waitsAt t_saidLetter t_saidFrom t_saidHalf t_saidTo t_codes g12 s.2.2.1 s.2.2.2.1 s.2.2.2.2)) rfl ?_
    refine g_aload_n (pc := 143) C dX12_law_143 rfl 0 rfl ?_
    refine g_get (pc := 144) C fl_X12_71 dX12_law_144 0 rfl rfl ?_
    refine g_iload_n (pc := 147) C dX12_law_147 rfl 1 rfl ?_
    refine g_aload_n (pc := 148) C dX12_law_148 rfl 0 rfl ?_
    refine g_get (pc := 149) C fl_X12_56 dX12_law_149 0 rfl rfl ?_
    refine g_iload_n (pc := 152) C dX12_law_152 rfl 1 rfl ?_
    refine g_iald (pc := 153) C dX12_law_153 5 rfl h (fun v13 h => ?_)
    refine g_iast (pc := 154) C dX12_law_154 10 rfl h (fun g14 h => ?_)
    refine g_ws (ws' := (W_X12_law E o_t a_t t_toldDoors t_barredDoors t_taped t_place0 t_length0 t_fault t_number0 t_open t_codeMany t_waiting t_saidMany t_clauses t_newMany t_rounds t_pinFrom t_pinTimes t_lines t_wasTold t_wasBarred t_goesNow t_jamsNow t_queued t_isKept t_tape t_said t_waitsAt t_saidLetter t_saidFrom t_saidHalf t_saidTo t_codes g12 g14 s.2.2.2.1 s.2.2.2.2)) rfl ?_
    refine g_aload_n (pc := 155) C dX12_law_155 rfl 0 rfl ?_
    refine g_get (pc := 156) C fl_X12_74 dX12_law_156 0 rfl rfl ?_
    refine g_iload_n (pc := 159) C dX12_law_159 rfl 1 rfl ?_
    refine g_aload_n (pc := 160) C dX12_law_160 rfl 0 rfl ?_
    refine g_get (pc := 161) C fl_X12_59 dX12_law_161 0 rfl rfl ?_
    refine g_iload_n (pc := 164) C dX12_law_164 rfl 1 rfl ?_
    refine g_iald (pc := 165) C dX12_law_165 6 rfl h (fun v15 h => ?_)
    refine g_iast (pc := 166) C dX12_law_166 11 rfl h (fun g16 h => ?_)
    refine g_ws (ws' := (W_X12_law E o_t a_t t_toldDoors t_barredDoors t_taped t_place0 t_length0 t_fault t_number0 t_open t_codeMany t_waiting t_saidMany t_clauses t_newMany t_rounds t_pinFrom t_pinTimes t_lines t_wasTold t_wasBarred t_goesNow t_jamsNow t_queued t_isKept t_tape t_said t_waitsAt t_saidLetter t_saidFrom t_saidHalf t_saidTo t_codes g12 g14 g16 s.2.2.2.2)) rfl ?_
    refine g_aload_n (pc := 167) C dX12_law_167 rfl 0 rfl ?_
    refine g_get (pc := 168) C fl_X12_77 dX12_law_168 0 rfl rfl ?_
    refine g_iload_n (pc := 171) C dX12_law_171 rfl 1 rfl ?_
    refine g_aload_n (pc := 172) C dX12_law_172 rfl 0 rfl ?_
    refine g_get (pc := 173) C fl_X12_62 dX12_law_173 0 rfl rfl ?_
    refine g_iload_n (pc := 176) C dX12_law_176 rfl 1 rfl ?_
    refine g_iald (pc := 177) C dX12_law_177 7 rfl h (fun v17 h => ?_)
    refine g_iast (pc := 178) C dX12_law_178 12 rfl h (fun g18 h => ?_)
    refine g_ws (ws' := (W_X12_law E o_t a_t t_toldDoors t_barredDoors t_taped t_place0 t_length0 t_fault t_number0 t_open t_codeMany t_waiting t_saidMany t_clauses t_newMany t_rounds t_pinFrom t_pinTimes t_lines t_wasTold t_wasBarred t_goesNow t_jamsNow t_queued t_isKept t_tape t_said t_waitsAt t_saidLetter t_saidFrom t_saidHalf t_saidTo t_codes g12 g14 g16 g18)) rfl ?_
    refine g_iincn (pc := 179) (j := 1) (d := 1) (lv' := fun v19 => [(3, .int v19), (0, .ref o_t)]) C dX12_law_179 rfl (by decide) (by decide) (fun _ => rfl) h (fun v19 h => ?_)
    refine g_goto (pc := 182) (tgt := 123) C dX12_law_182 (by decide) ?_
    refine g_sub [1, 0] rfl ?_
    exact ih _ h
set_option maxHeartbeats 4000000 in
set_option maxRecDepth 100000 in
theorem c_X12_law (l : Launch) (E : GE) (o_t : Nat) (a_t : Nat → Nat) (t_toldDoors : Int32) (t_barredDoors : Int32) (t_taped : Int32) (t_place0 : Int32) (t_length0 : Int32) (t_fault : Int32) (t_number0 : Int32) (t_open : Int32) (t_codeMany : Int32) (t_waiting : Int32) (t_saidMany : Int32) (t_clauses : Int32) (t_newMany : Int32) (t_rounds : Int32) (t_pinFrom : Int32) (t_pinTimes : Int32) (t_lines : Int32) (t_wasTold : Int32) (t_wasBarred : Int32) (t_goesNow : Int32) (t_jamsNow : Int32) (t_queued : Int32) (t_isKept : Int32) (t_tape : (Nat → Int32)) (t_said : (Nat → Int32)) (t_waitsAt : (Nat → Int32)) (t_saidLetter : (Nat → Int32)) (t_saidFrom : (Nat → Int32)) (t_saidHalf : (Nat → Int32)) (t_saidTo : (Nat → Int32)) (t_codes : (Nat → Int32)) (t_clauseOf : (Nat → Int32)) (t_codeFrom : (Nat → Int32)) (t_codeHalf : (Nat → Int32)) (t_codeTo : (Nat → Int32)) (x1 : Int32) (r : Int32 × Int32 × Int32 × Int32 × Int32 × Int32 × Int32 × Int32 × Int32 × Int32 × Int32 × (Nat → Int32) × (Nat → Int32) × (Nat → Int32) × (Nat → Int32) × (Nat → Int32) × (Nat → Int32) × (Nat → Int32) × (Nat → Int32) × (Nat → Int32) × (Nat → Int32) × (Nat → Int32)) (h : f_X12_law t_taped t_place0 t_length0 t_fault t_number0 t_open t_codeMany t_waiting t_saidMany t_clauses t_tape t_said t_waitsAt t_saidLetter t_saidFrom t_saidHalf t_saidTo t_codes t_clauseOf t_codeFrom t_codeHalf t_codeTo x1 = some r) : Cn l E yX12_law cX12_law 4 (some .int) 9 0 0 [.ref o_t, .int x1] (W_X12_law E o_t a_t t_toldDoors t_barredDoors t_taped t_place0 t_length0 t_fault t_number0 t_open t_codeMany t_waiting t_saidMany t_clauses t_newMany t_rounds t_pinFrom t_pinTimes t_lines t_wasTold t_wasBarred t_goesNow t_jamsNow t_queued t_isKept t_tape t_said t_waitsAt t_saidLetter t_saidFrom t_saidHalf t_saidTo t_codes t_clauseOf t_codeFrom t_codeHalf t_codeTo) (fun w => w = (W_X12_law E o_t a_t t_toldDoors t_barredDoors r.2.1 r.2.2.1 r.2.2.2.1 r.2.2.2.2.1 r.2.2.2.2.2.1 r.2.2.2.2.2.2.1 r.2.2.2.2.2.2.2.1 r.2.2.2.2.2.2.2.2.1 r.2.2.2.2.2.2.2.2.2.1 r.2.2.2.2.2.2.2.2.2.2.1 t_newMany t_rounds t_pinFrom t_pinTimes t_lines t_wasTold t_wasBarred t_goesNow t_jamsNow t_queued t_isKept t_tape r.2.2.2.2.2.2.2.2.2.2.2.1 r.2.2.2.2.2.2.2.2.2.2.2.2.1 r.2.2.2.2.2.2.2.2.2.2.2.2.2.1 r.2.2.2.2.2.2.2.2.2.2.2.2.2.2.1 r.2.2.2.2.2.2.2.2.2.2.2.2.2.2.2.1 r.2.2.2.2.2.2.2.2.2.2.2.2.2.2.2.2.1 r.2.2.2.2.2.2.2.2.2.2.2.2.2.2.2.2.2.1 r.2.2.2.2.2.2.2.2.2.2.2.2.2.2.2.2.2.2.1 r.2.2.2.2.2.2.2.2.2.2.2.2.2.2.2.2.2.2.2.1 r.2.2.2.2.2.2.2.2.2.2.2.2.2.2.2.2.2.2.2.2.1 r.2.2.2.2.2.2.2.2.2.2.2.2.2.2.2.2.2.2.2.2.2)) (some (.int r.1)) := by
  refine Cn.ofI (by decide +kernel) (Nat.le_of_ble_eq_true rfl) (fun X hX hR C hret => ?_)
  subst hX
  show Gx X E 0 0 (W_X12_law E o_t a_t t_toldDoors t_barredDoors t_taped t_place0 t_length0 t_fault t_number0 t_open t_codeMany t_waiting t_saidMany t_clauses t_newMany t_rounds t_pinFrom t_pinTimes t_lines t_wasTold t_wasBarred t_goesNow t_jamsNow t_queued t_isKept t_tape t_said t_waitsAt t_saidLetter t_saidFrom t_saidHalf t_saidTo t_codes t_clauseOf t_codeFrom t_codeHalf t_codeTo) 0 [(0, .ref o_t), (1, .int x1)] []
  unfold f_X12_law at h
  refine g_iload_n (pc := 0) C dX12_law_0 rfl 1 rfl ?_
  refine g_iconst (pc := 1) (v := 1) C dX12_law_1 (by decide) ?_
  refine g_sipush (pc := 2) (v := 240) C dX12_law_2 (by decide) ?_
  obtain ⟨u1, hu1, h⟩ := bs h
  refine g_callS (pc := 5) (st := []) (st1 := [.int u1]) (ws' := (W_X12_law E o_t a_t t_toldDoors t_barredDoors t_taped t_place0 t_length0 t_fault t_number0 t_open t_codeMany t_waiting t_saidMany t_clauses t_newMany t_rounds t_pinFrom t_pinTimes t_lines t_wasTold t_wasBarred t_goesNow t_jamsNow t_queued t_isKept t_tape t_said t_waitsAt t_saidLetter t_saidFrom t_saidHalf t_saidTo t_codes t_clauseOf t_codeFrom t_codeHalf t_codeTo)) C mv_X12_in ms_X12_in ml_X12_117 (c_X12_in X.2.1 E x1 (1 : Int32) (240 : Int32) u1 hu1) dX12_law_5 (by decide) rfl (Nat.le_of_ble_eq_true rfl) [] rfl (by decide) rfl rfl rfl rfl ?_
  refine g_if_eq (pc := 8) (tgt := 19) C dX12_law_8 (by decide) h (fun h => ?_) (fun h => ?_)
  · refine g_iconst (pc := 19) (v := -1) C dX12_law_19 (by decide) ?_
    cases h
    exact hret _ _ _ dX12_law_20 rfl rfl
  · refine g_iload_n (pc := 11) C dX12_law_11 rfl 1 rfl ?_
    refine g_aload_n (pc := 12) C dX12_law_12 rfl 0 rfl ?_
    refine g_get (pc := 13) C fl_X12_139 dX12_law_13 0 rfl rfl ?_
    refine g_icmp_le (pc := 16) (tgt := 21) C dX12_law_16 (by decide) h (fun h => ?_) (fun h => ?_)
    · refine g_aload_n (pc := 21) C dX12_law_21 rfl 0 rfl ?_
      refine g_iload_n (pc := 22) C dX12_law_22 rfl 1 rfl ?_
      obtain ⟨u2, hu2, h⟩ := bs h
      refine g_callV (pc := 23) (st := []) (st1 := []) (ws' := (W_X12_law E o_t a_t t_toldDoors t_barredDoors t_taped u2.1 u2.2.1 t_fault t_number0 t_open u2.2.2.1 t_waiting u2.2.2.2 t_clauses t_newMany t_rounds t_pinFrom t_pinTimes t_lines t_wasTold t_wasBarred t_goesNow t_jamsNow t_queued t_isKept t_tape t_said t_waitsAt t_saidLetter t_saidFrom t_saidHalf t_saidTo t_codes t_clauseOf t_codeFrom t_codeHalf t_codeTo)) C mv_X12_beginsText mi_X12_beginsText ml_X12_230 (c_X12_beginsText X.2.1 E o_t a_t t_toldDoors t_barredDoors t_taped t_place0 t_length0 t_fault t_number0 t_open t_codeMany t_waiting t_saidMany t_clauses t_newMany t_rounds t_pinFrom t_pinTimes t_lines t_wasTold t_wasBarred t_goesNow t_jamsNow t_queued t_isKept x1 u2 hu2) dX12_law_23 (by decide) rfl (Nat.le_of_ble_eq_true rfl) 0 11 rfl rfl [0] rfl (by decide) rfl rfl rfl rfl ?_
      refine g_aload_n (pc := 26) C dX12_law_26 rfl 0 rfl ?_
      obtain ⟨u3, hu3, h⟩ := bs h
      refine g_callV (pc := 27) (st := []) (st1 := [.int u3.1]) (ws' := (W_X12_law E o_t a_t t_toldDoors t_barredDoors t_taped u3.2.1 u2.2.1 u3.2.2.1 u3.2.2.2.1 u3.2.2.2.2.1 u3.2.2.2.2.2.1 u3.2.2.2.2.2.2.1 u3.2.2.2.2.2.2.2.1 t_clauses t_newMany t_rounds t_pinFrom t_pinTimes t_lines t_wasTold t_wasBarred t_goesNow t_jamsNow t_queued t_isKept t_tape u3.2.2.2.2.2.2.2.2.1 u3.2.2.2.2.2.2.2.2.2.1 u3.2.2.2.2.2.2.2.2.2.2.1 u3.2.2.2.2.2.2.2.2.2.2.2.1 u3.2.2.2.2.2.2.2.2.2.2.2.2.1 u3.2.2.2.2.2.2.2.2.2.2.2.2.2 t_codes t_clauseOf t_codeFrom t_codeHalf t_codeTo)) C mv_X12_readsRule mi_X12_readsRule ml_X12_233 (c_X12_readsRule X.2.1 E o_t a_t t_toldDoors t_barredDoors t_taped u2.1 u2.2.1 t_fault t_number0 t_open u2.2.2.1 t_waiting u2.2.2.2 t_clauses t_newMany t_rounds t_pinFrom t_pinTimes t_lines t_wasTold t_wasBarred t_goesNow t_jamsNow t_queued t_isKept t_tape t_said t_waitsAt t_saidLetter t_saidFrom t_saidHalf t_saidTo u3 hu3) dX12_law_27 (by decide) rfl (Nat.le_of_ble_eq_true rfl) 0 11 rfl rfl [0, 1, 2, 3, 4, 5, 6, 7] rfl (by decide) rfl rfl rfl rfl ?_
      refine g_istore_n (pc := 30) (lv' := [(2, .int u3.1), (0, .ref o_t), (1, .int x1)]) C dX12_law_30 rfl (by decide) rfl ?_
      refine g_sub [1, 0] rfl ?_
      refine kL_X12_law_31 C o_t a_t t_toldDoors t_barredDoors t_newMany t_rounds t_pinFrom t_pinTimes t_lines t_wasTold t_wasBarred t_goesNow t_jamsNow t_queued t_isKept t_taped u2.2.1 t_clauses t_tape t_codes t_clauseOf t_codeFrom t_codeHalf t_codeTo _ hret (fun s6 h => ?_) _ _ h
      refine g_aload_n (pc := 71) C dX12_law_71 rfl 0 rfl ?_
      refine g_iconst (pc := 72) (v := 0) C dX12_law_72 (by decide) ?_
      refine g_put (pc := 73) (ws' := (W_X12_law E o_t a_t t_toldDoors t_barredDoors (0 : Int32) s6.2.1 u2.2.1 s6.2.2.1 s6.2.2.2.1 s6.2.2.2.2.1 s6.2.2.2.2.2.1 s6.2.2.2.2.2.2.1 s6.2.2.2.2.2.2.2.1 t_clauses t_newMany t_rounds t_pinFrom t_pinTimes t_lines t_wasTold t_wasBarred t_goesNow t_jamsNow t_queued t_isKept t_tape s6.2.2.2.2.2.2.2.2.1 s6.2.2.2.2.2.2.2.2.2.1 s6.2.2.2.2.2.2.2.2.2.2.1 s6.2.2.2.2.2.2.2.2.2.2.2.1 s6.2.2.2.2.2.2.2.2.2.2.2.2.1 s6.2.2.2.2.2.2.2.2.2.2.2.2.2 t_codes t_clauseOf t_codeFrom t_codeHalf t_codeTo)) C .int fl_X12_139 dX12_law_73 0 rfl (by decide +kernel) rfl rfl (Nat.le_of_ble_eq_true rfl) rfl ?_
      refine g_iload_n (pc := 76) C dX12_law_76 rfl 1 rfl ?_
      refine g_if_ne (pc := 77) (tgt := 85) C dX12_law_77 (by decide) h (fun h => ?_) (fun h => ?_)
      · refine g_aload_n (pc := 85) C dX12_law_85 rfl 0 rfl ?_
        refine g_aload_n (pc := 86) C dX12_law_86 rfl 0 rfl ?_
        refine g_get (pc := 87) C fl_X12_224 dX12_law_87 0 rfl rfl ?_
        refine g_put (pc := 90) (ws' := (W_X12_law E o_t a_t t_toldDoors t_barredDoors (0 : Int32) s6.2.1 u2.2.1 s6.2.2.1 s6.2.2.2.1 s6.2.2.2.2.1 s6.2.2.2.2.2.1 s6.2.2.2.2.2.2.1 s6.2.2.2.2.2.2.2.1 s6.2.2.2.2.2.2.2.1 t_newMany t_rounds t_pinFrom t_pinTimes t_lines t_wasTold t_wasBarred t_goesNow t_jamsNow t_queued t_isKept t_tape s6.2.2.2.2.2.2.2.2.1 s6.2.2.2.2.2.2.2.2.2.1 s6.2.2.2.2.2.2.2.2.2.2.1 s6.2.2.2.2.2.2.2.2.2.2.2.1 s6.2.2.2.2.2.2.2.2.2.2.2.2.1 s6.2.2.2.2.2.2.2.2.2.2.2.2.2 t_codes t_clauseOf t_codeFrom t_codeHalf t_codeTo)) C .int fl_X12_239 dX12_law_90 0 rfl (by decide +kernel) rfl rfl (Nat.le_of_ble_eq_true rfl) rfl ?_
        refine g_iconst (pc := 93) (v := 0) C dX12_law_93 (by decide) ?_
        refine g_istore_n (pc := 94) (lv' := [(3, .int (0 : Int32)), (0, .ref o_t), (2, .int s6.1)]) C dX12_law_94 rfl (by decide) rfl ?_
        refine g_sub [1, 0] rfl ?_
        refine kL_X12_law_95 C o_t a_t t_toldDoors t_barredDoors t_newMany t_rounds t_pinFrom t_pinTimes t_lines t_wasTold t_wasBarred t_goesNow t_jamsNow t_queued t_isKept (0 : Int32) s6.2.1 u2.2.1 s6.2.2.1 s6.2.2.2.1 s6.2.2.2.2.1 s6.2.2.2.2.2.1 s6.2.2.2.2.2.2.1 s6.2.2.2.2.2.2.2.1 s6.2.2.2.2.2.2.2.1 t_tape s6.2.2.2.2.2.2.2.2.1 s6.2.2.2.2.2.2.2.2.2.1 s6.2.2.2.2.2.2.2.2.2.2.1 s6.2.2.2.2.2.2.2.2.2.2.2.1 s6.2.2.2.2.2.2.2.2.2.2.2.2.1 s6.2.2.2.2.2.2.2.2.2.2.2.2.2 t_clauseOf t_codeFrom t_codeHalf t_codeTo _ hret (fun s10 h => ?_) _ _ h
        refine g_iconst (pc := 121) (v := 0) C dX12_law_121 (by decide) ?_
        refine g_istore_n (pc := 122) (lv' := [(3, .int (0 : Int32)), (0, .ref o_t)]) C dX12_law_122 rfl (by decide) rfl ?_
        refine g_sub [1, 0] rfl ?_
        refine kL_X12_law_123 C o_t a_t t_toldDoors t_barredDoors t_newMany t_rounds t_pinFrom t_pinTimes t_lines t_wasTold t_wasBarred t_goesNow t_jamsNow t_queued t_isKept (0 : Int32) s6.2.1 u2.2.1 s6.2.2.1 s6.2.2.2.1 s6.2.2.2.2.1 s6.2.2.2.2.2.1 s6.2.2.2.2.2.2.1 s6.2.2.2.2.2.2.2.1 s6.2.2.2.2.2.2.2.1 t_tape s6.2.2.2.2.2.2.2.2.1 s6.2.2.2.2.2.2.2.2.2.1 s6.2.2.2.2.2.2.2.2.2.2.1 s6.2.2.2.2.2.2.2.2.2.2.2.1 s6.2.2.2.2.2.2.2.2.2.2.2.2.1 s6.2.2.2.2.2.2.2.2.2.2.2.2.2 s10 hret  _ _ h
      · refine g_aload_n (pc := 80) C dX12_law_80 rfl 0 rfl ?_
        refine g_get (pc := 81) C fl_X12_156 dX12_law_81 0 rfl rfl ?_
        cases h
        exact hret _ _ _ dX12_law_84 rfl rfl
    · refine g_iconst (pc := 19) (v := -1) C dX12_law_19 (by decide) ?_
      cases h
      exact hret _ _ _ dX12_law_20 rfl rfl
