abbrev W_X7_fail (E : GE) (O_t : Nat) (r_t_tape : Nat) (t_end : Int32) (t_place : Int32) (t_sign : Int32) (t_fault : Int32) : va_W := [(O_t, ob_X7 r_t_tape t_end t_place t_sign t_fault)]
def f_X7_fail (t_fault : Int32) (x1 : Int32) (x2 : Int32) : Option (Int32) := if t_fault = 0 then (nm (((-1000 : Int32) * x1) - x2) fun v1 => some v1) else some t_fault
theorem dX7_fail_0 : decode cX7_fail 0 = .ok (.aload_n 0, 1) := by decide +kernel
theorem dX7_fail_1 : decode cX7_fail 1 = .ok (.getfield 19, 3) := by decide +kernel
theorem dX7_fail_4 : decode cX7_fail 4 = .ok (.ifCond .ne 14, 3) := by decide +kernel
theorem dX7_fail_7 : decode cX7_fail 7 = .ok (.aload_n 0, 1) := by decide +kernel
theorem dX7_fail_8 : decode cX7_fail 8 = .ok (.sipush (-1000), 3) := by decide +kernel
theorem dX7_fail_11 : decode cX7_fail 11 = .ok (.iload_n 1, 1) := by decide +kernel
theorem dX7_fail_12 : decode cX7_fail 12 = .ok (.imul, 1) := by decide +kernel
theorem dX7_fail_13 : decode cX7_fail 13 = .ok (.iload_n 2, 1) := by decide +kernel
theorem dX7_fail_14 : decode cX7_fail 14 = .ok (.isub, 1) := by decide +kernel
theorem dX7_fail_15 : decode cX7_fail 15 = .ok (.putfield 19, 3) := by decide +kernel
theorem dX7_fail_18 : decode cX7_fail 18 = .ok (.return_, 1) := by decide +kernel
set_option maxHeartbeats 4000000 in
set_option maxRecDepth 100000 in
theorem c_X7_fail (l : Launch) (E : GE) (o_t : Nat) (r_t_tape : Nat) (t_end : Int32) (t_place : Int32) (t_sign : Int32) (t_fault : Int32) (x1 : Int32) (x2 : Int32) (r : Int32) (h : f_X7_fail t_fault x1 x2 = some r) : Cn l E yX7_fail cX7_fail 3 none 1 0 0 [.ref o_t, .int x1, .int x2] (W_X7_fail E o_t r_t_tape t_end t_place t_sign t_fault) (fun w => w = (W_X7_fail E o_t r_t_tape t_end t_place t_sign r)) none := by
  refine Cn.ofV (by decide +kernel) (Nat.le_of_ble_eq_true rfl) (fun X hX hR C hret => ?_)
  subst hX
  show Gx X E 0 0 (W_X7_fail E o_t r_t_tape t_end t_place t_sign t_fault) 0 [(0, .ref o_t), (1, .int x1), (2, .int x2)] []
  unfold f_X7_fail at h
  refine g_aload_n (pc := 0) C dX7_fail_0 rfl 0 rfl ?_
  refine g_get (pc := 1) C fl_X7_19 dX7_fail_1 0 rfl rfl ?_
  refine g_if_ne (pc := 4) (tgt := 18) C dX7_fail_4 (by decide) h (fun h => ?_) (fun h => ?_)
  · cases h
    exact hret _ _ _ dX7_fail_18 rfl
  · refine g_aload_n (pc := 7) C dX7_fail_7 rfl 0 rfl ?_
    refine g_sipush (pc := 8) (v := -1000) C dX7_fail_8 (by decide) ?_
    refine g_iload_n (pc := 11) C dX7_fail_11 rfl 1 rfl ?_
    refine g_imul (pc := 12) C dX7_fail_12 ?_
    refine g_iload_n (pc := 13) C dX7_fail_13 rfl 2 rfl ?_
    refine g_isub (pc := 14) C dX7_fail_14 ?_
    refine g_nm h (fun v1 h => ?_)
    refine g_put (pc := 15) (ws' := (W_X7_fail E o_t r_t_tape t_end t_place t_sign v1)) C .int fl_X7_19 dX7_fail_15 0 rfl (by decide +kernel) rfl rfl (Nat.le_of_ble_eq_true rfl) rfl ?_
    cases h
    exact hret _ _ _ dX7_fail_18 rfl
abbrev W_X7_isAtEnd (E : GE) (O_t : Nat) (r_t_tape : Nat) (t_end : Int32) (t_place : Int32) (t_sign : Int32) (t_fault : Int32) : va_W := [(O_t, ob_X7 r_t_tape t_end t_place t_sign t_fault)]
def f_X7_isAtEnd (t_end : Int32) (t_place : Int32) : Option (Int32) := if t_place < t_end then (some (0 : Int32)) else some (1 : Int32)
theorem dX7_isAtEnd_0 : decode cX7_isAtEnd 0 = .ok (.aload_n 0, 1) := by decide +kernel
theorem dX7_isAtEnd_1 : decode cX7_isAtEnd 1 = .ok (.getfield 22, 3) := by decide +kernel
theorem dX7_isAtEnd_4 : decode cX7_isAtEnd 4 = .ok (.aload_n 0, 1) := by decide +kernel
theorem dX7_isAtEnd_5 : decode cX7_isAtEnd 5 = .ok (.getfield 15, 3) := by decide +kernel
theorem dX7_isAtEnd_8 : decode cX7_isAtEnd 8 = .ok (.if_icmp .lt 7, 3) := by decide +kernel
theorem dX7_isAtEnd_11 : decode cX7_isAtEnd 11 = .ok (.iconst 1, 1) := by decide +kernel
theorem dX7_isAtEnd_12 : decode cX7_isAtEnd 12 = .ok (.goto 4, 3) := by decide +kernel
theorem dX7_isAtEnd_15 : decode cX7_isAtEnd 15 = .ok (.iconst 0, 1) := by decide +kernel
theorem dX7_isAtEnd_16 : decode cX7_isAtEnd 16 = .ok (.ireturn, 1) := by decide +kernel
set_option maxHeartbeats 4000000 in
set_option maxRecDepth 100000 in
theorem c_X7_isAtEnd (l : Launch) (E : GE) (o_t : Nat) (r_t_tape : Nat) (t_end : Int32) (t_place : Int32) (t_sign : Int32) (t_fault : Int32) (r : Int32) (h : f_X7_isAtEnd t_end t_place = some r) : Cn l E yX7_isAtEnd cX7_isAtEnd 1 (some .boolean) 1 0 0 [.ref o_t] (W_X7_isAtEnd E o_t r_t_tape t_end t_place t_sign t_fault) (fun w => w = (W_X7_isAtEnd E o_t r_t_tape t_end t_place t_sign t_fault)) (some (.int r)) := by
  refine Cn.ofI (by decide +kernel) (Nat.le_of_ble_eq_true rfl) (fun X hX hR C hret => ?_)
  subst hX
  show Gx X E 0 0 (W_X7_isAtEnd E o_t r_t_tape t_end t_place t_sign t_fault) 0 [(0, .ref o_t)] []
  unfold f_X7_isAtEnd at h
  refine g_aload_n (pc := 0) C dX7_isAtEnd_0 rfl 0 rfl ?_
  refine g_get (pc := 1) C fl_X7_22 dX7_isAtEnd_1 0 rfl rfl ?_
  refine g_aload_n (pc := 4) C dX7_isAtEnd_4 rfl 0 rfl ?_
  refine g_get (pc := 5) C fl_X7_15 dX7_isAtEnd_5 0 rfl rfl ?_
  refine g_icmp_lt (pc := 8) (tgt := 15) C dX7_isAtEnd_8 (by decide) h (fun h => ?_) (fun h => ?_)
  · refine g_iconst (pc := 15) (v := 0) C dX7_isAtEnd_15 (by decide) ?_
    cases h
    exact hret _ _ _ dX7_isAtEnd_16 nb0 rfl
  · refine g_iconst (pc := 11) (v := 1) C dX7_isAtEnd_11 (by decide) ?_
    refine g_goto (pc := 12) (tgt := 16) C dX7_isAtEnd_12 (by decide) ?_
    cases h
    exact hret _ _ _ dX7_isAtEnd_16 nb1 rfl
abbrev W_X7_isDigit (E : GE) (O_t : Nat) (r_t_tape : Nat) (t_end : Int32) (t_place : Int32) (t_sign : Int32) (t_fault : Int32) : va_W := [(O_t, ob_X7 r_t_tape t_end t_place t_sign t_fault)]
def f_X7_isDigit (t_sign : Int32) : Option (Int32) := if t_sign < (48 : Int32) then (some (0 : Int32)) else if (57 : Int32) < t_sign then (some (0 : Int32)) else some (1 : Int32)
theorem dX7_isDigit_0 : decode cX7_isDigit 0 = .ok (.aload_n 0, 1) := by decide +kernel
theorem dX7_isDigit_1 : decode cX7_isDigit 1 = .ok (.getfield 37, 3) := by decide +kernel
theorem dX7_isDigit_4 : decode cX7_isDigit 4 = .ok (.bipush 48, 2) := by decide +kernel
theorem dX7_isDigit_6 : decode cX7_isDigit 6 = .ok (.if_icmp .lt 16, 3) := by decide +kernel
theorem dX7_isDigit_9 : decode cX7_isDigit 9 = .ok (.aload_n 0, 1) := by decide +kernel
theorem dX7_isDigit_10 : decode cX7_isDigit 10 = .ok (.getfield 37, 3) := by decide +kernel
theorem dX7_isDigit_13 : decode cX7_isDigit 13 = .ok (.bipush 57, 2) := by decide +kernel
theorem dX7_isDigit_15 : decode cX7_isDigit 15 = .ok (.if_icmp .gt 7, 3) := by decide +kernel
theorem dX7_isDigit_18 : decode cX7_isDigit 18 = .ok (.iconst 1, 1) := by decide +kernel
theorem dX7_isDigit_19 : decode cX7_isDigit 19 = .ok (.goto 4, 3) := by decide +kernel
theorem dX7_isDigit_22 : decode cX7_isDigit 22 = .ok (.iconst 0, 1) := by decide +kernel
theorem dX7_isDigit_23 : decode cX7_isDigit 23 = .ok (.ireturn, 1) := by decide +kernel
set_option maxHeartbeats 4000000 in
set_option maxRecDepth 100000 in
theorem c_X7_isDigit (l : Launch) (E : GE) (o_t : Nat) (r_t_tape : Nat) (t_end : Int32) (t_place : Int32) (t_sign : Int32) (t_fault : Int32) (r : Int32) (h : f_X7_isDigit t_sign = some r) : Cn l E yX7_isDigit cX7_isDigit 1 (some .boolean) 1 0 0 [.ref o_t] (W_X7_isDigit E o_t r_t_tape t_end t_place t_sign t_fault) (fun w => w = (W_X7_isDigit E o_t r_t_tape t_end t_place t_sign t_fault)) (some (.int r)) := by
  refine Cn.ofI (by decide +kernel) (Nat.le_of_ble_eq_true rfl) (fun X hX hR C hret => ?_)
  subst hX
  show Gx X E 0 0 (W_X7_isDigit E o_t r_t_tape t_end t_place t_sign t_fault) 0 [(0, .ref o_t)] []
  unfold f_X7_isDigit at h
  refine g_aload_n (pc := 0) C dX7_isDigit_0 rfl 0 rfl ?_
  refine g_get (pc := 1) C fl_X7_37 dX7_isDigit_1 0 rfl rfl ?_
  refine g_bipush (pc := 4) (v := 48) C dX7_isDigit_4 (by decide) ?_
  refine g_icmp_lt (pc := 6) (tgt := 22) C dX7_isDigit_6 (by decide) h (fun h => ?_) (fun h => ?_)
  · refine g_iconst (pc := 22) (v := 0) C dX7_isDigit_22 (by decide) ?_
    cases h
    exact hret _ _ _ dX7_isDigit_23 nb0 rfl
  · refine g_aload_n (pc := 9) C dX7_isDigit_9 rfl 0 rfl ?_
    refine g_get (pc := 10) C fl_X7_37 dX7_isDigit_10 0 rfl rfl ?_
    refine g_bipush (pc := 13) (v := 57) C dX7_isDigit_13 (by decide) ?_
    refine g_icmp_gt (pc := 15) (tgt := 22) C dX7_isDigit_15 (by decide) h (fun h => ?_) (fun h => ?_)
    · refine g_iconst (pc := 22) (v := 0) C dX7_isDigit_22 (by decide) ?_
      cases h
      exact hret _ _ _ dX7_isDigit_23 nb0 rfl
    · refine g_iconst (pc := 18) (v := 1) C dX7_isDigit_18 (by decide) ?_
      refine g_goto (pc := 19) (tgt := 23) C dX7_isDigit_19 (by decide) ?_
      cases h
      exact hret _ _ _ dX7_isDigit_23 nb1 rfl
abbrev W_X7_isSound (E : GE) (O_t : Nat) (r_t_tape : Nat) (t_end : Int32) (t_place : Int32) (t_sign : Int32) (t_fault : Int32) : va_W := [(O_t, ob_X7 r_t_tape t_end t_place t_sign t_fault)]
def f_X7_isSound (t_fault : Int32) : Option (Int32) := if t_fault = 0 then (some (1 : Int32)) else some (0 : Int32)
theorem dX7_isSound_0 : decode cX7_isSound 0 = .ok (.aload_n 0, 1) := by decide +kernel
theorem dX7_isSound_1 : decode cX7_isSound 1 = .ok (.getfield 19, 3) := by decide +kernel
theorem dX7_isSound_4 : decode cX7_isSound 4 = .ok (.ifCond .ne 7, 3) := by decide +kernel
theorem dX7_isSound_7 : decode cX7_isSound 7 = .ok (.iconst 1, 1) := by decide +kernel
theorem dX7_isSound_8 : decode cX7_isSound 8 = .ok (.goto 4, 3) := by decide +kernel
theorem dX7_isSound_11 : decode cX7_isSound 11 = .ok (.iconst 0, 1) := by decide +kernel
theorem dX7_isSound_12 : decode cX7_isSound 12 = .ok (.ireturn, 1) := by decide +kernel
set_option maxHeartbeats 4000000 in
set_option maxRecDepth 100000 in
theorem c_X7_isSound (l : Launch) (E : GE) (o_t : Nat) (r_t_tape : Nat) (t_end : Int32) (t_place : Int32) (t_sign : Int32) (t_fault : Int32) (r : Int32) (h : f_X7_isSound t_fault = some r) : Cn l E yX7_isSound cX7_isSound 1 (some .boolean) 1 0 0 [.ref o_t] (W_X7_isSound E o_t r_t_tape t_end t_place t_sign t_fault) (fun w => w = (W_X7_isSound E o_t r_t_tape t_end t_place t_sign t_fault)) (some (.int r)) := by
  refine Cn.ofI (by decide +kernel) (Nat.le_of_ble_eq_true rfl) (fun X hX hR C hret => ?_)
  subst hX
  show Gx X E 0 0 (W_X7_isSound E o_t r_t_tape t_end t_place t_sign t_fault) 0 [(0, .ref o_t)] []
  unfold f_X7_isSound at h
  refine g_aload_n (pc := 0) C dX7_isSound_0 rfl 0 rfl ?_
  refine g_get (pc := 1) C fl_X7_19 dX7_isSound_1 0 rfl rfl ?_
  refine g_if_ne (pc := 4) (tgt := 11) C dX7_isSound_4 (by decide) h (fun h => ?_) (fun h => ?_)
  · refine g_iconst (pc := 11) (v := 0) C dX7_isSound_11 (by decide) ?_
    cases h
    exact hret _ _ _ dX7_isSound_12 nb0 rfl
  · refine g_iconst (pc := 7) (v := 1) C dX7_isSound_7 (by decide) ?_
    refine g_goto (pc := 8) (tgt := 12) C dX7_isSound_8 (by decide) ?_
    cases h
    exact hret _ _ _ dX7_isSound_12 nb1 rfl
abbrev W_X7_step (E : GE) (O_t : Nat) (r_t_tape : Nat) (O_tape : Nat) (a_tape : Nat → Nat) (t_end : Int32) (t_place : Int32) (t_sign : Int32) (t_fault : Int32) (tape_size : Int32) (tape_bytes : (Nat → Int32)) : va_W := [(O_t, ob_X7 r_t_tape t_end t_place t_sign t_fault), (O_tape, ob_X8 a_tape tape_size), (a_tape 0, .inl (E.2.1, 260, .inl tape_bytes))]
def f_X7_step (t_end : Int32) (t_place : Int32) (t_sign : Int32) (tape_size : Int32) (tape_bytes : (Nat → Int32)) : Option (Int32 × Int32) := nm (t_place + (1 : Int32)) fun v1 => jn (fun s2 : Int32 => if s2 = 0 then (some (v1, (-1 : Int32))) else rd tape_bytes 260 v1 fun v3 => some (v1, v3)) fun j62 => jn (fun s4 : Unit => j62 (0 : Int32)) fun j61 => if v1 < 0 then (j61 ()) else if t_end ≤ v1 then (j61 ()) else if tape_size ≤ v1 then (j61 ()) else if (260 : Int32) ≤ v1 then (j61 ()) else j62 (1 : Int32)
theorem dX7_step_0 : decode cX7_step 0 = .ok (.aload_n 0, 1) := by decide +kernel
theorem dX7_step_1 : decode cX7_step 1 = .ok (.dup, 1) := by decide +kernel
theorem dX7_step_2 : decode cX7_step 2 = .ok (.getfield 22, 3) := by decide +kernel
theorem dX7_step_5 : decode cX7_step 5 = .ok (.iconst 1, 1) := by decide +kernel
theorem dX7_step_6 : decode cX7_step 6 = .ok (.iadd, 1) := by decide +kernel
theorem dX7_step_7 : decode cX7_step 7 = .ok (.putfield 22, 3) := by decide +kernel
theorem dX7_step_10 : decode cX7_step 10 = .ok (.aload_n 0, 1) := by decide +kernel
theorem dX7_step_11 : decode cX7_step 11 = .ok (.getfield 22, 3) := by decide +kernel
theorem dX7_step_14 : decode cX7_step 14 = .ok (.ifCond .lt 47, 3) := by decide +kernel
theorem dX7_step_17 : decode cX7_step 17 = .ok (.aload_n 0, 1) := by decide +kernel
theorem dX7_step_18 : decode cX7_step 18 = .ok (.getfield 22, 3) := by decide +kernel
theorem dX7_step_21 : decode cX7_step 21 = .ok (.aload_n 0, 1) := by decide +kernel
theorem dX7_step_22 : decode cX7_step 22 = .ok (.getfield 15, 3) := by decide +kernel
theorem dX7_step_25 : decode cX7_step 25 = .ok (.if_icmp .ge 36, 3) := by decide +kernel
theorem dX7_step_28 : decode cX7_step 28 = .ok (.aload_n 0, 1) := by decide +kernel
theorem dX7_step_29 : decode cX7_step 29 = .ok (.getfield 22, 3) := by decide +kernel
theorem dX7_step_32 : decode cX7_step 32 = .ok (.aload_n 0, 1) := by decide +kernel
theorem dX7_step_33 : decode cX7_step 33 = .ok (.getfield 9, 3) := by decide +kernel
theorem dX7_step_36 : decode cX7_step 36 = .ok (.getfield 28, 3) := by decide +kernel
theorem dX7_step_39 : decode cX7_step 39 = .ok (.if_icmp .ge 22, 3) := by decide +kernel
theorem dX7_step_42 : decode cX7_step 42 = .ok (.aload_n 0, 1) := by decide +kernel
theorem dX7_step_43 : decode cX7_step 43 = .ok (.getfield 22, 3) := by decide +kernel
theorem dX7_step_46 : decode cX7_step 46 = .ok (.aload_n 0, 1) := by decide +kernel
theorem dX7_step_47 : decode cX7_step 47 = .ok (.getfield 9, 3) := by decide +kernel
theorem dX7_step_50 : decode cX7_step 50 = .ok (.getfield 33, 3) := by decide +kernel
theorem dX7_step_53 : decode cX7_step 53 = .ok (.arraylength, 1) := by decide +kernel
theorem dX7_step_54 : decode cX7_step 54 = .ok (.if_icmp .ge 7, 3) := by decide +kernel
theorem dX7_step_57 : decode cX7_step 57 = .ok (.iconst 1, 1) := by decide +kernel
theorem dX7_step_58 : decode cX7_step 58 = .ok (.goto 4, 3) := by decide +kernel
theorem dX7_step_61 : decode cX7_step 61 = .ok (.iconst 0, 1) := by decide +kernel
theorem dX7_step_62 : decode cX7_step 62 = .ok (.istore_n 1, 1) := by decide +kernel
theorem dX7_step_63 : decode cX7_step 63 = .ok (.aload_n 0, 1) := by decide +kernel
theorem dX7_step_64 : decode cX7_step 64 = .ok (.iload_n 1, 1) := by decide +kernel
theorem dX7_step_65 : decode cX7_step 65 = .ok (.ifCond .eq 18, 3) := by decide +kernel
theorem dX7_step_68 : decode cX7_step 68 = .ok (.aload_n 0, 1) := by decide +kernel
theorem dX7_step_69 : decode cX7_step 69 = .ok (.getfield 9, 3) := by decide +kernel
theorem dX7_step_72 : decode cX7_step 72 = .ok (.getfield 33, 3) := by decide +kernel
theorem dX7_step_75 : decode cX7_step 75 = .ok (.aload_n 0, 1) := by decide +kernel
theorem dX7_step_76 : decode cX7_step 76 = .ok (.getfield 22, 3) := by decide +kernel
theorem dX7_step_79 : decode cX7_step 79 = .ok (.iaload, 1) := by decide +kernel
theorem dX7_step_80 : decode cX7_step 80 = .ok (.goto 4, 3) := by decide +kernel
theorem dX7_step_83 : decode cX7_step 83 = .ok (.iconst (-1), 1) := by decide +kernel
theorem dX7_step_84 : decode cX7_step 84 = .ok (.putfield 37, 3) := by decide +kernel
theorem dX7_step_87 : decode cX7_step 87 = .ok (.return_, 1) := by decide +kernel
set_option maxHeartbeats 4000000 in
set_option maxRecDepth 100000 in
theorem c_X7_step (l : Launch) (E : GE) (o_t : Nat) (r_t_tape : Nat) (a_tape : Nat → Nat) (t_end : Int32) (t_place : Int32) (t_sign : Int32) (t_fault : Int32) (tape_size : Int32) (tape_bytes : (Nat → Int32)) (r : Int32 × Int32) (h : f_X7_step t_end t_place t_sign tape_size tape_bytes = some r) : Cn l E yX7_step cX7_step 2 none 1 0 0 [.ref o_t] (W_X7_step E o_t r_t_tape r_t_tape a_tape t_end t_place t_sign t_fault tape_size tape_bytes) (fun w => w = (W_X7_step E o_t r_t_tape r_t_tape a_tape t_end r.1 r.2 t_fault tape_size tape_bytes)) none := by
  refine Cn.ofV (by decide +kernel) (Nat.le_of_ble_eq_true rfl) (fun X hX hR C hret => ?_)
  subst hX
  show Gx X E 0 0 (W_X7_step E o_t r_t_tape r_t_tape a_tape t_end t_place t_sign t_fault tape_size tape_bytes) 0 [(0, .ref o_t)] []
  unfold f_X7_step at h
  refine g_aload_n (pc := 0) C dX7_step_0 rfl 0 rfl ?_
  refine g_dup (pc := 1) C dX7_step_1 rfl ?_
  refine g_get (pc := 2) C fl_X7_22 dX7_step_2 0 rfl rfl ?_
  refine g_iconst (pc := 5) (v := 1) C dX7_step_5 (by decide) ?_
  refine g_iadd (pc := 6) C dX7_step_6 ?_
  refine g_nm h (fun v1 h => ?_)
  refine g_put (pc := 7) (ws' := (W_X7_step E o_t r_t_tape r_t_tape a_tape t_end v1 t_sign t_fault tape_size tape_bytes)) C .int fl_X7_22 dX7_step_7 0 rfl (by decide +kernel) rfl rfl (Nat.le_of_ble_eq_true rfl) rfl ?_
  refine g_aload_n (pc := 10) C dX7_step_10 rfl 0 rfl ?_
  refine g_get (pc := 11) C fl_X7_22 dX7_step_11 0 rfl rfl ?_
  refine g_jn (fun s2 : Int32 => Gx X E 0 0 (W_X7_step E o_t r_t_tape r_t_tape a_tape t_end v1 t_sign t_fault tape_size tape_bytes) 62 [(0, .ref o_t)] [.int s2]) h (fun s2 h => ?_) (fun j62 hj62 h => ?_)
  · refine g_istore_n (pc := 62) (lv' := [(1, .int s2), (0, .ref o_t)]) C dX7_step_62 rfl (by decide) rfl ?_
    refine g_aload_n (pc := 63) C dX7_step_63 rfl 1 rfl ?_
    refine g_iload_n (pc := 64) C dX7_step_64 rfl 0 rfl ?_
    refine g_if_eq (pc := 65) (tgt := 83) C dX7_step_65 (by decide) h (fun h => ?_) (fun h => ?_)
    · refine g_iconst (pc := 83) (v := -1) C dX7_step_83 (by decide) ?_
      refine g_put (pc := 84) (ws' := (W_X7_step E o_t r_t_tape r_t_tape a_tape t_end v1 (-1 : Int32) t_fault tape_size tape_bytes)) C .int fl_X7_37 dX7_step_84 0 rfl (by decide +kernel) rfl rfl (Nat.le_of_ble_eq_true rfl) rfl ?_
      cases h
      exact hret _ _ _ dX7_step_87 rfl
    · refine g_aload_n (pc := 68) C dX7_step_68 rfl 1 rfl ?_
      refine g_get (pc := 69) C fl_X7_9 dX7_step_69 0 rfl rfl ?_
      refine g_get (pc := 72) C fl_X7_33 dX7_step_72 1 rfl rfl ?_
      refine g_aload_n (pc := 75) C dX7_step_75 rfl 1 rfl ?_
      refine g_get (pc := 76) C fl_X7_22 dX7_step_76 0 rfl rfl ?_
      refine g_iald (pc := 79) C dX7_step_79 2 rfl h (fun v3 h => ?_)
      refine g_goto (pc := 80) (tgt := 84) C dX7_step_80 (by decide) ?_
      refine g_put (pc := 84) (ws' := (W_X7_step E o_t r_t_tape r_t_tape a_tape t_end v1 v3 t_fault tape_size tape_bytes)) C .int fl_X7_37 dX7_step_84 0 rfl (by decide +kernel) rfl rfl (Nat.le_of_ble_eq_true rfl) rfl ?_
      cases h
      exact hret _ _ _ dX7_step_87 rfl
  refine g_jn (fun s4 : Unit => Gx X E 0 0 (W_X7_step E o_t r_t_tape r_t_tape a_tape t_end v1 t_sign t_fault tape_size tape_bytes) 61 [(0, .ref o_t)] []) h (fun s4 h => ?_) (fun j61 hj61 h => ?_)
  · refine g_iconst (pc := 61) (v := 0) C dX7_step_61 (by decide) ?_
    exact hj62 _ h
  refine g_if_lt (pc := 14) (tgt := 61) C dX7_step_14 (by decide) h (fun h => ?_) (fun h => ?_)
  · exact hj61 _ h
  · refine g_aload_n (pc := 17) C dX7_step_17 rfl 0 rfl ?_
    refine g_get (pc := 18) C fl_X7_22 dX7_step_18 0 rfl rfl ?_
    refine g_aload_n (pc := 21) C dX7_step_21 rfl 0 rfl ?_
    refine g_get (pc := 22) C fl_X7_15 dX7_step_22 0 rfl rfl ?_
    refine g_icmp_ge (pc := 25) (tgt := 61) C dX7_step_25 (by decide) h (fun h => ?_) (fun h => ?_)
    · exact hj61 _ h
    · refine g_aload_n (pc := 28) C dX7_step_28 rfl 0 rfl ?_
      refine g_get (pc := 29) C fl_X7_22 dX7_step_29 0 rfl rfl ?_
      refine g_aload_n (pc := 32) C dX7_step_32 rfl 0 rfl ?_
      refine g_get (pc := 33) C fl_X7_9 dX7_step_33 0 rfl rfl ?_
      refine g_get (pc := 36) C fl_X7_28 dX7_step_36 1 rfl rfl ?_
      refine g_icmp_ge (pc := 39) (tgt := 61) C dX7_step_39 (by decide) h (fun h => ?_) (fun h => ?_)
      · exact hj61 _ h
      · refine g_aload_n (pc := 42) C dX7_step_42 rfl 0 rfl ?_
        refine g_get (pc := 43) C fl_X7_22 dX7_step_43 0 rfl rfl ?_
        refine g_aload_n (pc := 46) C dX7_step_46 rfl 0 rfl ?_
        refine g_get (pc := 47) C fl_X7_9 dX7_step_47 0 rfl rfl ?_
        refine g_get (pc := 50) C fl_X7_33 dX7_step_50 1 rfl rfl ?_
        refine g_alen (pc := 53) (v := 260) C dX7_step_53 2 rfl (by decide) ?_
        refine g_icmp_ge (pc := 54) (tgt := 61) C dX7_step_54 (by decide) h (fun h => ?_) (fun h => ?_)
        · exact hj61 _ h
        · refine g_iconst (pc := 57) (v := 1) C dX7_step_57 (by decide) ?_
          refine g_goto (pc := 58) (tgt := 62) C dX7_step_58 (by decide) ?_
          exact hj62 _ h
abbrev W_X8_add (E : GE) (O_t : Nat) (a_t : Nat → Nat) (t_size : Int32) (t_bytes : (Nat → Int32)) : va_W := [(O_t, ob_X8 a_t t_size), (a_t 0, .inl (E.2.1, 260, .inl t_bytes))]
def L_X8_add_3 (x1 : Int32) : Nat → Int32 × Int32 × (Nat → Int32) → Option (Int32 × (Nat → Int32)) := lp fun go s => if s.1 < 0 then (some (s.2.1, s.2.2)) else if (260 : Int32) ≤ s.2.1 then (nm (s.1 + (-8 : Int32)) fun v1 => go (v1, s.2.1, s.2.2)) else wr s.2.2 260 s.2.1 ((x1 >>> (s.1 &&& 31)) &&& (255 : Int32)) fun g2 => nm (s.2.1 + (1 : Int32)) fun v3 => nm (s.1 + (-8 : Int32)) fun v4 => go (v4, v3, g2)
def f_X8_add (t_size : Int32) (t_bytes : (Nat → Int32)) (x1 : Int32) : Option (Int32 × (Nat → Int32)) := L_X8_add_3 x1 fu ((24 : Int32), t_size, t_bytes)
theorem dX8_add_0 : decode cX8_add 0 = .ok (.bipush 24, 2) := by decide +kernel
theorem dX8_add_2 : decode cX8_add 2 = .ok (.istore_n 2, 1) := by decide +kernel
theorem dX8_add_3 : decode cX8_add 3 = .ok (.iload_n 2, 1) := by decide +kernel
theorem dX8_add_4 : decode cX8_add 4 = .ok (.ifCond .lt 47, 3) := by decide +kernel
theorem dX8_add_7 : decode cX8_add 7 = .ok (.aload_n 0, 1) := by decide +kernel
theorem dX8_add_8 : decode cX8_add 8 = .ok (.getfield 15, 3) := by decide +kernel
theorem dX8_add_11 : decode cX8_add 11 = .ok (.aload_n 0, 1) := by decide +kernel
theorem dX8_add_12 : decode cX8_add 12 = .ok (.getfield 9, 3) := by decide +kernel
theorem dX8_add_15 : decode cX8_add 15 = .ok (.arraylength, 1) := by decide +kernel
theorem dX8_add_16 : decode cX8_add 16 = .ok (.if_icmp .ge 29, 3) := by decide +kernel
theorem dX8_add_19 : decode cX8_add 19 = .ok (.aload_n 0, 1) := by decide +kernel
theorem dX8_add_20 : decode cX8_add 20 = .ok (.getfield 9, 3) := by decide +kernel
theorem dX8_add_23 : decode cX8_add 23 = .ok (.aload_n 0, 1) := by decide +kernel
theorem dX8_add_24 : decode cX8_add 24 = .ok (.getfield 15, 3) := by decide +kernel
theorem dX8_add_27 : decode cX8_add 27 = .ok (.iload_n 1, 1) := by decide +kernel
theorem dX8_add_28 : decode cX8_add 28 = .ok (.iload_n 2, 1) := by decide +kernel
theorem dX8_add_29 : decode cX8_add 29 = .ok (.ishr, 1) := by decide +kernel
theorem dX8_add_30 : decode cX8_add 30 = .ok (.sipush 255, 3) := by decide +kernel
theorem dX8_add_33 : decode cX8_add 33 = .ok (.iand, 1) := by decide +kernel
theorem dX8_add_34 : decode cX8_add 34 = .ok (.iastore, 1) := by decide +kernel
theorem dX8_add_35 : decode cX8_add 35 = .ok (.aload_n 0, 1) := by decide +kernel
theorem dX8_add_36 : decode cX8_add 36 = .ok (.dup, 1) := by decide +kernel
theorem dX8_add_37 : decode cX8_add 37 = .ok (.getfield 15, 3) := by decide +kernel
theorem dX8_add_40 : decode cX8_add 40 = .ok (.iconst 1, 1) := by decide +kernel
theorem dX8_add_41 : decode cX8_add 41 = .ok (.iadd, 1) := by decide +kernel
theorem dX8_add_42 : decode cX8_add 42 = .ok (.putfield 15, 3) := by decide +kernel
theorem dX8_add_45 : decode cX8_add 45 = .ok (.iinc 2 (-8), 3) := by decide +kernel
theorem dX8_add_48 : decode cX8_add 48 = .ok (.goto (-45), 3) := by decide +kernel
theorem dX8_add_51 : decode cX8_add 51 = .ok (.return_, 1) := by decide +kernel
set_option maxHeartbeats 4000000 in
set_option maxRecDepth 100000 in
theorem kL_X8_add_3 {X : GC} {E : GE} (C : Cx X E cX8_add RX8 1 3) (o_t : Nat) (a_t : Nat → Nat) (x1 : Int32) {r : Int32 × (Nat → Int32)} (hret : RtV X E cX8_add 0 0 (fun w => w = (W_X8_add E o_t a_t r.1 r.2))) : ∀ (n : Nat) (s : Int32 × Int32 × (Nat → Int32)), L_X8_add_3 x1 n s = some r → Gx X E 0 0 (W_X8_add E o_t a_t s.2.1 s.2.2) 3 [(0, .ref o_t), (1, .int x1), (2, .int s.1)] [] := by
  unfold L_X8_add_3
  refine lp_ind _ (fun go ih s h => ?_)
  refine g_iload_n (pc := 3) C dX8_add_3 rfl 2 rfl ?_
  refine g_if_lt (pc := 4) (tgt := 51) C dX8_add_4 (by decide) h (fun h => ?_) (fun h => ?_)
  · cases h
    exact hret _ _ _ dX8_add_51 rfl
  · refine g_aload_n (pc := 7) C dX8_add_7 rfl 0 rfl ?_
    refine g_get (pc := 8) C fl_X8_15 dX8_add_8 0 rfl rfl ?_
    refine g_aload_n (pc := 11) C dX8_add_11 rfl 0 rfl ?_
    refine g_get (pc := 12) C fl_X8_9 dX8_add_12 0 rfl rfl ?_
    refine g_alen (pc := 15) (v := 260) C dX8_add_15 1 rfl (by decide) ?_
    refine g_icmp_ge (pc := 16) (tgt := 45) C dX8_add_16 (by decide) h (fun h => ?_) (fun h => ?_)
    · refine g_iincn (pc := 45) (j := 2) (d := -8) (lv' := fun v1 => [(2, .int v1), (0, .ref o_t), (1, .int x1)]) C dX8_add_45 rfl (by decide) (by decide) (fun _ => rfl) h (fun v1 h => ?_)
      refine g_goto (pc := 48) (tgt := 3) C dX8_add_48 (by decide) ?_
      refine g_sub [1, 2, 0] rfl ?_
      exact ih _ h
    · refine g_aload_n (pc := 19) C dX8_add_19 rfl 0 rfl ?_
      refine g_get (pc := 20) C fl_X8_9 dX8_add_20 0 rfl rfl ?_
      refine g_aload_n (pc := 23) C dX8_add_23 rfl 0 rfl ?_
      refine g_get (pc := 24) C fl_X8_15 dX8_add_24 0 rfl rfl ?_
      refine g_iload_n (pc := 27) C dX8_add_27 rfl 1 rfl ?_
      refine g_iload_n (pc := 28) C dX8_add_28 rfl 2 rfl ?_
      refine g_ishr (pc := 29) C dX8_add_29 ?_
      refine g_sipush (pc := 30) (v := 255) C dX8_add_30 (by decide) ?_
      refine g_iand (pc := 33) C dX8_add_33 ?_
      refine g_iast (pc := 34) C dX8_add_34 1 rfl h (fun g2 h => ?_)
      refine g_ws (ws' := (W_X8_add E o_t a_t s.2.1 g2)) rfl ?_
      refine g_aload_n (pc := 35) C dX8_add_35 rfl 0 rfl ?_
      refine g_dup (pc := 36) C dX8_add_36 rfl ?_
      refine g_get (pc := 37) C fl_X8_15 dX8_add_37 0 rfl rfl ?_
      refine g_iconst (pc := 40) (v := 1) C dX8_add_40 (by decide) ?_
      refine g_iadd (pc := 41) C dX8_add_41 ?_
      refine g_nm h (fun v3 h => ?_)
      refine g_put (pc := 42) (ws' := (W_X8_add E o_t a_t v3 g2)) C .int fl_X8_15 dX8_add_42 0 rfl (by decide +kernel) rfl rfl (Nat.le_of_ble_eq_true rfl) rfl ?_
      refine g_iincn (pc := 45) (j := 2) (d := -8) (lv' := fun v4 => [(2, .int v4), (0, .ref o_t), (1, .int x1)]) C dX8_add_45 rfl (by decide) (by decide) (fun _ => rfl) h (fun v4 h => ?_)
      refine g_goto (pc := 48) (tgt := 3) C dX8_add_48 (by decide) ?_
      refine g_sub [1, 2, 0] rfl ?_
      exact ih _ h
set_option maxHeartbeats 4000000 in
set_option maxRecDepth 100000 in
theorem c_X8_add (l : Launch) (E : GE) (o_t : Nat) (a_t : Nat → Nat) (t_size : Int32) (t_bytes : (Nat → Int32)) (x1 : Int32) (r : Int32 × (Nat → Int32)) (h : f_X8_add t_size t_bytes x1 = some r) : Cn l E yX8_add cX8_add 3 none 1 0 0 [.ref o_t, .int x1] (W_X8_add E o_t a_t t_size t_bytes) (fun w => w = (W_X8_add E o_t a_t r.1 r.2)) none := by
  refine Cn.ofV (by decide +kernel) (Nat.le_of_ble_eq_true rfl) (fun X hX hR C hret => ?_)
  subst hX
  show Gx X E 0 0 (W_X8_add E o_t a_t t_size t_bytes) 0 [(0, .ref o_t), (1, .int x1)] []
  unfold f_X8_add at h
  refine g_bipush (pc := 0) (v := 24) C dX8_add_0 (by decide) ?_
  refine g_istore_n (pc := 2) (lv' := [(2, .int (24 : Int32)), (0, .ref o_t), (1, .int x1)]) C dX8_add_2 rfl (by decide) rfl ?_
  refine g_sub [1, 2, 0] rfl ?_
  refine kL_X8_add_3 C o_t a_t x1 hret  _ _ h
abbrev W_X8_at (E : GE) (O_t : Nat) (a_t : Nat → Nat) (t_size : Int32) (t_bytes : (Nat → Int32)) : va_W := [(O_t, ob_X8 a_t t_size), (a_t 0, .inl (E.2.1, 260, .inl t_bytes))]
def f_X8_at (t_size : Int32) (t_bytes : (Nat → Int32)) (x1 : Int32) : Option (Int32) := if x1 < 0 then (some (-1 : Int32)) else if t_size ≤ x1 then (some (-1 : Int32)) else rd t_bytes 260 x1 fun v1 => some v1
theorem dX8_at_0 : decode cX8_at 0 = .ok (.iload_n 1, 1) := by decide +kernel
theorem dX8_at_1 : decode cX8_at 1 = .ok (.ifCond .lt 20, 3) := by decide +kernel
theorem dX8_at_4 : decode cX8_at 4 = .ok (.iload_n 1, 1) := by decide +kernel
theorem dX8_at_5 : decode cX8_at 5 = .ok (.aload_n 0, 1) := by decide +kernel
theorem dX8_at_6 : decode cX8_at 6 = .ok (.getfield 15, 3) := by decide +kernel
theorem dX8_at_9 : decode cX8_at 9 = .ok (.if_icmp .ge 12, 3) := by decide +kernel
theorem dX8_at_12 : decode cX8_at 12 = .ok (.aload_n 0, 1) := by decide +kernel
theorem dX8_at_13 : decode cX8_at 13 = .ok (.getfield 9, 3) := by decide +kernel
theorem dX8_at_16 : decode cX8_at 16 = .ok (.iload_n 1, 1) := by decide +kernel
theorem dX8_at_17 : decode cX8_at 17 = .ok (.iaload, 1) := by decide +kernel
theorem dX8_at_18 : decode cX8_at 18 = .ok (.goto 4, 3) := by decide +kernel
theorem dX8_at_21 : decode cX8_at 21 = .ok (.iconst (-1), 1) := by decide +kernel
theorem dX8_at_22 : decode cX8_at 22 = .ok (.ireturn, 1) := by decide +kernel
set_option maxHeartbeats 4000000 in
set_option maxRecDepth 100000 in
theorem c_X8_at (l : Launch) (E : GE) (o_t : Nat) (a_t : Nat → Nat) (t_size : Int32) (t_bytes : (Nat → Int32)) (x1 : Int32) (r : Int32) (h : f_X8_at t_size t_bytes x1 = some r) : Cn l E yX8_at cX8_at 2 (some .int) 1 0 0 [.ref o_t, .int x1] (W_X8_at E o_t a_t t_size t_bytes) (fun w => w = (W_X8_at E o_t a_t t_size t_bytes)) (some (.int r)) := by
  refine Cn.ofI (by decide +kernel) (Nat.le_of_ble_eq_true rfl) (fun X hX hR C hret => ?_)
  subst hX
  show Gx X E 0 0 (W_X8_at E o_t a_t t_size t_bytes) 0 [(0, .ref o_t), (1, .int x1)] []
  unfold f_X8_at at h
  refine g_iload_n (pc := 0) C dX8_at_0 rfl 1 rfl ?_
  refine g_if_lt (pc := 1) (tgt := 21) C dX8_at_1 (by decide) h (fun h => ?_) (fun h => ?_)
  · refine g_iconst (pc := 21) (v := -1) C dX8_at_21 (by decide) ?_
    cases h
    exact hret _ _ _ dX8_at_22 rfl rfl
  · refine g_iload_n (pc := 4) C dX8_at_4 rfl 1 rfl ?_
    refine g_aload_n (pc := 5) C dX8_at_5 rfl 0 rfl ?_
    refine g_get (pc := 6) C fl_X8_15 dX8_at_6 0 rfl rfl ?_
    refine g_icmp_ge (pc := 9) (tgt := 21) C dX8_at_9 (by decide) h (fun h => ?_) (fun h => ?_)
    · refine g_iconst (pc := 21) (v := -1) C dX8_at_21 (by decide) ?_
      cases h
      exact hret _ _ _ dX8_at_22 rfl rfl
    · refine g_aload_n (pc := 12) C dX8_at_12 rfl 0 rfl ?_
      refine g_get (pc := 13) C fl_X8_9 dX8_at_13 0 rfl rfl ?_
      refine g_iload_n (pc := 16) C dX8_at_16 rfl 1 rfl ?_
      refine g_iald (pc := 17) C dX8_at_17 1 rfl h (fun v1 h => ?_)
      refine g_goto (pc := 18) (tgt := 22) C dX8_at_18 (by decide) ?_
      cases h
      exact hret _ _ _ dX8_at_22 rfl rfl
abbrev W_X8_clear (E : GE) (O_t : Nat) (a_t : Nat → Nat) (t_size : Int32) : va_W := [(O_t, ob_X8 a_t t_size)]
def f_X8_clear (t_size : Int32) : Option (Int32) := some (0 : Int32)
theorem dX8_clear_0 : decode cX8_clear 0 = .ok (.aload_n 0, 1) := by decide +kernel
theorem dX8_clear_1 : decode cX8_clear 1 = .ok (.iconst 0, 1) := by decide +kernel
theorem dX8_clear_2 : decode cX8_clear 2 = .ok (.putfield 15, 3) := by decide +kernel
theorem dX8_clear_5 : decode cX8_clear 5 = .ok (.return_, 1) := by decide +kernel
set_option maxHeartbeats 4000000 in
set_option maxRecDepth 100000 in
theorem c_X8_clear (l : Launch) (E : GE) (o_t : Nat) (a_t : Nat → Nat) (t_size : Int32) (r : Int32) (h : f_X8_clear t_size = some r) : Cn l E yX8_clear cX8_clear 1 none 1 0 0 [.ref o_t] (W_X8_clear E o_t a_t t_size) (fun w => w = (W_X8_clear E o_t a_t r)) none := by
  refine Cn.ofV (by decide +kernel) (Nat.le_of_ble_eq_true rfl) (fun X hX hR C hret => ?_)
  subst hX
  show Gx X E 0 0 (W_X8_clear E o_t a_t t_size) 0 [(0, .ref o_t)] []
  unfold f_X8_clear at h
  refine g_aload_n (pc := 0) C dX8_clear_0 rfl 0 rfl ?_
  refine g_iconst (pc := 1) (v := 0) C dX8_clear_1 (by decide) ?_
  refine g_put (pc := 2) (ws' := (W_X8_clear E o_t a_t (0 : Int32))) C .int fl_X8_15 dX8_clear_2 0 rfl (by decide +kernel) rfl rfl (Nat.le_of_ble_eq_true rfl) rfl ?_
  cases h
  exact hret _ _ _ dX8_clear_5 rfl
abbrev W_X7_number (E : GE) (O_t : Nat) (r_t_tape : Nat) (O_tape : Nat) (a_tape : Nat → Nat) (t_end : Int32) (t_place : Int32) (t_sign : Int32) (t_fault : Int32) (tape_size : Int32) (tape_bytes : (Nat → Int32)) : va_W := [(O_t, ob_X7 r_t_tape t_end t_place t_sign t_fault), (O_tape, ob_X8 a_tape tape_size), (a_tape 0, .inl (E.2.1, 260, .inl tape_bytes))]
def L_X7_number_27 (t_end : Int32) (tape_size : Int32) (tape_bytes : (Nat → Int32)) (x1 : Int32) (x2 : Int32) (x3 : Int32) (k0 : Int32 × Int32 × Int32 × Int32 → Option (Int32 × Int32 × Int32 × Int32)) : Nat → Int32 × Int32 × Int32 × Int32 × Int32 → Option (Int32 × Int32 × Int32 × Int32) := lp fun go s => if x1 < s.2.1 then (k0 (s.1, s.2.2.1, s.2.2.2.1, s.2.2.2.2)) else if s.2.2.2.2 = 0 then ((f_X7_isDigit s.2.2.2.1).bind fun u3 => if u3 = 0 then (k0 (s.1, s.2.2.1, s.2.2.2.1, s.2.2.2.2)) else if s.2.1 = x1 then ((f_X7_fail s.2.2.2.2 (2 : Int32) s.2.2.1).bind fun u7 => nm (s.2.1 + (1 : Int32)) fun v8 => go (s.1, v8, s.2.2.1, s.2.2.2.1, u7)) else nm ((((10 : Int32) * s.1) + s.2.2.2.1) - (48 : Int32)) fun v4 => (f_X7_step t_end s.2.2.1 s.2.2.2.1 tape_size tape_bytes).bind fun u5 => nm (s.2.1 + (1 : Int32)) fun v6 => go (v4, v6, u5.1, u5.2, s.2.2.2.2)) else k0 (s.1, s.2.2.1, s.2.2.2.1, s.2.2.2.2)
def f_X7_number (t_end : Int32) (t_place : Int32) (t_sign : Int32) (t_fault : Int32) (tape_size : Int32) (tape_bytes : (Nat → Int32)) (x1 : Int32) (x2 : Int32) : Option (Int32 × Int32 × Int32 × Int32) := (f_X7_isDigit t_sign).bind fun u1 => jn (fun s2 : Int32 => L_X7_number_27 t_end tape_size tape_bytes x1 x2 t_place (fun s9 => if s9.1 ≤ x2 then (some (s9.1, s9.2.1, s9.2.2.1, s9.2.2.2)) else (f_X7_fail s9.2.2.2 (3 : Int32) t_place).bind fun u10 => some (s9.1, s9.2.1, s9.2.2.1, u10)) fu ((0 : Int32), (0 : Int32), t_place, t_sign, s2)) fun j24 => if u1 = 0 then ((f_X7_fail t_fault (1 : Int32) t_place).bind fun u11 => j24 u11) else j24 t_fault
theorem dX7_number_0 : decode cX7_number 0 = .ok (.aload_n 0, 1) := by decide +kernel
theorem dX7_number_1 : decode cX7_number 1 = .ok (.getfield 22, 3) := by decide +kernel
theorem dX7_number_4 : decode cX7_number 4 = .ok (.istore_n 3, 1) := by decide +kernel
theorem dX7_number_5 : decode cX7_number 5 = .ok (.iconst 0, 1) := by decide +kernel
theorem dX7_number_6 : decode cX7_number 6 = .ok (.istore 4, 2) := by decide +kernel
theorem dX7_number_8 : decode cX7_number 8 = .ok (.aload_n 0, 1) := by decide +kernel
theorem dX7_number_9 : decode cX7_number 9 = .ok (.invokevirtual 44, 3) := by decide +kernel
theorem dX7_number_12 : decode cX7_number 12 = .ok (.ifCond .ne 12, 3) := by decide +kernel
theorem dX7_number_15 : decode cX7_number 15 = .ok (.aload_n 0, 1) := by decide +kernel
theorem dX7_number_16 : decode cX7_number 16 = .ok (.iconst 1, 1) := by decide +kernel
theorem dX7_number_17 : decode cX7_number 17 = .ok (.aload_n 0, 1) := by decide +kernel
theorem dX7_number_18 : decode cX7_number 18 = .ok (.getfield 22, 3) := by decide +kernel
theorem dX7_number_21 : decode cX7_number 21 = .ok (.invokevirtual 40, 3) := by decide +kernel
theorem dX7_number_24 : decode cX7_number 24 = .ok (.iconst 0, 1) := by decide +kernel
theorem dX7_number_25 : decode cX7_number 25 = .ok (.istore 5, 2) := by decide +kernel
theorem dX7_number_27 : decode cX7_number 27 = .ok (.iload 5, 2) := by decide +kernel
theorem dX7_number_29 : decode cX7_number 29 = .ok (.iload_n 1, 1) := by decide +kernel
theorem dX7_number_30 : decode cX7_number 30 = .ok (.if_icmp .gt 60, 3) := by decide +kernel
theorem dX7_number_33 : decode cX7_number 33 = .ok (.aload_n 0, 1) := by decide +kernel
theorem dX7_number_34 : decode cX7_number 34 = .ok (.getfield 19, 3) := by decide +kernel
theorem dX7_number_37 : decode cX7_number 37 = .ok (.ifCond .ne 53, 3) := by decide +kernel
theorem dX7_number_40 : decode cX7_number 40 = .ok (.aload_n 0, 1) := by decide +kernel
theorem dX7_number_41 : decode cX7_number 41 = .ok (.invokevirtual 44, 3) := by decide +kernel
theorem dX7_number_44 : decode cX7_number 44 = .ok (.ifCond .eq 46, 3) := by decide +kernel
theorem dX7_number_47 : decode cX7_number 47 = .ok (.iload 5, 2) := by decide +kernel
theorem dX7_number_49 : decode cX7_number 49 = .ok (.iload_n 1, 1) := by decide +kernel
theorem dX7_number_50 : decode cX7_number 50 = .ok (.if_icmp .ne 15, 3) := by decide +kernel
theorem dX7_number_53 : decode cX7_number 53 = .ok (.aload_n 0, 1) := by decide +kernel
theorem dX7_number_54 : decode cX7_number 54 = .ok (.iconst 2, 1) := by decide +kernel
theorem dX7_number_55 : decode cX7_number 55 = .ok (.aload_n 0, 1) := by decide +kernel
theorem dX7_number_56 : decode cX7_number 56 = .ok (.getfield 22, 3) := by decide +kernel
theorem dX7_number_59 : decode cX7_number 59 = .ok (.invokevirtual 40, 3) := by decide +kernel
theorem dX7_number_62 : decode cX7_number 62 = .ok (.goto 22, 3) := by decide +kernel
theorem dX7_number_65 : decode cX7_number 65 = .ok (.bipush 10, 2) := by decide +kernel
theorem dX7_number_67 : decode cX7_number 67 = .ok (.iload 4, 2) := by decide +kernel
theorem dX7_number_69 : decode cX7_number 69 = .ok (.imul, 1) := by decide +kernel
theorem dX7_number_70 : decode cX7_number 70 = .ok (.aload_n 0, 1) := by decide +kernel
theorem dX7_number_71 : decode cX7_number 71 = .ok (.getfield 37, 3) := by decide +kernel
theorem dX7_number_74 : decode cX7_number 74 = .ok (.iadd, 1) := by decide +kernel
theorem dX7_number_75 : decode cX7_number 75 = .ok (.bipush 48, 2) := by decide +kernel
theorem dX7_number_77 : decode cX7_number 77 = .ok (.isub, 1) := by decide +kernel
theorem dX7_number_78 : decode cX7_number 78 = .ok (.istore 4, 2) := by decide +kernel
theorem dX7_number_80 : decode cX7_number 80 = .ok (.aload_n 0, 1) := by decide +kernel
theorem dX7_number_81 : decode cX7_number 81 = .ok (.invokevirtual 25, 3) := by decide +kernel
theorem dX7_number_84 : decode cX7_number 84 = .ok (.iinc 5 1, 3) := by decide +kernel
theorem dX7_number_87 : decode cX7_number 87 = .ok (.goto (-60), 3) := by decide +kernel
theorem dX7_number_90 : decode cX7_number 90 = .ok (.iload 4, 2) := by decide +kernel
theorem dX7_number_92 : decode cX7_number 92 = .ok (.iload_n 2, 1) := by decide +kernel
theorem dX7_number_93 : decode cX7_number 93 = .ok (.if_icmp .le 9, 3) := by decide +kernel
theorem dX7_number_96 : decode cX7_number 96 = .ok (.aload_n 0, 1) := by decide +kernel
theorem dX7_number_97 : decode cX7_number 97 = .ok (.iconst 3, 1) := by decide +kernel
theorem dX7_number_98 : decode cX7_number 98 = .ok (.iload_n 3, 1) := by decide +kernel
theorem dX7_number_99 : decode cX7_number 99 = .ok (.invokevirtual 40, 3) := by decide +kernel
theorem dX7_number_102 : decode cX7_number 102 = .ok (.iload 4, 2) := by decide +kernel
theorem dX7_number_104 : decode cX7_number 104 = .ok (.ireturn, 1) := by decide +kernel
set_option maxHeartbeats 4000000 in
set_option maxRecDepth 100000 in
theorem kL_X7_number_27 {X : GC} {E : GE} (C : Cx X E cX7_number RX7 2 6) (o_t : Nat) (r_t_tape : Nat) (a_tape : Nat → Nat) (t_end : Int32) (tape_size : Int32) (tape_bytes : (Nat → Int32)) (x1 : Int32) (x2 : Int32) (x3 : Int32) (k0 : Int32 × Int32 × Int32 × Int32 → Option (Int32 × Int32 × Int32 × Int32)) {r : Int32 × Int32 × Int32 × Int32} (hret : RtI X E cX7_number .int 0 0 (fun w => w = (W_X7_number E o_t r_t_tape r_t_tape a_tape t_end r.2.1 r.2.2.1 r.2.2.2 tape_size tape_bytes)) r.1) (hk0 : ∀ u, k0 u = some r → Gx X E 0 0 (W_X7_number E o_t r_t_tape r_t_tape a_tape t_end u.2.1 u.2.2.1 u.2.2.2 tape_size tape_bytes) 90 [(0, .ref o_t), (2, .int x2), (3, .int x3), (4, .int u.1)] []) : ∀ (n : Nat) (s : Int32 × Int32 × Int32 × Int32 × Int32), L_X7_number_27 t_end tape_size tape_bytes x1 x2 x3 k0 n s = some r → Gx X E 0 0 (W_X7_number E o_t r_t_tape r_t_tape a_tape t_end s.2.2.1 s.2.2.2.1 s.2.2.2.2 tape_size tape_bytes) 27 [(0, .ref o_t), (1, .int x1), (2, .int x2), (3, .int x3), (4, .int s.1), (5, .int s.2.1)] [] := by
  unfold L_X7_number_27
  refine lp_ind _ (fun go ih s h => ?_)
  refine g_iload (pc := 27) C dX7_number_27 5 rfl ?_
  refine g_iload_n (pc := 29) C dX7_number_29 rfl 1 rfl ?_
  refine g_icmp_gt (pc := 30) (tgt := 90) C dX7_number_30 (by decide) h (fun h => ?_) (fun h => ?_)
  · refine g_sub [0, 2, 3, 4] rfl ?_
    exact hk0 _ h
  · refine g_aload_n (pc := 33) C dX7_number_33 rfl 0 rfl ?_
    refine g_get (pc := 34) C fl_X7_19 dX7_number_34 0 rfl rfl ?_
    refine g_if_ne (pc := 37) (tgt := 90) C dX7_number_37 (by decide) h (fun h => ?_) (fun h => ?_)
    · refine g_sub [0, 2, 3, 4] rfl ?_
      exact hk0 _ h
    · refine g_aload_n (pc := 40) C dX7_number_40 rfl 0 rfl ?_
      obtain ⟨u3, hu3, h⟩ := bs h
      refine g_callV (pc := 41) (st := []) (st1 := [.int u3]) (ws' := (W_X7_number E o_t r_t_tape r_t_tape a_tape t_end s.2.2.1 s.2.2.2.1 s.2.2.2.2 tape_size tape_bytes)) C mv_X7_isDigit mi_X7_isDigit ml_X7_44 (c_X7_isDigit X.2.1 E o_t r_t_tape t_end s.2.2.1 s.2.2.2.1 s.2.2.2.2 u3 hu3) dX7_number_41 (by decide) rfl (Nat.le_of_ble_eq_true rfl) 0 6 rfl rfl [0] rfl (by decide) rfl rfl rfl rfl ?_
      refine g_if_eq (pc := 44) (tgt := 90) C dX7_number_44 (by decide) h (fun h => ?_) (fun h => ?_)
      · refine g_sub [0, 2, 3, 4] rfl ?_
        exact hk0 _ h
      · refine g_iload (pc := 47) C dX7_number_47 5 rfl ?_
        refine g_iload_n (pc := 49) C dX7_number_49 rfl 1 rfl ?_
        refine g_icmp_ne (pc := 50) (tgt := 65) C dX7_number_50 (by decide) h (fun h => ?_) (fun h => ?_)
        · refine g_bipush (pc := 65) (v := 10) C dX7_number_65 (by decide) ?_
          refine g_iload (pc := 67) C dX7_number_67 4 rfl ?_
          refine g_imul (pc := 69) C dX7_number_69 ?_
          refine g_aload_n (pc := 70) C dX7_number_70 rfl 0 rfl ?_
          refine g_get (pc := 71) C fl_X7_37 dX7_number_71 0 rfl rfl ?_
          refine g_iadd (pc := 74) C dX7_number_74 ?_
          refine g_bipush (pc := 75) (v := 48) C dX7_number_75 (by decide) ?_
          refine g_isub (pc := 77) C dX7_number_77 ?_
          refine g_nm h (fun v4 h => ?_)
          refine g_istore (pc := 78) (lv' := [(4, .int v4), (0, .ref o_t), (1, .int x1), (2, .int x2), (3, .int x3), (5, .int s.2.1)]) C dX7_number_78 (by decide) rfl ?_
          refine g_aload_n (pc := 80) C dX7_number_80 rfl 1 rfl ?_
          obtain ⟨u5, hu5, h⟩ := bs h
          refine g_callV (pc := 81) (st := []) (st1 := []) (ws' := (W_X7_number E o_t r_t_tape r_t_tape a_tape t_end u5.1 u5.2 s.2.2.2.2 tape_size tape_bytes)) C mv_X7_step mi_X7_step ml_X7_25 (c_X7_step X.2.1 E o_t r_t_tape a_tape t_end s.2.2.1 s.2.2.2.1 s.2.2.2.2 tape_size tape_bytes u5 hu5) dX7_number_81 (by decide) rfl (Nat.le_of_ble_eq_true rfl) 0 6 rfl rfl [0, 1, 2] rfl (by decide) rfl rfl rfl rfl ?_
          refine g_iincn (pc := 84) (j := 5) (d := 1) (lv' := fun v6 => [(5, .int v6), (4, .int v4), (0, .ref o_t), (1, .int x1), (2, .int x2), (3, .int x3)]) C dX7_number_84 rfl (by decide) (by decide) (fun _ => rfl) h (fun v6 h => ?_)
          refine g_goto (pc := 87) (tgt := 27) C dX7_number_87 (by decide) ?_
          refine g_sub [2, 3, 4, 5, 1, 0] rfl ?_
          exact ih _ h
        · refine g_aload_n (pc := 53) C dX7_number_53 rfl 0 rfl ?_
          refine g_iconst (pc := 54) (v := 2) C dX7_number_54 (by decide) ?_
          refine g_aload_n (pc := 55) C dX7_number_55 rfl 0 rfl ?_
          refine g_get (pc := 56) C fl_X7_22 dX7_number_56 0 rfl rfl ?_
          obtain ⟨u7, hu7, h⟩ := bs h
          refine g_callV (pc := 59) (st := []) (st1 := []) (ws' := (W_X7_number E o_t r_t_tape r_t_tape a_tape t_end s.2.2.1 s.2.2.2.1 u7 tape_size tape_bytes)) C mv_X7_fail mi_X7_fail ml_X7_40 (c_X7_fail X.2.1 E o_t r_t_tape t_end s.2.2.1 s.2.2.2.1 s.2.2.2.2 (2 : Int32) s.2.2.1 u7 hu7) dX7_number_59 (by decide) rfl (Nat.le_of_ble_eq_true rfl) 0 6 rfl rfl [0] rfl (by decide) rfl rfl rfl rfl ?_
          refine g_goto (pc := 62) (tgt := 84) C dX7_number_62 (by decide) ?_
          refine g_iincn (pc := 84) (j := 5) (d := 1) (lv' := fun v8 => [(5, .int v8), (0, .ref o_t), (1, .int x1), (2, .int x2), (3, .int x3), (4, .int s.1)]) C dX7_number_84 rfl (by decide) (by decide) (fun _ => rfl) h (fun v8 h => ?_)
          refine g_goto (pc := 87) (tgt := 27) C dX7_number_87 (by decide) ?_
          refine g_sub [1, 2, 3, 4, 5, 0] rfl ?_
          exact ih _ h
set_option maxHeartbeats 4000000 in
set_option maxRecDepth 100000 in
theorem c_X7_number (l : Launch) (E : GE) (o_t : Nat) (r_t_tape : Nat) (a_tape : Nat → Nat) (t_end : Int32) (t_place : Int32) (t_sign : Int32) (t_fault : Int32) (tape_size : Int32) (tape_bytes : (Nat → Int32)) (x1 : Int32) (x2 : Int32) (r : Int32 × Int32 × Int32 × Int32) (h : f_X7_number t_end t_place t_sign t_fault tape_size tape_bytes x1 x2 = some r) : Cn l E yX7_number cX7_number 6 (some .int) 2 0 0 [.ref o_t, .int x1, .int x2] (W_X7_number E o_t r_t_tape r_t_tape a_tape t_end t_place t_sign t_fault tape_size tape_bytes) (fun w => w = (W_X7_number E o_t r_t_tape r_t_tape a_tape t_end r.2.1 r.2.2.1 r.2.2.2 tape_size tape_bytes)) (some (.int r.1)) := by
  refine Cn.ofI (by decide +kernel) (Nat.le_of_ble_eq_true rfl) (fun X hX hR C hret => ?_)
  subst hX
  show Gx X E 0 0 (W_X7_number E o_t r_t_tape r_t_tape a_tape t_end t_place t_sign t_fault tape_size tape_bytes) 0 [(0, .ref o_t), (1, .int x1), (2, .int x2)] []
  unfold f_X7_number at h
  refine g_aload_n (pc := 0) C dX7_number_0 rfl 0 rfl ?_
  refine g_get (pc := 1) C fl_X7_22 dX7_number_1 0 rfl rfl ?_
  refine g_istore_n (pc := 4) (lv' := [(3, .int t_place), (0, .ref o_t), (1, .int x1), (2, .int x2)]) C dX7_number_4 rfl (by decide) rfl ?_
  refine g_iconst (pc := 5) (v := 0) C dX7_number_5 (by decide) ?_
  refine g_istore (pc := 6) (lv' := [(4, .int (0 : Int32)), (3, .int t_place), (0, .ref o_t), (1, .int x1), (2, .int x2)]) C dX7_number_6 (by decide) rfl ?_
  refine g_aload_n (pc := 8) C dX7_number_8 rfl 2 rfl ?_
  obtain ⟨u1, hu1, h⟩ := bs h
  refine g_callV (pc := 9) (st := []) (st1 := [.int u1]) (ws' := (W_X7_number E o_t r_t_tape r_t_tape a_tape t_end t_place t_sign t_fault tape_size tape_bytes)) C mv_X7_isDigit mi_X7_isDigit ml_X7_44 (c_X7_isDigit X.2.1 E o_t r_t_tape t_end t_place t_sign t_fault u1 hu1) dX7_number_9 (by decide) rfl (Nat.le_of_ble_eq_true rfl) 0 6 rfl rfl [0] rfl (by decide) rfl rfl rfl rfl ?_
  refine g_jn (fun s2 : Int32 => Gx X E 0 0 (W_X7_number E o_t r_t_tape r_t_tape a_tape t_end t_place t_sign s2 tape_size tape_bytes) 24 [(0, .ref o_t), (1, .int x1), (2, .int x2), (3, .int t_place), (4, .int (0 : Int32))] []) h (fun s2 h => ?_) (fun j24 hj24 h => ?_)
  · refine g_iconst (pc := 24) (v := 0) C dX7_number_24 (by decide) ?_
    refine g_istore (pc := 25) (lv' := [(5, .int (0 : Int32)), (0, .ref o_t), (1, .int x1), (2, .int x2), (3, .int t_place), (4, .int (0 : Int32))]) C dX7_number_25 (by decide) rfl ?_
    refine g_sub [1, 2, 3, 4, 5, 0] rfl ?_
    refine kL_X7_number_27 C o_t r_t_tape a_tape t_end tape_size tape_bytes x1 x2 t_place _ hret (fun s9 h => ?_) _ _ h
    refine g_iload (pc := 90) C dX7_number_90 3 rfl ?_
    refine g_iload_n (pc := 92) C dX7_number_92 rfl 1 rfl ?_
    refine g_icmp_le (pc := 93) (tgt := 102) C dX7_number_93 (by decide) h (fun h => ?_) (fun h => ?_)
    · refine g_iload (pc := 102) C dX7_number_102 3 rfl ?_
      cases h
      exact hret _ _ _ dX7_number_104 rfl rfl
    · refine g_aload_n (pc := 96) C dX7_number_96 rfl 0 rfl ?_
      refine g_iconst (pc := 97) (v := 3) C dX7_number_97 (by decide) ?_
      refine g_iload_n (pc := 98) C dX7_number_98 rfl 2 rfl ?_
      obtain ⟨u10, hu10, h⟩ := bs h
      refine g_callV (pc := 99) (st := []) (st1 := []) (ws' := (W_X7_number E o_t r_t_tape r_t_tape a_tape t_end s9.2.1 s9.2.2.1 u10 tape_size tape_bytes)) C mv_X7_fail mi_X7_fail ml_X7_40 (c_X7_fail X.2.1 E o_t r_t_tape t_end s9.2.1 s9.2.2.1 s9.2.2.2 (3 : Int32) t_place u10 hu10) dX7_number_99 (by decide) rfl (Nat.le_of_ble_eq_true rfl) 0 6 rfl rfl [0] rfl (by decide) rfl rfl rfl rfl ?_
      refine g_iload (pc := 102) C dX7_number_102 3 rfl ?_
      cases h
      exact hret _ _ _ dX7_number_104 rfl rfl
  refine g_if_ne (pc := 12) (tgt := 24) C dX7_number_12 (by decide) h (fun h => ?_) (fun h => ?_)
  · refine g_sub [2, 3, 4, 1, 0] rfl ?_
    exact hj24 _ h
  · refine g_aload_n (pc := 15) C dX7_number_15 rfl 2 rfl ?_
    refine g_iconst (pc := 16) (v := 1) C dX7_number_16 (by decide) ?_
    refine g_aload_n (pc := 17) C dX7_number_17 rfl 2 rfl ?_
    refine g_get (pc := 18) C fl_X7_22 dX7_number_18 0 rfl rfl ?_
    obtain ⟨u11, hu11, h⟩ := bs h
    refine g_callV (pc := 21) (st := []) (st1 := []) (ws' := (W_X7_number E o_t r_t_tape r_t_tape a_tape t_end t_place t_sign u11 tape_size tape_bytes)) C mv_X7_fail mi_X7_fail ml_X7_40 (c_X7_fail X.2.1 E o_t r_t_tape t_end t_place t_sign t_fault (1 : Int32) t_place u11 hu11) dX7_number_21 (by decide) rfl (Nat.le_of_ble_eq_true rfl) 0 6 rfl rfl [0] rfl (by decide) rfl rfl rfl rfl ?_
    refine g_sub [2, 3, 4, 1, 0] rfl ?_
    exact hj24 _ h
abbrev W_X7_open (E : GE) (O_t : Nat) (r_t_tape : Nat) (O_tape : Nat) (a_tape : Nat → Nat) (t_end : Int32) (t_place : Int32) (t_sign : Int32) (t_fault : Int32) (tape_size : Int32) (tape_bytes : (Nat → Int32)) : va_W := [(O_t, ob_X7 r_t_tape t_end t_place t_sign t_fault), (O_tape, ob_X8 a_tape tape_size), (a_tape 0, .inl (E.2.1, 260, .inl tape_bytes))]
def f_X7_open (t_end : Int32) (t_place : Int32) (t_sign : Int32) (t_fault : Int32) (tape_size : Int32) (tape_bytes : (Nat → Int32)) (x1 : Int32) : Option (Int32 × Int32 × Int32 × Int32) := (f_X7_step x1 (-1 : Int32) t_sign tape_size tape_bytes).bind fun u1 => some (x1, u1.1, u1.2, (0 : Int32))
theorem dX7_open_0 : decode cX7_open 0 = .ok (.aload_n 0, 1) := by decide +kernel
theorem dX7_open_1 : decode cX7_open 1 = .ok (.iload_n 1, 1) := by decide +kernel
theorem dX7_open_2 : decode cX7_open 2 = .ok (.putfield 15, 3) := by decide +kernel
theorem dX7_open_5 : decode cX7_open 5 = .ok (.aload_n 0, 1) := by decide +kernel
theorem dX7_open_6 : decode cX7_open 6 = .ok (.iconst 0, 1) := by decide +kernel
theorem dX7_open_7 : decode cX7_open 7 = .ok (.putfield 19, 3) := by decide +kernel
theorem dX7_open_10 : decode cX7_open 10 = .ok (.aload_n 0, 1) := by decide +kernel
theorem dX7_open_11 : decode cX7_open 11 = .ok (.iconst (-1), 1) := by decide +kernel
theorem dX7_open_12 : decode cX7_open 12 = .ok (.putfield 22, 3) := by decide +kernel
theorem dX7_open_15 : decode cX7_open 15 = .ok (.aload_n 0, 1) := by decide +kernel
theorem dX7_open_16 : decode cX7_open 16 = .ok (.invokevirtual 25, 3) := by decide +kernel
theorem dX7_open_19 : decode cX7_open 19 = .ok (.return_, 1) := by decide +kernel
set_option maxHeartbeats 4000000 in
set_option maxRecDepth 100000 in
theorem c_X7_open (l : Launch) (E : GE) (o_t : Nat) (r_t_tape : Nat) (a_tape : Nat → Nat) (t_end : Int32) (t_place : Int32) (t_sign : Int32) (t_fault : Int32) (tape_size : Int32) (tape_bytes : (Nat → Int32)) (x1 : Int32) (r : Int32 × Int32 × Int32 × Int32) (h : f_X7_open t_end t_place t_sign t_fault tape_size tape_bytes x1 = some r) : Cn l E yX7_open cX7_open 2 none 2 0 0 [.ref o_t, .int x1] (W_X7_open E o_t r_t_tape r_t_tape a_tape t_end t_place t_sign t_fault tape_size tape_bytes) (fun w => w = (W_X7_open E o_t r_t_tape r_t_tape a_tape r.1 r.2.1 r.2.2.1 r.2.2.2 tape_size tape_bytes)) none := by
  refine Cn.ofV (by decide +kernel) (Nat.le_of_ble_eq_true rfl) (fun X hX hR C hret => ?_)
  subst hX
  show Gx X E 0 0 (W_X7_open E o_t r_t_tape r_t_tape a_tape t_end t_place t_sign t_fault tape_size tape_bytes) 0 [(0, .ref o_t), (1, .int x1)] []
  unfold f_X7_open at h
  refine g_aload_n (pc := 0) C dX7_open_0 rfl 0 rfl ?_
  refine g_iload_n (pc := 1) C dX7_open_1 rfl 1 rfl ?_
  refine g_put (pc := 2) (ws' := (W_X7_open E o_t r_t_tape r_t_tape a_tape x1 t_place t_sign t_fault tape_size tape_bytes)) C .int fl_X7_15 dX7_open_2 0 rfl (by decide +kernel) rfl rfl (Nat.le_of_ble_eq_true rfl) rfl ?_
  refine g_aload_n (pc := 5) C dX7_open_5 rfl 0 rfl ?_
  refine g_iconst (pc := 6) (v := 0) C dX7_open_6 (by decide) ?_
  refine g_put (pc := 7) (ws' := (W_X7_open E o_t r_t_tape r_t_tape a_tape x1 t_place t_sign (0 : Int32) tape_size tape_bytes)) C .int fl_X7_19 dX7_open_7 0 rfl (by decide +kernel) rfl rfl (Nat.le_of_ble_eq_true rfl) rfl ?_
  refine g_aload_n (pc := 10) C dX7_open_10 rfl 0 rfl ?_
  refine g_iconst (pc := 11) (v := -1) C dX7_open_11 (by decide) ?_
  refine g_put (pc := 12) (ws' := (W_X7_open E o_t r_t_tape r_t_tape a_tape x1 (-1 : Int32) t_sign (0 : Int32) tape_size tape_bytes)) C .int fl_X7_22 dX7_open_12 0 rfl (by decide +kernel) rfl rfl (Nat.le_of_ble_eq_true rfl) rfl ?_
  refine g_aload_n (pc := 15) C dX7_open_15 rfl 0 rfl ?_
  obtain ⟨u1, hu1, h⟩ := bs h
  refine g_callV (pc := 16) (st := []) (st1 := []) (ws' := (W_X7_open E o_t r_t_tape r_t_tape a_tape x1 u1.1 u1.2 (0 : Int32) tape_size tape_bytes)) C mv_X7_step mi_X7_step ml_X7_25 (c_X7_step X.2.1 E o_t r_t_tape a_tape x1 (-1 : Int32) t_sign (0 : Int32) tape_size tape_bytes u1 hu1) dX7_open_16 (by decide) rfl (Nat.le_of_ble_eq_true rfl) 0 6 rfl rfl [0, 1, 2] rfl (by decide) rfl rfl rfl rfl ?_
  cases h
  exact hret _ _ _ dX7_open_19 rfl
abbrev W_X7_take (E : GE) (O_t : Nat) (r_t_tape : Nat) (O_tape : Nat) (a_tape : Nat → Nat) (t_end : Int32) (t_place : Int32) (t_sign : Int32) (t_fault : Int32) (tape_size : Int32) (tape_bytes : (Nat → Int32)) : va_W := [(O_t, ob_X7 r_t_tape t_end t_place t_sign t_fault), (O_tape, ob_X8 a_tape tape_size), (a_tape 0, .inl (E.2.1, 260, .inl tape_bytes))]
def f_X7_take (t_end : Int32) (t_place : Int32) (t_sign : Int32) (t_fault : Int32) (tape_size : Int32) (tape_bytes : (Nat → Int32)) (x1 : Int32) : Option (Int32 × Int32 × Int32) := if t_fault = 0 then (if t_sign = x1 then ((f_X7_step t_end t_place t_sign tape_size tape_bytes).bind fun u1 => some ((1 : Int32), u1.1, u1.2)) else some ((0 : Int32), t_place, t_sign)) else some ((0 : Int32), t_place, t_sign)
theorem dX7_take_0 : decode cX7_take 0 = .ok (.aload_n 0, 1) := by decide +kernel
theorem dX7_take_1 : decode cX7_take 1 = .ok (.getfield 19, 3) := by decide +kernel
theorem dX7_take_4 : decode cX7_take 4 = .ok (.ifCond .ne 11, 3) := by decide +kernel
theorem dX7_take_7 : decode cX7_take 7 = .ok (.aload_n 0, 1) := by decide +kernel
theorem dX7_take_8 : decode cX7_take 8 = .ok (.getfield 37, 3) := by decide +kernel
theorem dX7_take_11 : decode cX7_take 11 = .ok (.iload_n 1, 1) := by decide +kernel
theorem dX7_take_12 : decode cX7_take 12 = .ok (.if_icmp .eq 5, 3) := by decide +kernel
theorem dX7_take_15 : decode cX7_take 15 = .ok (.iconst 0, 1) := by decide +kernel
theorem dX7_take_16 : decode cX7_take 16 = .ok (.ireturn, 1) := by decide +kernel
theorem dX7_take_17 : decode cX7_take 17 = .ok (.aload_n 0, 1) := by decide +kernel
theorem dX7_take_18 : decode cX7_take 18 = .ok (.invokevirtual 25, 3) := by decide +kernel
theorem dX7_take_21 : decode cX7_take 21 = .ok (.iconst 1, 1) := by decide +kernel
theorem dX7_take_22 : decode cX7_take 22 = .ok (.ireturn, 1) := by decide +kernel
set_option maxHeartbeats 4000000 in
set_option maxRecDepth 100000 in
theorem c_X7_take (l : Launch) (E : GE) (o_t : Nat) (r_t_tape : Nat) (a_tape : Nat → Nat) (t_end : Int32) (t_place : Int32) (t_sign : Int32) (t_fault : Int32) (tape_size : Int32) (tape_bytes : (Nat → Int32)) (x1 : Int32) (r : Int32 × Int32 × Int32) (h : f_X7_take t_end t_place t_sign t_fault tape_size tape_bytes x1 = some r) : Cn l E yX7_take cX7_take 2 (some .boolean) 2 0 0 [.ref o_t, .int x1] (W_X7_take E o_t r_t_tape r_t_tape a_tape t_end t_place t_sign t_fault tape_size tape_bytes) (fun w => w = (W_X7_take E o_t r_t_tape r_t_tape a_tape t_end r.2.1 r.2.2 t_fault tape_size tape_bytes)) (some (.int r.1)) := by
  refine Cn.ofI (by decide +kernel) (Nat.le_of_ble_eq_true rfl) (fun X hX hR C hret => ?_)
  subst hX
  show Gx X E 0 0 (W_X7_take E o_t r_t_tape r_t_tape a_tape t_end t_place t_sign t_fault tape_size tape_bytes) 0 [(0, .ref o_t), (1, .int x1)] []
  unfold f_X7_take at h
  refine g_aload_n (pc := 0) C dX7_take_0 rfl 0 rfl ?_
  refine g_get (pc := 1) C fl_X7_19 dX7_take_1 0 rfl rfl ?_
  refine g_if_ne (pc := 4) (tgt := 15) C dX7_take_4 (by decide) h (fun h => ?_) (fun h => ?_)
  · refine g_iconst (pc := 15) (v := 0) C dX7_take_15 (by decide) ?_
    cases h
    exact hret _ _ _ dX7_take_16 nb0 rfl
  · refine g_aload_n (pc := 7) C dX7_take_7 rfl 0 rfl ?_
    refine g_get (pc := 8) C fl_X7_37 dX7_take_8 0 rfl rfl ?_
    refine g_iload_n (pc := 11) C dX7_take_11 rfl 1 rfl ?_
    refine g_icmp_eq (pc := 12) (tgt := 17) C dX7_take_12 (by decide) h (fun h => ?_) (fun h => ?_)
    · refine g_aload_n (pc := 17) C dX7_take_17 rfl 0 rfl ?_
      obtain ⟨u1, hu1, h⟩ := bs h
      refine g_callV (pc := 18) (st := []) (st1 := []) (ws' := (W_X7_take E o_t r_t_tape r_t_tape a_tape t_end u1.1 u1.2 t_fault tape_size tape_bytes)) C mv_X7_step mi_X7_step ml_X7_25 (c_X7_step X.2.1 E o_t r_t_tape a_tape t_end t_place t_sign t_fault tape_size tape_bytes u1 hu1) dX7_take_18 (by decide) rfl (Nat.le_of_ble_eq_true rfl) 0 6 rfl rfl [0, 1, 2] rfl (by decide) rfl rfl rfl rfl ?_
      refine g_iconst (pc := 21) (v := 1) C dX7_take_21 (by decide) ?_
      cases h
      exact hret _ _ _ dX7_take_22 nb1 rfl
    · refine g_iconst (pc := 15) (v := 0) C dX7_take_15 (by decide) ?_
      cases h
      exact hret _ _ _ dX7_take_16 nb0 rfl
abbrev W_X7_want (E : GE) (O_t : Nat) (r_t_tape : Nat) (O_tape : Nat) (a_tape : Nat → Nat) (t_end : Int32) (t_place : Int32) (t_sign : Int32) (t_fault : Int32) (tape_size : Int32) (tape_bytes : (Nat → Int32)) : va_W := [(O_t, ob_X7 r_t_tape t_end t_place t_sign t_fault), (O_tape, ob_X8 a_tape tape_size), (a_tape 0, .inl (E.2.1, 260, .inl tape_bytes))]
def f_X7_want (t_end : Int32) (t_place : Int32) (t_sign : Int32) (t_fault : Int32) (tape_size : Int32) (tape_bytes : (Nat → Int32)) (x1 : Int32) : Option (Int32 × Int32 × Int32) := if t_sign = x1 then (if t_fault = 0 then ((f_X7_step t_end t_place t_sign tape_size tape_bytes).bind fun u1 => some (u1.1, u1.2, t_fault)) else some (t_place, t_sign, t_fault)) else (f_X7_fail t_fault (1 : Int32) t_place).bind fun u2 => some (t_place, t_sign, u2)
theorem dX7_want_0 : decode cX7_want 0 = .ok (.aload_n 0, 1) := by decide +kernel
theorem dX7_want_1 : decode cX7_want 1 = .ok (.getfield 37, 3) := by decide +kernel
theorem dX7_want_4 : decode cX7_want 4 = .ok (.iload_n 1, 1) := by decide +kernel
theorem dX7_want_5 : decode cX7_want 5 = .ok (.if_icmp .eq 15, 3) := by decide +kernel
theorem dX7_want_8 : decode cX7_want 8 = .ok (.aload_n 0, 1) := by decide +kernel
theorem dX7_want_9 : decode cX7_want 9 = .ok (.iconst 1, 1) := by decide +kernel
theorem dX7_want_10 : decode cX7_want 10 = .ok (.aload_n 0, 1) := by decide +kernel
theorem dX7_want_11 : decode cX7_want 11 = .ok (.getfield 22, 3) := by decide +kernel
theorem dX7_want_14 : decode cX7_want 14 = .ok (.invokevirtual 40, 3) := by decide +kernel
theorem dX7_want_17 : decode cX7_want 17 = .ok (.goto 14, 3) := by decide +kernel
theorem dX7_want_20 : decode cX7_want 20 = .ok (.aload_n 0, 1) := by decide +kernel
theorem dX7_want_21 : decode cX7_want 21 = .ok (.getfield 19, 3) := by decide +kernel
theorem dX7_want_24 : decode cX7_want 24 = .ok (.ifCond .ne 7, 3) := by decide +kernel
theorem dX7_want_27 : decode cX7_want 27 = .ok (.aload_n 0, 1) := by decide +kernel
theorem dX7_want_28 : decode cX7_want 28 = .ok (.invokevirtual 25, 3) := by decide +kernel
theorem dX7_want_31 : decode cX7_want 31 = .ok (.return_, 1) := by decide +kernel
set_option maxHeartbeats 4000000 in
set_option maxRecDepth 100000 in
theorem c_X7_want (l : Launch) (E : GE) (o_t : Nat) (r_t_tape : Nat) (a_tape : Nat → Nat) (t_end : Int32) (t_place : Int32) (t_sign : Int32) (t_fault : Int32) (tape_size : Int32) (tape_bytes : (Nat → Int32)) (x1 : Int32) (r : Int32 × Int32 × Int32) (h : f_X7_want t_end t_place t_sign t_fault tape_size tape_bytes x1 = some r) : Cn l E yX7_want cX7_want 2 none 2 0 0 [.ref o_t, .int x1] (W_X7_want E o_t r_t_tape r_t_tape a_tape t_end t_place t_sign t_fault tape_size tape_bytes) (fun w => w = (W_X7_want E o_t r_t_tape r_t_tape a_tape t_end r.1 r.2.1 r.2.2 tape_size tape_bytes)) none := by
  refine Cn.ofV (by decide +kernel) (Nat.le_of_ble_eq_true rfl) (fun X hX hR C hret => ?_)
  subst hX
  show Gx X E 0 0 (W_X7_want E o_t r_t_tape r_t_tape a_tape t_end t_place t_sign t_fault tape_size tape_bytes) 0 [(0, .ref o_t), (1, .int x1)] []
  unfold f_X7_want at h
  refine g_aload_n (pc := 0) C dX7_want_0 rfl 0 rfl ?_
  refine g_get (pc := 1) C fl_X7_37 dX7_want_1 0 rfl rfl ?_
  refine g_iload_n (pc := 4) C dX7_want_4 rfl 1 rfl ?_
  refine g_icmp_eq (pc := 5) (tgt := 20) C dX7_want_5 (by decide) h (fun h => ?_) (fun h => ?_)
  · refine g_aload_n (pc := 20) C dX7_want_20 rfl 0 rfl ?_
    refine g_get (pc := 21) C fl_X7_19 dX7_want_21 0 rfl rfl ?_
    refine g_if_ne (pc := 24) (tgt := 31) C dX7_want_24 (by decide) h (fun h => ?_) (fun h => ?_)
    · cases h
      exact hret _ _ _ dX7_want_31 rfl
    · refine g_aload_n (pc := 27) C dX7_want_27 rfl 0 rfl ?_
      obtain ⟨u1, hu1, h⟩ := bs h
      refine g_callV (pc := 28) (st := []) (st1 := []) (ws' := (W_X7_want E o_t r_t_tape r_t_tape a_tape t_end u1.1 u1.2 t_fault tape_size tape_bytes)) C mv_X7_step mi_X7_step ml_X7_25 (c_X7_step X.2.1 E o_t r_t_tape a_tape t_end t_place t_sign t_fault tape_size tape_bytes u1 hu1) dX7_want_28 (by decide) rfl (Nat.le_of_ble_eq_true rfl) 0 6 rfl rfl [0, 1, 2] rfl (by decide) rfl rfl rfl rfl ?_
      cases h
      exact hret _ _ _ dX7_want_31 rfl
  · refine g_aload_n (pc := 8) C dX7_want_8 rfl 0 rfl ?_
    refine g_iconst (pc := 9) (v := 1) C dX7_want_9 (by decide) ?_
    refine g_aload_n (pc := 10) C dX7_want_10 rfl 0 rfl ?_
    refine g_get (pc := 11) C fl_X7_22 dX7_want_11 0 rfl rfl ?_
    obtain ⟨u2, hu2, h⟩ := bs h
    refine g_callV (pc := 14) (st := []) (st1 := []) (ws' := (W_X7_want E o_t r_t_tape r_t_tape a_tape t_end t_place t_sign u2 tape_size tape_bytes)) C mv_X7_fail mi_X7_fail ml_X7_40 (c_X7_fail X.2.1 E o_t r_t_tape t_end t_place t_sign t_fault (1 : Int32) t_place u2 hu2) dX7_want_14 (by decide) rfl (Nat.le_of_ble_eq_true rfl) 0 6 rfl rfl [0] rfl (by decide) rfl rfl rfl rfl ?_
    refine g_goto (pc := 17) (tgt := 31) C dX7_want_17 (by decide) ?_
    cases h
    exact hret _ _ _ dX7_want_31 rfl
