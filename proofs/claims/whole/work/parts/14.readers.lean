abbrev W_X1_add (E : GE) (O_t : Nat) (r_t_script : Nat) (a_t : Nat → Nat) (t_levels : (Nat → Int32)) (t_sums : (Nat → Int32)) : va_W := [(O_t, ob_X1 r_t_script a_t), (a_t 2, .inl (E.2.1, 18, .inl t_levels)), (a_t 3, .inl (E.2.1, 3, .inl t_sums))]
def f_X1_add (t_levels : (Nat → Int32)) (t_sums : (Nat → Int32)) (x1 : Int32) (x2 : Int32) (x3 : Int32) : Option ((Nat → Int32) × (Nat → Int32)) := nm ((x1 * (6 : Int32)) + x2) fun v1 => rd t_levels 18 v1 fun v2 => wr t_levels 18 v1 (v2 + x3) fun g3 => rd t_sums 3 x1 fun v4 => wr t_sums 3 x1 (v4 + x3) fun g5 => some (g3, g5)
theorem dX1_add_0 : decode cX1_add 0 = .ok (.aload_n 0, 1) := by decide +kernel
theorem dX1_add_1 : decode cX1_add 1 = .ok (.getfield 15, 3) := by decide +kernel
theorem dX1_add_4 : decode cX1_add 4 = .ok (.iload_n 1, 1) := by decide +kernel
theorem dX1_add_5 : decode cX1_add 5 = .ok (.bipush 6, 2) := by decide +kernel
theorem dX1_add_7 : decode cX1_add 7 = .ok (.imul, 1) := by decide +kernel
theorem dX1_add_8 : decode cX1_add 8 = .ok (.iload_n 2, 1) := by decide +kernel
theorem dX1_add_9 : decode cX1_add 9 = .ok (.iadd, 1) := by decide +kernel
theorem dX1_add_10 : decode cX1_add 10 = .ok (.dup2, 1) := by decide +kernel
theorem dX1_add_11 : decode cX1_add 11 = .ok (.iaload, 1) := by decide +kernel
theorem dX1_add_12 : decode cX1_add 12 = .ok (.iload_n 3, 1) := by decide +kernel
theorem dX1_add_13 : decode cX1_add 13 = .ok (.iadd, 1) := by decide +kernel
theorem dX1_add_14 : decode cX1_add 14 = .ok (.iastore, 1) := by decide +kernel
theorem dX1_add_15 : decode cX1_add 15 = .ok (.aload_n 0, 1) := by decide +kernel
theorem dX1_add_16 : decode cX1_add 16 = .ok (.getfield 18, 3) := by decide +kernel
theorem dX1_add_19 : decode cX1_add 19 = .ok (.iload_n 1, 1) := by decide +kernel
theorem dX1_add_20 : decode cX1_add 20 = .ok (.dup2, 1) := by decide +kernel
theorem dX1_add_21 : decode cX1_add 21 = .ok (.iaload, 1) := by decide +kernel
theorem dX1_add_22 : decode cX1_add 22 = .ok (.iload_n 3, 1) := by decide +kernel
theorem dX1_add_23 : decode cX1_add 23 = .ok (.iadd, 1) := by decide +kernel
theorem dX1_add_24 : decode cX1_add 24 = .ok (.iastore, 1) := by decide +kernel
theorem dX1_add_25 : decode cX1_add 25 = .ok (.return_, 1) := by decide +kernel
set_option maxHeartbeats 4000000 in
set_option maxRecDepth 100000 in
theorem c_X1_add (l : Launch) (E : GE) (o_t : Nat) (r_t_script : Nat) (a_t : Nat → Nat) (t_levels : (Nat → Int32)) (t_sums : (Nat → Int32)) (x1 : Int32) (x2 : Int32) (x3 : Int32) (r : (Nat → Int32) × (Nat → Int32)) (h : f_X1_add t_levels t_sums x1 x2 x3 = some r) : Cn l E yX1_add cX1_add 4 none 1 0 0 [.ref o_t, .int x1, .int x2, .int x3] (W_X1_add E o_t r_t_script a_t t_levels t_sums) (fun w => w = (W_X1_add E o_t r_t_script a_t r.1 r.2)) none := by
  refine Cn.ofV (by decide +kernel) (Nat.le_of_ble_eq_true rfl) (fun X hX hR C hret => ?_)
  subst hX
  show Gx X E 0 0 (W_X1_add E o_t r_t_script a_t t_levels t_sums) 0 [(0, .ref o_t), (1, .int x1), (2, .int x2), (3, .int x3)] []
  unfold f_X1_add at h
  refine g_aload_n (pc := 0) C dX1_add_0 rfl 0 rfl ?_
  refine g_get (pc := 1) C fl_X1_15 dX1_add_1 0 rfl rfl ?_
  refine g_iload_n (pc := 4) C dX1_add_4 rfl 1 rfl ?_
  refine g_bipush (pc := 5) (v := 6) C dX1_add_5 (by decide) ?_
  refine g_imul (pc := 7) C dX1_add_7 ?_
  refine g_iload_n (pc := 8) C dX1_add_8 rfl 2 rfl ?_
  refine g_iadd (pc := 9) C dX1_add_9 ?_
  refine g_nm h (fun v1 h => ?_)
  refine g_dup2 (pc := 10) C dX1_add_10 rfl rfl ?_
  refine g_iald (pc := 11) C dX1_add_11 1 rfl h (fun v2 h => ?_)
  refine g_iload_n (pc := 12) C dX1_add_12 rfl 3 rfl ?_
  refine g_iadd (pc := 13) C dX1_add_13 ?_
  refine g_iast (pc := 14) C dX1_add_14 1 rfl h (fun g3 h => ?_)
  refine g_ws (ws' := (W_X1_add E o_t r_t_script a_t g3 t_sums)) rfl ?_
  refine g_aload_n (pc := 15) C dX1_add_15 rfl 0 rfl ?_
  refine g_get (pc := 16) C fl_X1_18 dX1_add_16 0 rfl rfl ?_
  refine g_iload_n (pc := 19) C dX1_add_19 rfl 1 rfl ?_
  refine g_dup2 (pc := 20) C dX1_add_20 rfl rfl ?_
  refine g_iald (pc := 21) C dX1_add_21 2 rfl h (fun v4 h => ?_)
  refine g_iload_n (pc := 22) C dX1_add_22 rfl 3 rfl ?_
  refine g_iadd (pc := 23) C dX1_add_23 ?_
  refine g_iast (pc := 24) C dX1_add_24 2 rfl h (fun g5 h => ?_)
  refine g_ws (ws' := (W_X1_add E o_t r_t_script a_t g3 g5)) rfl ?_
  cases h
  exact hret _ _ _ dX1_add_25 rfl
abbrev W_X3_mayOpen (E : GE) (O_t : Nat) (r_t_script : Nat) (r_t_law : Nat) (O_script : Nat) (r_script_tape : Nat) (script_end : Int32) (script_place : Int32) (script_fault : Int32) : va_W := [(O_t, ob_X3 r_t_script r_t_law), (O_script, ob_X7 r_script_tape script_end script_place script_fault)]
def f_X3_mayOpen (script_place : Int32) (script_fault : Int32) (x1 : Int32) : Option (Int32 × Int32 × Int32) := if x1 < (6 : Int32) then (nm (script_place + (1 : Int32)) fun v1 => some ((1 : Int32), v1, script_fault)) else (f_X7_fail script_fault (5 : Int32) script_place).bind fun u2 => some ((0 : Int32), script_place, u2)
theorem dX3_mayOpen_0 : decode cX3_mayOpen 0 = .ok (.iload_n 1, 1) := by decide +kernel
theorem dX3_mayOpen_1 : decode cX3_mayOpen 1 = .ok (.bipush 6, 2) := by decide +kernel
theorem dX3_mayOpen_3 : decode cX3_mayOpen 3 = .ok (.if_icmp .lt 20, 3) := by decide +kernel
theorem dX3_mayOpen_6 : decode cX3_mayOpen 6 = .ok (.aload_n 0, 1) := by decide +kernel
theorem dX3_mayOpen_7 : decode cX3_mayOpen 7 = .ok (.getfield 9, 3) := by decide +kernel
theorem dX3_mayOpen_10 : decode cX3_mayOpen 10 = .ok (.iconst 5, 1) := by decide +kernel
theorem dX3_mayOpen_11 : decode cX3_mayOpen 11 = .ok (.aload_n 0, 1) := by decide +kernel
theorem dX3_mayOpen_12 : decode cX3_mayOpen 12 = .ok (.getfield 9, 3) := by decide +kernel
theorem dX3_mayOpen_15 : decode cX3_mayOpen 15 = .ok (.getfield 44, 3) := by decide +kernel
theorem dX3_mayOpen_18 : decode cX3_mayOpen 18 = .ok (.invokevirtual 48, 3) := by decide +kernel
theorem dX3_mayOpen_21 : decode cX3_mayOpen 21 = .ok (.iconst 0, 1) := by decide +kernel
theorem dX3_mayOpen_22 : decode cX3_mayOpen 22 = .ok (.ireturn, 1) := by decide +kernel
theorem dX3_mayOpen_23 : decode cX3_mayOpen 23 = .ok (.aload_n 0, 1) := by decide +kernel
theorem dX3_mayOpen_24 : decode cX3_mayOpen 24 = .ok (.getfield 9, 3) := by decide +kernel
theorem dX3_mayOpen_27 : decode cX3_mayOpen 27 = .ok (.dup, 1) := by decide +kernel
theorem dX3_mayOpen_28 : decode cX3_mayOpen 28 = .ok (.getfield 44, 3) := by decide +kernel
theorem dX3_mayOpen_31 : decode cX3_mayOpen 31 = .ok (.iconst 1, 1) := by decide +kernel
theorem dX3_mayOpen_32 : decode cX3_mayOpen 32 = .ok (.iadd, 1) := by decide +kernel
theorem dX3_mayOpen_33 : decode cX3_mayOpen 33 = .ok (.putfield 44, 3) := by decide +kernel
theorem dX3_mayOpen_36 : decode cX3_mayOpen 36 = .ok (.iconst 1, 1) := by decide +kernel
theorem dX3_mayOpen_37 : decode cX3_mayOpen 37 = .ok (.ireturn, 1) := by decide +kernel
set_option maxHeartbeats 4000000 in
set_option maxRecDepth 100000 in
theorem c_X3_mayOpen (l : Launch) (E : GE) (o_t : Nat) (r_t_script : Nat) (r_t_law : Nat) (r_script_tape : Nat) (script_end : Int32) (script_place : Int32) (script_fault : Int32) (x1 : Int32) (r : Int32 × Int32 × Int32) (h : f_X3_mayOpen script_place script_fault x1 = some r) : Cn l E yX3_mayOpen cX3_mayOpen 2 (some .boolean) 2 0 0 [.ref o_t, .int x1] (W_X3_mayOpen E o_t r_t_script r_t_law r_t_script r_script_tape script_end script_place script_fault) (fun w => w = (W_X3_mayOpen E o_t r_t_script r_t_law r_t_script r_script_tape script_end r.2.1 r.2.2)) (some (.int r.1)) := by
  refine Cn.ofI (by decide +kernel) (Nat.le_of_ble_eq_true rfl) (fun X hX hR C hret => ?_)
  subst hX
  show Gx X E 0 0 (W_X3_mayOpen E o_t r_t_script r_t_law r_t_script r_script_tape script_end script_place script_fault) 0 [(0, .ref o_t), (1, .int x1)] []
  unfold f_X3_mayOpen at h
  refine g_iload_n (pc := 0) C dX3_mayOpen_0 rfl 1 rfl ?_
  refine g_bipush (pc := 1) (v := 6) C dX3_mayOpen_1 (by decide) ?_
  refine g_icmp_lt (pc := 3) (tgt := 23) C dX3_mayOpen_3 (by decide) h (fun h => ?_) (fun h => ?_)
  · refine g_aload_n (pc := 23) C dX3_mayOpen_23 rfl 0 rfl ?_
    refine g_get (pc := 24) C fl_X3_9 dX3_mayOpen_24 0 rfl rfl ?_
    refine g_dup (pc := 27) C dX3_mayOpen_27 rfl ?_
    refine g_get (pc := 28) C fl_X3_44 dX3_mayOpen_28 1 rfl rfl ?_
    refine g_iconst (pc := 31) (v := 1) C dX3_mayOpen_31 (by decide) ?_
    refine g_iadd (pc := 32) C dX3_mayOpen_32 ?_
    refine g_nm h (fun v1 h => ?_)
    refine g_put (pc := 33) (ws' := (W_X3_mayOpen E o_t r_t_script r_t_law r_t_script r_script_tape script_end v1 script_fault)) C .int fl_X3_44 dX3_mayOpen_33 1 rfl (by decide +kernel) rfl rfl (Nat.le_of_ble_eq_true rfl) rfl ?_
    refine g_iconst (pc := 36) (v := 1) C dX3_mayOpen_36 (by decide) ?_
    cases h
    exact hret _ _ _ dX3_mayOpen_37 nb1 rfl
  · refine g_aload_n (pc := 6) C dX3_mayOpen_6 rfl 0 rfl ?_
    refine g_get (pc := 7) C fl_X3_9 dX3_mayOpen_7 0 rfl rfl ?_
    refine g_iconst (pc := 10) (v := 5) C dX3_mayOpen_10 (by decide) ?_
    refine g_aload_n (pc := 11) C dX3_mayOpen_11 rfl 0 rfl ?_
    refine g_get (pc := 12) C fl_X3_9 dX3_mayOpen_12 0 rfl rfl ?_
    refine g_get (pc := 15) C fl_X3_44 dX3_mayOpen_15 1 rfl rfl ?_
    obtain ⟨u2, hu2, h⟩ := bs h
    refine g_callV (pc := 18) (st := []) (st1 := []) (ws' := (W_X3_mayOpen E o_t r_t_script r_t_law r_t_script r_script_tape script_end script_place u2)) C mv_X7_fail mi_X7_fail ml_X3_48 (c_X7_fail X.2.1 E r_t_script r_script_tape script_end script_place script_fault (5 : Int32) script_place u2 hu2) dX3_mayOpen_18 (by decide) rfl (Nat.le_of_ble_eq_true rfl) 1 6 rfl rfl [1] rfl (by decide) rfl rfl rfl rfl ?_
    refine g_iconst (pc := 21) (v := 0) C dX3_mayOpen_21 (by decide) ?_
    cases h
    exact hret _ _ _ dX3_mayOpen_22 nb0 rfl
abbrev W_X1_endsHere (E : GE) (O_t : Nat) (r_t_script : Nat) (a_t : Nat → Nat) (O_script : Nat) (r_script_tape : Nat) (O_script_tape : Nat) (a_script_tape : Nat → Nat) (script_end : Int32) (script_place : Int32) (script_fault : Int32) (script_tape_size : Int32) (script_tape_bytes : (Nat → Int32)) : va_W := [(O_t, ob_X1 r_t_script a_t), (O_script, ob_X7 r_script_tape script_end script_place script_fault), (O_script_tape, ob_X8 a_script_tape script_tape_size), (a_script_tape 0, .inl (E.2.1, 260, .inl script_tape_bytes))]
def f_X1_endsHere (script_end : Int32) (script_place : Int32) (script_tape_size : Int32) (script_tape_bytes : (Nat → Int32)) (x1 : Int32) : Option (Int32) := if x1 = 0 then ((f_X7_isAtEnd script_end script_place).bind fun u2 => gb u2 <| some u2) else (f_X7_sign script_end script_place script_tape_size script_tape_bytes).bind fun u1 => if u1 = (41 : Int32) then (some (1 : Int32)) else some (0 : Int32)
theorem dX1_endsHere_0 : decode cX1_endsHere 0 = .ok (.iload_n 1, 1) := by decide +kernel
theorem dX1_endsHere_1 : decode cX1_endsHere 1 = .ok (.ifCond .ne 13, 3) := by decide +kernel
theorem dX1_endsHere_4 : decode cX1_endsHere 4 = .ok (.aload_n 0, 1) := by decide +kernel
theorem dX1_endsHere_5 : decode cX1_endsHere 5 = .ok (.getfield 21, 3) := by decide +kernel
theorem dX1_endsHere_8 : decode cX1_endsHere 8 = .ok (.invokevirtual 54, 3) := by decide +kernel
theorem dX1_endsHere_11 : decode cX1_endsHere 11 = .ok (.goto 20, 3) := by decide +kernel
theorem dX1_endsHere_14 : decode cX1_endsHere 14 = .ok (.aload_n 0, 1) := by decide +kernel
theorem dX1_endsHere_15 : decode cX1_endsHere 15 = .ok (.getfield 21, 3) := by decide +kernel
theorem dX1_endsHere_18 : decode cX1_endsHere 18 = .ok (.invokevirtual 57, 3) := by decide +kernel
theorem dX1_endsHere_21 : decode cX1_endsHere 21 = .ok (.bipush 41, 2) := by decide +kernel
theorem dX1_endsHere_23 : decode cX1_endsHere 23 = .ok (.if_icmp .ne 7, 3) := by decide +kernel
theorem dX1_endsHere_26 : decode cX1_endsHere 26 = .ok (.iconst 1, 1) := by decide +kernel
theorem dX1_endsHere_27 : decode cX1_endsHere 27 = .ok (.goto 4, 3) := by decide +kernel
theorem dX1_endsHere_30 : decode cX1_endsHere 30 = .ok (.iconst 0, 1) := by decide +kernel
theorem dX1_endsHere_31 : decode cX1_endsHere 31 = .ok (.ireturn, 1) := by decide +kernel
set_option maxHeartbeats 4000000 in
set_option maxRecDepth 100000 in
theorem c_X1_endsHere (l : Launch) (E : GE) (o_t : Nat) (r_t_script : Nat) (a_t : Nat → Nat) (r_script_tape : Nat) (a_script_tape : Nat → Nat) (script_end : Int32) (script_place : Int32) (script_fault : Int32) (script_tape_size : Int32) (script_tape_bytes : (Nat → Int32)) (x1 : Int32) (r : Int32) (h : f_X1_endsHere script_end script_place script_tape_size script_tape_bytes x1 = some r) : Cn l E yX1_endsHere cX1_endsHere 2 (some .boolean) 3 0 0 [.ref o_t, .int x1] (W_X1_endsHere E o_t r_t_script a_t r_t_script r_script_tape r_script_tape a_script_tape script_end script_place script_fault script_tape_size script_tape_bytes) (fun w => w = (W_X1_endsHere E o_t r_t_script a_t r_t_script r_script_tape r_script_tape a_script_tape script_end script_place script_fault script_tape_size script_tape_bytes)) (some (.int r)) := by
  refine Cn.ofI (by decide +kernel) (Nat.le_of_ble_eq_true rfl) (fun X hX hR C hret => ?_)
  subst hX
  show Gx X E 0 0 (W_X1_endsHere E o_t r_t_script a_t r_t_script r_script_tape r_script_tape a_script_tape script_end script_place script_fault script_tape_size script_tape_bytes) 0 [(0, .ref o_t), (1, .int x1)] []
  unfold f_X1_endsHere at h
  refine g_iload_n (pc := 0) C dX1_endsHere_0 rfl 1 rfl ?_
  refine g_if_ne (pc := 1) (tgt := 14) C dX1_endsHere_1 (by decide) h (fun h => ?_) (fun h => ?_)
  · refine g_aload_n (pc := 14) C dX1_endsHere_14 rfl 0 rfl ?_
    refine g_get (pc := 15) C fl_X1_21 dX1_endsHere_15 0 rfl rfl ?_
    obtain ⟨u1, hu1, h⟩ := bs h
    refine g_callV (pc := 18) (st := []) (st1 := [.int u1]) (ws' := (W_X1_endsHere E o_t r_t_script a_t r_t_script r_script_tape r_script_tape a_script_tape script_end script_place script_fault script_tape_size script_tape_bytes)) C mv_X7_sign mi_X7_sign ml_X1_57 (c_X7_sign X.2.1 E r_t_script r_script_tape a_script_tape script_end script_place script_fault script_tape_size script_tape_bytes u1 hu1) dX1_endsHere_18 (by decide) rfl (Nat.le_of_ble_eq_true rfl) 1 6 rfl rfl [1, 2, 3] rfl (by decide) rfl rfl rfl rfl ?_
    refine g_bipush (pc := 21) (v := 41) C dX1_endsHere_21 (by decide) ?_
    refine g_icmp_ne (pc := 23) (tgt := 30) C dX1_endsHere_23 (by decide) h (fun h => ?_) (fun h => ?_)
    · refine g_iconst (pc := 30) (v := 0) C dX1_endsHere_30 (by decide) ?_
      cases h
      exact hret _ _ _ dX1_endsHere_31 nb0 rfl
    · refine g_iconst (pc := 26) (v := 1) C dX1_endsHere_26 (by decide) ?_
      refine g_goto (pc := 27) (tgt := 31) C dX1_endsHere_27 (by decide) ?_
      cases h
      exact hret _ _ _ dX1_endsHere_31 nb1 rfl
  · refine g_aload_n (pc := 4) C dX1_endsHere_4 rfl 0 rfl ?_
    refine g_get (pc := 5) C fl_X1_21 dX1_endsHere_5 0 rfl rfl ?_
    obtain ⟨u2, hu2, h⟩ := bs h
    refine g_callV (pc := 8) (st := []) (st1 := [.int u2]) (ws' := (W_X1_endsHere E o_t r_t_script a_t r_t_script r_script_tape r_script_tape a_script_tape script_end script_place script_fault script_tape_size script_tape_bytes)) C mv_X7_isAtEnd mi_X7_isAtEnd ml_X1_54 (c_X7_isAtEnd X.2.1 E r_t_script r_script_tape script_end script_place script_fault u2 hu2) dX1_endsHere_8 (by decide) rfl (Nat.le_of_ble_eq_true rfl) 1 6 rfl rfl [1] rfl (by decide) rfl rfl rfl rfl ?_
    refine g_goto (pc := 11) (tgt := 31) C dX1_endsHere_11 (by decide) ?_
    obtain ⟨hgb, h⟩ := gb_is h
    cases h
    exact hret _ _ _ dX1_endsHere_31 hgb rfl
