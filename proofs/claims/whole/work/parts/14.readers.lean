abbrev W_X1_pinsSoFar (E : GE) (O_t : Nat) (r_t_script : Nat) (a_t : Nat → Nat) (t_pins : (Nat → Int32)) : va_W := [(O_t, ob_X1 r_t_script a_t), (a_t 1, .inl (E.2.1, 6, .inl t_pins))]
def L_X1_pinsSoFar_4 (t_pins : (Nat → Int32)) : Nat → Int32 × Int32 → Option (Int32) := lp fun go s => if (6 : Int32) ≤ s.2 then (some s.1) else rd t_pins 6 s.2 fun v1 => nm (s.1 + v1) fun v2 => nm (s.2 + (1 : Int32)) fun v3 => go (v2, v3)
def f_X1_pinsSoFar (t_pins : (Nat → Int32)) : Option (Int32) := L_X1_pinsSoFar_4 t_pins fu ((0 : Int32), (0 : Int32))
theorem dX1_pinsSoFar_0 : decode cX1_pinsSoFar 0 = .ok (.iconst 0, 1) := by decide +kernel
theorem dX1_pinsSoFar_1 : decode cX1_pinsSoFar 1 = .ok (.istore_n 1, 1) := by decide +kernel
theorem dX1_pinsSoFar_2 : decode cX1_pinsSoFar 2 = .ok (.iconst 0, 1) := by decide +kernel
theorem dX1_pinsSoFar_3 : decode cX1_pinsSoFar 3 = .ok (.istore_n 2, 1) := by decide +kernel
theorem dX1_pinsSoFar_4 : decode cX1_pinsSoFar 4 = .ok (.iload_n 2, 1) := by decide +kernel
theorem dX1_pinsSoFar_5 : decode cX1_pinsSoFar 5 = .ok (.bipush 6, 2) := by decide +kernel
theorem dX1_pinsSoFar_7 : decode cX1_pinsSoFar 7 = .ok (.if_icmp .ge 18, 3) := by decide +kernel
theorem dX1_pinsSoFar_10 : decode cX1_pinsSoFar 10 = .ok (.iload_n 1, 1) := by decide +kernel
theorem dX1_pinsSoFar_11 : decode cX1_pinsSoFar 11 = .ok (.aload_n 0, 1) := by decide +kernel
theorem dX1_pinsSoFar_12 : decode cX1_pinsSoFar 12 = .ok (.getfield 9, 3) := by decide +kernel
theorem dX1_pinsSoFar_15 : decode cX1_pinsSoFar 15 = .ok (.iload_n 2, 1) := by decide +kernel
theorem dX1_pinsSoFar_16 : decode cX1_pinsSoFar 16 = .ok (.iaload, 1) := by decide +kernel
theorem dX1_pinsSoFar_17 : decode cX1_pinsSoFar 17 = .ok (.iadd, 1) := by decide +kernel
theorem dX1_pinsSoFar_18 : decode cX1_pinsSoFar 18 = .ok (.istore_n 1, 1) := by decide +kernel
theorem dX1_pinsSoFar_19 : decode cX1_pinsSoFar 19 = .ok (.iinc 2 1, 3) := by decide +kernel
theorem dX1_pinsSoFar_22 : decode cX1_pinsSoFar 22 = .ok (.goto (-18), 3) := by decide +kernel
theorem dX1_pinsSoFar_25 : decode cX1_pinsSoFar 25 = .ok (.iload_n 1, 1) := by decide +kernel
theorem dX1_pinsSoFar_26 : decode cX1_pinsSoFar 26 = .ok (.ireturn, 1) := by decide +kernel
set_option maxHeartbeats 4000000 in
set_option maxRecDepth 100000 in
theorem kL_X1_pinsSoFar_4 {X : GC} {E : GE} (C : Cx X E cX1_pinsSoFar RX1 1 3) (o_t : Nat) (r_t_script : Nat) (a_t : Nat → Nat) (t_pins : (Nat → Int32)) {r : Int32} (hret : RtI X E cX1_pinsSoFar .int 0 0 (fun w => w = (W_X1_pinsSoFar E o_t r_t_script a_t t_pins)) r) : ∀ (n : Nat) (s : Int32 × Int32), L_X1_pinsSoFar_4 t_pins n s = some r → Gx X E 0 0 (W_X1_pinsSoFar E o_t r_t_script a_t t_pins) 4 [(0, .ref o_t), (1, .int s.1), (2, .int s.2)] [] := by
  unfold L_X1_pinsSoFar_4
  refine lp_ind _ (fun go ih s h => ?_)
  refine g_iload_n (pc := 4) C dX1_pinsSoFar_4 rfl 2 rfl ?_
  refine g_bipush (pc := 5) (v := 6) C dX1_pinsSoFar_5 (by decide) ?_
  refine g_icmp_ge (pc := 7) (tgt := 25) C dX1_pinsSoFar_7 (by decide) h (fun h => ?_) (fun h => ?_)
  · refine g_iload_n (pc := 25) C dX1_pinsSoFar_25 rfl 1 rfl ?_
    cases h
    exact hret _ _ _ dX1_pinsSoFar_26 rfl rfl
  · refine g_iload_n (pc := 10) C dX1_pinsSoFar_10 rfl 1 rfl ?_
    refine g_aload_n (pc := 11) C dX1_pinsSoFar_11 rfl 0 rfl ?_
    refine g_get (pc := 12) C fl_X1_9 dX1_pinsSoFar_12 0 rfl rfl ?_
    refine g_iload_n (pc := 15) C dX1_pinsSoFar_15 rfl 2 rfl ?_
    refine g_iald (pc := 16) C dX1_pinsSoFar_16 1 rfl h (fun v1 h => ?_)
    refine g_iadd (pc := 17) C dX1_pinsSoFar_17 ?_
    refine g_nm h (fun v2 h => ?_)
    refine g_istore_n (pc := 18) (lv' := [(1, .int v2), (0, .ref o_t), (2, .int s.2)]) C dX1_pinsSoFar_18 rfl (by decide) rfl ?_
    refine g_iincn (pc := 19) (j := 2) (d := 1) (lv' := fun v3 => [(2, .int v3), (1, .int v2), (0, .ref o_t)]) C dX1_pinsSoFar_19 rfl (by decide) (by decide) (fun _ => rfl) h (fun v3 h => ?_)
    refine g_goto (pc := 22) (tgt := 4) C dX1_pinsSoFar_22 (by decide) ?_
    refine g_sub [2, 1, 0] rfl ?_
    exact ih _ h
set_option maxHeartbeats 4000000 in
set_option maxRecDepth 100000 in
theorem c_X1_pinsSoFar (l : Launch) (E : GE) (o_t : Nat) (r_t_script : Nat) (a_t : Nat → Nat) (t_pins : (Nat → Int32)) (r : Int32) (h : f_X1_pinsSoFar t_pins = some r) : Cn l E yX1_pinsSoFar cX1_pinsSoFar 3 (some .int) 1 0 0 [.ref o_t] (W_X1_pinsSoFar E o_t r_t_script a_t t_pins) (fun w => w = (W_X1_pinsSoFar E o_t r_t_script a_t t_pins)) (some (.int r)) := by
  refine Cn.ofI (by decide +kernel) (Nat.le_of_ble_eq_true rfl) (fun X hX hR C hret => ?_)
  subst hX
  show Gx X E 0 0 (W_X1_pinsSoFar E o_t r_t_script a_t t_pins) 0 [(0, .ref o_t)] []
  unfold f_X1_pinsSoFar at h
  refine g_iconst (pc := 0) (v := 0) C dX1_pinsSoFar_0 (by decide) ?_
  refine g_istore_n (pc := 1) (lv' := [(1, .int (0 : Int32)), (0, .ref o_t)]) C dX1_pinsSoFar_1 rfl (by decide) rfl ?_
  refine g_iconst (pc := 2) (v := 0) C dX1_pinsSoFar_2 (by decide) ?_
  refine g_istore_n (pc := 3) (lv' := [(2, .int (0 : Int32)), (1, .int (0 : Int32)), (0, .ref o_t)]) C dX1_pinsSoFar_3 rfl (by decide) rfl ?_
  refine g_sub [2, 1, 0] rfl ?_
  refine kL_X1_pinsSoFar_4 C o_t r_t_script a_t t_pins hret  _ _ h
abbrev W_X1_endsHere (E : GE) (O_t : Nat) (r_t_script : Nat) (a_t : Nat → Nat) (O_script : Nat) (r_script_tape : Nat) (script_end : Int32) (script_place : Int32) (script_sign : Int32) (script_fault : Int32) : va_W := [(O_t, ob_X1 r_t_script a_t), (O_script, ob_X7 r_script_tape script_end script_place script_sign script_fault)]
def f_X1_endsHere (script_end : Int32) (script_place : Int32) (script_sign : Int32) (x1 : Int32) : Option (Int32) := if x1 = 0 then ((f_X7_isAtEnd script_end script_place).bind fun u1 => gb u1 <| some u1) else if script_sign = (41 : Int32) then (some (1 : Int32)) else some (0 : Int32)
theorem dX1_endsHere_0 : decode cX1_endsHere 0 = .ok (.iload_n 1, 1) := by decide +kernel
theorem dX1_endsHere_1 : decode cX1_endsHere 1 = .ok (.ifCond .ne 13, 3) := by decide +kernel
theorem dX1_endsHere_4 : decode cX1_endsHere 4 = .ok (.aload_n 0, 1) := by decide +kernel
theorem dX1_endsHere_5 : decode cX1_endsHere 5 = .ok (.getfield 18, 3) := by decide +kernel
theorem dX1_endsHere_8 : decode cX1_endsHere 8 = .ok (.invokevirtual 45, 3) := by decide +kernel
theorem dX1_endsHere_11 : decode cX1_endsHere 11 = .ok (.goto 20, 3) := by decide +kernel
theorem dX1_endsHere_14 : decode cX1_endsHere 14 = .ok (.aload_n 0, 1) := by decide +kernel
theorem dX1_endsHere_15 : decode cX1_endsHere 15 = .ok (.getfield 18, 3) := by decide +kernel
theorem dX1_endsHere_18 : decode cX1_endsHere 18 = .ok (.getfield 48, 3) := by decide +kernel
theorem dX1_endsHere_21 : decode cX1_endsHere 21 = .ok (.bipush 41, 2) := by decide +kernel
theorem dX1_endsHere_23 : decode cX1_endsHere 23 = .ok (.if_icmp .ne 7, 3) := by decide +kernel
theorem dX1_endsHere_26 : decode cX1_endsHere 26 = .ok (.iconst 1, 1) := by decide +kernel
theorem dX1_endsHere_27 : decode cX1_endsHere 27 = .ok (.goto 4, 3) := by decide +kernel
theorem dX1_endsHere_30 : decode cX1_endsHere 30 = .ok (.iconst 0, 1) := by decide +kernel
theorem dX1_endsHere_31 : decode cX1_endsHere 31 = .ok (.ireturn, 1) := by decide +kernel
set_option maxHeartbeats 4000000 in
set_option maxRecDepth 100000 in
theorem c_X1_endsHere (l : Launch) (E : GE) (o_t : Nat) (r_t_script : Nat) (a_t : Nat → Nat) (r_script_tape : Nat) (script_end : Int32) (script_place : Int32) (script_sign : Int32) (script_fault : Int32) (x1 : Int32) (r : Int32) (h : f_X1_endsHere script_end script_place script_sign x1 = some r) : Cn l E yX1_endsHere cX1_endsHere 2 (some .boolean) 2 0 0 [.ref o_t, .int x1] (W_X1_endsHere E o_t r_t_script a_t r_t_script r_script_tape script_end script_place script_sign script_fault) (fun w => w = (W_X1_endsHere E o_t r_t_script a_t r_t_script r_script_tape script_end script_place script_sign script_fault)) (some (.int r)) := by
  refine Cn.ofI (by decide +kernel) (Nat.le_of_ble_eq_true rfl) (fun X hX hR C hret => ?_)
  subst hX
  show Gx X E 0 0 (W_X1_endsHere E o_t r_t_script a_t r_t_script r_script_tape script_end script_place script_sign script_fault) 0 [(0, .ref o_t), (1, .int x1)] []
  unfold f_X1_endsHere at h
  refine g_iload_n (pc := 0) C dX1_endsHere_0 rfl 1 rfl ?_
  refine g_if_ne (pc := 1) (tgt := 14) C dX1_endsHere_1 (by decide) h (fun h => ?_) (fun h => ?_)
  · refine g_aload_n (pc := 14) C dX1_endsHere_14 rfl 0 rfl ?_
    refine g_get (pc := 15) C fl_X1_18 dX1_endsHere_15 0 rfl rfl ?_
    refine g_get (pc := 18) C fl_X1_48 dX1_endsHere_18 1 rfl rfl ?_
    refine g_bipush (pc := 21) (v := 41) C dX1_endsHere_21 (by decide) ?_
    refine g_icmp_ne (pc := 23) (tgt := 30) C dX1_endsHere_23 (by decide) h (fun h => ?_) (fun h => ?_)
    · refine g_iconst (pc := 30) (v := 0) C dX1_endsHere_30 (by decide) ?_
      cases h
      exact hret _ _ _ dX1_endsHere_31 nb0 rfl
    · refine g_iconst (pc := 26) (v := 1) C dX1_endsHere_26 (by decide) ?_
      refine g_goto (pc := 27) (tgt := 31) C dX1_endsHere_27 (by decide) ?_
      cases h
      exact hret _ _ _ dX1_endsHere_31 nb1 rfl
  · refine g_aload_n (pc := 4) C dX1_endsHere_4 rfl 0 rfl ?_
    refine g_get (pc := 5) C fl_X1_18 dX1_endsHere_5 0 rfl rfl ?_
    obtain ⟨u1, hu1, h⟩ := bs h
    refine g_callV (pc := 8) (st := []) (st1 := [.int u1]) (ws' := (W_X1_endsHere E o_t r_t_script a_t r_t_script r_script_tape script_end script_place script_sign script_fault)) C mv_X7_isAtEnd mi_X7_isAtEnd ml_X1_45 (c_X7_isAtEnd X.2.1 E r_t_script r_script_tape script_end script_place script_sign script_fault u1 hu1) dX1_endsHere_8 (by decide) rfl (Nat.le_of_ble_eq_true rfl) 1 6 rfl rfl [1] rfl (by decide) rfl rfl rfl rfl ?_
    refine g_goto (pc := 11) (tgt := 31) C dX1_endsHere_11 (by decide) ?_
    obtain ⟨hgb, h⟩ := gb_is h
    cases h
    exact hret _ _ _ dX1_endsHere_31 hgb rfl
abbrev W_X3_mayOpen (E : GE) (O_t : Nat) (r_t_script : Nat) (r_t_law : Nat) (O_script : Nat) (r_script_tape : Nat) (O_script_tape : Nat) (a_script_tape : Nat → Nat) (script_end : Int32) (script_place : Int32) (script_sign : Int32) (script_fault : Int32) (script_tape_size : Int32) (script_tape_bytes : (Nat → Int32)) : va_W := [(O_t, ob_X3 r_t_script r_t_law), (O_script, ob_X7 r_script_tape script_end script_place script_sign script_fault), (O_script_tape, ob_X8 a_script_tape script_tape_size), (a_script_tape 0, .inl (E.2.1, 260, .inl script_tape_bytes))]
def f_X3_mayOpen (script_end : Int32) (script_place : Int32) (script_sign : Int32) (script_fault : Int32) (script_tape_size : Int32) (script_tape_bytes : (Nat → Int32)) (x1 : Int32) : Option (Int32 × Int32 × Int32 × Int32) := if x1 < (6 : Int32) then ((f_X7_step script_end script_place script_sign script_tape_size script_tape_bytes).bind fun u1 => some ((1 : Int32), u1.1, u1.2, script_fault)) else (f_X7_fail script_fault (5 : Int32) script_place).bind fun u2 => some ((0 : Int32), script_place, script_sign, u2)
theorem dX3_mayOpen_0 : decode cX3_mayOpen 0 = .ok (.iload_n 1, 1) := by decide +kernel
theorem dX3_mayOpen_1 : decode cX3_mayOpen 1 = .ok (.bipush 6, 2) := by decide +kernel
theorem dX3_mayOpen_3 : decode cX3_mayOpen 3 = .ok (.if_icmp .lt 20, 3) := by decide +kernel
theorem dX3_mayOpen_6 : decode cX3_mayOpen 6 = .ok (.aload_n 0, 1) := by decide +kernel
theorem dX3_mayOpen_7 : decode cX3_mayOpen 7 = .ok (.getfield 9, 3) := by decide +kernel
theorem dX3_mayOpen_10 : decode cX3_mayOpen 10 = .ok (.iconst 5, 1) := by decide +kernel
theorem dX3_mayOpen_11 : decode cX3_mayOpen 11 = .ok (.aload_n 0, 1) := by decide +kernel
theorem dX3_mayOpen_12 : decode cX3_mayOpen 12 = .ok (.getfield 9, 3) := by decide +kernel
theorem dX3_mayOpen_15 : decode cX3_mayOpen 15 = .ok (.getfield 44, 3) := by decide +kernel
theorem dX3_mayOpen_18 : decode cX3_mayOpen 18 = .ok (.invokevirtual 47, 3) := by decide +kernel
theorem dX3_mayOpen_21 : decode cX3_mayOpen 21 = .ok (.iconst 0, 1) := by decide +kernel
theorem dX3_mayOpen_22 : decode cX3_mayOpen 22 = .ok (.ireturn, 1) := by decide +kernel
theorem dX3_mayOpen_23 : decode cX3_mayOpen 23 = .ok (.aload_n 0, 1) := by decide +kernel
theorem dX3_mayOpen_24 : decode cX3_mayOpen 24 = .ok (.getfield 9, 3) := by decide +kernel
theorem dX3_mayOpen_27 : decode cX3_mayOpen 27 = .ok (.invokevirtual 54, 3) := by decide +kernel
theorem dX3_mayOpen_30 : decode cX3_mayOpen 30 = .ok (.iconst 1, 1) := by decide +kernel
theorem dX3_mayOpen_31 : decode cX3_mayOpen 31 = .ok (.ireturn, 1) := by decide +kernel
set_option maxHeartbeats 4000000 in
set_option maxRecDepth 100000 in
theorem c_X3_mayOpen (l : Launch) (E : GE) (o_t : Nat) (r_t_script : Nat) (r_t_law : Nat) (r_script_tape : Nat) (a_script_tape : Nat → Nat) (script_end : Int32) (script_place : Int32) (script_sign : Int32) (script_fault : Int32) (script_tape_size : Int32) (script_tape_bytes : (Nat → Int32)) (x1 : Int32) (r : Int32 × Int32 × Int32 × Int32) (h : f_X3_mayOpen script_end script_place script_sign script_fault script_tape_size script_tape_bytes x1 = some r) : Cn l E yX3_mayOpen cX3_mayOpen 2 (some .boolean) 2 0 0 [.ref o_t, .int x1] (W_X3_mayOpen E o_t r_t_script r_t_law r_t_script r_script_tape r_script_tape a_script_tape script_end script_place script_sign script_fault script_tape_size script_tape_bytes) (fun w => w = (W_X3_mayOpen E o_t r_t_script r_t_law r_t_script r_script_tape r_script_tape a_script_tape script_end r.2.1 r.2.2.1 r.2.2.2 script_tape_size script_tape_bytes)) (some (.int r.1)) := by
  refine Cn.ofI (by decide +kernel) (Nat.le_of_ble_eq_true rfl) (fun X hX hR C hret => ?_)
  subst hX
  show Gx X E 0 0 (W_X3_mayOpen E o_t r_t_script r_t_law r_t_script r_script_tape r_script_tape a_script_tape script_end script_place script_sign script_fault script_tape_size script_tape_bytes) 0 [(0, .ref o_t), (1, .int x1)] []
  unfold f_X3_mayOpen at h
  refine g_iload_n (pc := 0) C dX3_mayOpen_0 rfl 1 rfl ?_
  refine g_bipush (pc := 1) (v := 6) C dX3_mayOpen_1 (by decide) ?_
  refine g_icmp_lt (pc := 3) (tgt := 23) C dX3_mayOpen_3 (by decide) h (fun h => ?_) (fun h => ?_)
  · refine g_aload_n (pc := 23) C dX3_mayOpen_23 rfl 0 rfl ?_
    refine g_get (pc := 24) C fl_X3_9 dX3_mayOpen_24 0 rfl rfl ?_
    obtain ⟨u1, hu1, h⟩ := bs h
    refine g_callV (pc := 27) (st := []) (st1 := []) (ws' := (W_X3_mayOpen E o_t r_t_script r_t_law r_t_script r_script_tape r_script_tape a_script_tape script_end u1.1 u1.2 script_fault script_tape_size script_tape_bytes)) C mv_X7_step mi_X7_step ml_X3_54 (c_X7_step X.2.1 E r_t_script r_script_tape a_script_tape script_end script_place script_sign script_fault script_tape_size script_tape_bytes u1 hu1) dX3_mayOpen_27 (by decide) rfl (Nat.le_of_ble_eq_true rfl) 1 6 rfl rfl [1, 2, 3] rfl (by decide) rfl rfl rfl rfl ?_
    refine g_iconst (pc := 30) (v := 1) C dX3_mayOpen_30 (by decide) ?_
    cases h
    exact hret _ _ _ dX3_mayOpen_31 nb1 rfl
  · refine g_aload_n (pc := 6) C dX3_mayOpen_6 rfl 0 rfl ?_
    refine g_get (pc := 7) C fl_X3_9 dX3_mayOpen_7 0 rfl rfl ?_
    refine g_iconst (pc := 10) (v := 5) C dX3_mayOpen_10 (by decide) ?_
    refine g_aload_n (pc := 11) C dX3_mayOpen_11 rfl 0 rfl ?_
    refine g_get (pc := 12) C fl_X3_9 dX3_mayOpen_12 0 rfl rfl ?_
    refine g_get (pc := 15) C fl_X3_44 dX3_mayOpen_15 1 rfl rfl ?_
    obtain ⟨u2, hu2, h⟩ := bs h
    refine g_callV (pc := 18) (st := []) (st1 := []) (ws' := (W_X3_mayOpen E o_t r_t_script r_t_law r_t_script r_script_tape r_script_tape a_script_tape script_end script_place script_sign u2 script_tape_size script_tape_bytes)) C mv_X7_fail mi_X7_fail ml_X3_47 (c_X7_fail X.2.1 E r_t_script r_script_tape script_end script_place script_sign script_fault (5 : Int32) script_place u2 hu2) dX3_mayOpen_18 (by decide) rfl (Nat.le_of_ble_eq_true rfl) 1 6 rfl rfl [1] rfl (by decide) rfl rfl rfl rfl ?_
    refine g_iconst (pc := 21) (v := 0) C dX3_mayOpen_21 (by decide) ?_
    cases h
    exact hret _ _ _ dX3_mayOpen_22 nb0 rfl
