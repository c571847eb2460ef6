abbrev W_X11_areDoorsWithKinds (E : GE) (O_t : Nat) (r_t_tape : Nat) (r_t_script : Nat) (r_t_hairReader : Nat) (r_t_ordersReader : Nat) (r_t_lawReader : Nat) (r_t_doors : Nat) (r_t_town : Nat) (r_t_kept : Nat) (r_t_trial : Nat) (r_t_walk : Nat) (r_t_reach : Nat) (r_t_lawNow : Nat) (r_t_lawSpare : Nat) (O_tape : Nat) (a_tape : Nat → Nat) (O_doors : Nat) (a_doors : Nat → Nat) (t_isKept : Int32) (tape_size : Int32) (tape_bytes : (Nat → Int32)) (doors_told : Int32) (doors_barred : Int32) : va_W := [(O_t, ob_X11 r_t_tape r_t_script r_t_hairReader r_t_ordersReader r_t_lawReader r_t_doors r_t_town r_t_kept r_t_trial r_t_walk r_t_reach r_t_lawNow r_t_lawSpare t_isKept), (O_tape, ob_X8 a_tape tape_size), (a_tape 0, .inl (E.2.1, 260, .inl tape_bytes)), (O_doors, ob_X0 a_doors doors_told doors_barred)]
def L_X11_areDoorsWithKinds_2 (tape_size : Int32) (tape_bytes : (Nat → Int32)) (doors_told : Int32) (x1 : Int32) : Nat → Int32 → Option (Int32) := lp fun go s => if x1 ≤ s then (some (1 : Int32)) else (f_X8_at tape_size tape_bytes ((2 : Int32) * s)).bind fun u1 => (f_X0_isTold doors_told u1).bind fun u2 => if u2 = 0 then (some (0 : Int32)) else (f_X8_at tape_size tape_bytes (((2 : Int32) * s) + (1 : Int32))).bind fun u3 => if u3 < (6 : Int32) then (nm (s + (1 : Int32)) fun v4 => go v4) else some (0 : Int32)
def f_X11_areDoorsWithKinds (tape_size : Int32) (tape_bytes : (Nat → Int32)) (doors_told : Int32) (x1 : Int32) : Option (Int32) := L_X11_areDoorsWithKinds_2 tape_size tape_bytes doors_told x1 fu (0 : Int32)
theorem dX11_areDoorsWithKinds_0 : decode cX11_areDoorsWithKinds 0 = .ok (.iconst 0, 1) := by decide +kernel
theorem dX11_areDoorsWithKinds_1 : decode cX11_areDoorsWithKinds 1 = .ok (.istore_n 2, 1) := by decide +kernel
theorem dX11_areDoorsWithKinds_2 : decode cX11_areDoorsWithKinds 2 = .ok (.iload_n 2, 1) := by decide +kernel
theorem dX11_areDoorsWithKinds_3 : decode cX11_areDoorsWithKinds 3 = .ok (.iload_n 1, 1) := by decide +kernel
theorem dX11_areDoorsWithKinds_4 : decode cX11_areDoorsWithKinds 4 = .ok (.if_icmp .ge 48, 3) := by decide +kernel
theorem dX11_areDoorsWithKinds_7 : decode cX11_areDoorsWithKinds 7 = .ok (.aload_n 0, 1) := by decide +kernel
theorem dX11_areDoorsWithKinds_8 : decode cX11_areDoorsWithKinds 8 = .ok (.getfield 44, 3) := by decide +kernel
theorem dX11_areDoorsWithKinds_11 : decode cX11_areDoorsWithKinds 11 = .ok (.aload_n 0, 1) := by decide +kernel
theorem dX11_areDoorsWithKinds_12 : decode cX11_areDoorsWithKinds 12 = .ok (.getfield 10, 3) := by decide +kernel
theorem dX11_areDoorsWithKinds_15 : decode cX11_areDoorsWithKinds 15 = .ok (.iconst 2, 1) := by decide +kernel
theorem dX11_areDoorsWithKinds_16 : decode cX11_areDoorsWithKinds 16 = .ok (.iload_n 2, 1) := by decide +kernel
theorem dX11_areDoorsWithKinds_17 : decode cX11_areDoorsWithKinds 17 = .ok (.imul, 1) := by decide +kernel
theorem dX11_areDoorsWithKinds_18 : decode cX11_areDoorsWithKinds 18 = .ok (.invokevirtual 316, 3) := by decide +kernel
theorem dX11_areDoorsWithKinds_21 : decode cX11_areDoorsWithKinds 21 = .ok (.invokevirtual 202, 3) := by decide +kernel
theorem dX11_areDoorsWithKinds_24 : decode cX11_areDoorsWithKinds 24 = .ok (.ifCond .eq 20, 3) := by decide +kernel
theorem dX11_areDoorsWithKinds_27 : decode cX11_areDoorsWithKinds 27 = .ok (.aload_n 0, 1) := by decide +kernel
theorem dX11_areDoorsWithKinds_28 : decode cX11_areDoorsWithKinds 28 = .ok (.getfield 10, 3) := by decide +kernel
theorem dX11_areDoorsWithKinds_31 : decode cX11_areDoorsWithKinds 31 = .ok (.iconst 2, 1) := by decide +kernel
theorem dX11_areDoorsWithKinds_32 : decode cX11_areDoorsWithKinds 32 = .ok (.iload_n 2, 1) := by decide +kernel
theorem dX11_areDoorsWithKinds_33 : decode cX11_areDoorsWithKinds 33 = .ok (.imul, 1) := by decide +kernel
theorem dX11_areDoorsWithKinds_34 : decode cX11_areDoorsWithKinds 34 = .ok (.iconst 1, 1) := by decide +kernel
theorem dX11_areDoorsWithKinds_35 : decode cX11_areDoorsWithKinds 35 = .ok (.iadd, 1) := by decide +kernel
theorem dX11_areDoorsWithKinds_36 : decode cX11_areDoorsWithKinds 36 = .ok (.invokevirtual 316, 3) := by decide +kernel
theorem dX11_areDoorsWithKinds_39 : decode cX11_areDoorsWithKinds 39 = .ok (.bipush 6, 2) := by decide +kernel
theorem dX11_areDoorsWithKinds_41 : decode cX11_areDoorsWithKinds 41 = .ok (.if_icmp .lt 5, 3) := by decide +kernel
theorem dX11_areDoorsWithKinds_44 : decode cX11_areDoorsWithKinds 44 = .ok (.iconst 0, 1) := by decide +kernel
theorem dX11_areDoorsWithKinds_45 : decode cX11_areDoorsWithKinds 45 = .ok (.ireturn, 1) := by decide +kernel
theorem dX11_areDoorsWithKinds_46 : decode cX11_areDoorsWithKinds 46 = .ok (.iinc 2 1, 3) := by decide +kernel
theorem dX11_areDoorsWithKinds_49 : decode cX11_areDoorsWithKinds 49 = .ok (.goto (-47), 3) := by decide +kernel
theorem dX11_areDoorsWithKinds_52 : decode cX11_areDoorsWithKinds 52 = .ok (.iconst 1, 1) := by decide +kernel
theorem dX11_areDoorsWithKinds_53 : decode cX11_areDoorsWithKinds 53 = .ok (.ireturn, 1) := by decide +kernel
set_option maxHeartbeats 4000000 in
set_option maxRecDepth 100000 in
theorem kL_X11_areDoorsWithKinds_2 {X : GC} {E : GE} (C : Cx X E cX11_areDoorsWithKinds RX11 2 3) (o_t : Nat) (r_t_tape : Nat) (r_t_script : Nat) (r_t_hairReader : Nat) (r_t_ordersReader : Nat) (r_t_lawReader : Nat) (r_t_doors : Nat) (r_t_town : Nat) (r_t_kept : Nat) (r_t_trial : Nat) (r_t_walk : Nat) (r_t_reach : Nat) (r_t_lawNow : Nat) (r_t_lawSpare : Nat) (a_tape : Nat → Nat) (a_doors : Nat → Nat) (t_isKept : Int32) (doors_barred : Int32) (tape_size : Int32) (tape_bytes : (Nat → Int32)) (doors_told : Int32) (x1 : Int32) {r : Int32} (hret : RtI X E cX11_areDoorsWithKinds .boolean 0 0 (fun w => w = (W_X11_areDoorsWithKinds E o_t r_t_tape r_t_script r_t_hairReader r_t_ordersReader r_t_lawReader r_t_doors r_t_town r_t_kept r_t_trial r_t_walk r_t_reach r_t_lawNow r_t_lawSpare r_t_tape a_tape r_t_doors a_doors t_isKept tape_size tape_bytes doors_told doors_barred)) r) : ∀ (n : Nat) (s : Int32), L_X11_areDoorsWithKinds_2 tape_size tape_bytes doors_told x1 n s = some r → Gx X E 0 0 (W_X11_areDoorsWithKinds E o_t r_t_tape r_t_script r_t_hairReader r_t_ordersReader r_t_lawReader r_t_doors r_t_town r_t_kept r_t_trial r_t_walk r_t_reach r_t_lawNow r_t_lawSpare r_t_tape a_tape r_t_doors a_doors t_isKept tape_size tape_bytes doors_told doors_barred) 2 [(0, .ref o_t), (1, .int x1), (2, .int s)] [] := by
  unfold L_X11_areDoorsWithKinds_2
  refine lp_ind _ (fun go ih s h => ?_)
  refine g_iload_n (pc := 2) C dX11_areDoorsWithKinds_2 rfl 2 rfl ?_
  refine g_iload_n (pc := 3) C dX11_areDoorsWithKinds_3 rfl 1 rfl ?_
  refine g_icmp_ge (pc := 4) (tgt := 52) C dX11_areDoorsWithKinds_4 (by decide) h (fun h => ?_) (fun h => ?_)
  · refine g_iconst (pc := 52) (v := 1) C dX11_areDoorsWithKinds_52 (by decide) ?_
    cases h
    exact hret _ _ _ dX11_areDoorsWithKinds_53 nb1 rfl
  · refine g_aload_n (pc := 7) C dX11_areDoorsWithKinds_7 rfl 0 rfl ?_
    refine g_get (pc := 8) C fl_X11_44 dX11_areDoorsWithKinds_8 0 rfl rfl ?_
    refine g_aload_n (pc := 11) C dX11_areDoorsWithKinds_11 rfl 0 rfl ?_
    refine g_get (pc := 12) C fl_X11_10 dX11_areDoorsWithKinds_12 0 rfl rfl ?_
    refine g_iconst (pc := 15) (v := 2) C dX11_areDoorsWithKinds_15 (by decide) ?_
    refine g_iload_n (pc := 16) C dX11_areDoorsWithKinds_16 rfl 2 rfl ?_
    refine g_imul (pc := 17) C dX11_areDoorsWithKinds_17 ?_
    obtain ⟨u1, hu1, h⟩ := bs h
    refine g_callV (pc := 18) (st := [.ref r_t_doors]) (st1 := [.int u1, .ref r_t_doors]) (ws' := (W_X11_areDoorsWithKinds E o_t r_t_tape r_t_script r_t_hairReader r_t_ordersReader r_t_lawReader r_t_doors r_t_town r_t_kept r_t_trial r_t_walk r_t_reach r_t_lawNow r_t_lawSpare r_t_tape a_tape r_t_doors a_doors t_isKept tape_size tape_bytes doors_told doors_barred)) C mv_X8_at mi_X8_at ml_X11_316 (c_X8_at X.2.1 E r_t_tape a_tape tape_size tape_bytes ((2 : Int32) * s) u1 hu1) dX11_areDoorsWithKinds_18 (by decide) rfl (Nat.le_of_ble_eq_true rfl) 1 7 rfl rfl [1, 2] rfl (by decide) rfl rfl rfl rfl ?_
    obtain ⟨u2, hu2, h⟩ := bs h
    refine g_callV (pc := 21) (st := []) (st1 := [.int u2]) (ws' := (W_X11_areDoorsWithKinds E o_t r_t_tape r_t_script r_t_hairReader r_t_ordersReader r_t_lawReader r_t_doors r_t_town r_t_kept r_t_trial r_t_walk r_t_reach r_t_lawNow r_t_lawSpare r_t_tape a_tape r_t_doors a_doors t_isKept tape_size tape_bytes doors_told doors_barred)) C mv_X0_isTold mi_X0_isTold ml_X11_202 (c_X0_isTold X.2.1 E r_t_doors a_doors doors_told doors_barred u1 u2 hu2) dX11_areDoorsWithKinds_21 (by decide) rfl (Nat.le_of_ble_eq_true rfl) 3 0 rfl rfl [3] rfl (by decide) rfl rfl rfl rfl ?_
    refine g_if_eq (pc := 24) (tgt := 44) C dX11_areDoorsWithKinds_24 (by decide) h (fun h => ?_) (fun h => ?_)
    · refine g_iconst (pc := 44) (v := 0) C dX11_areDoorsWithKinds_44 (by decide) ?_
      cases h
      exact hret _ _ _ dX11_areDoorsWithKinds_45 nb0 rfl
    · refine g_aload_n (pc := 27) C dX11_areDoorsWithKinds_27 rfl 0 rfl ?_
      refine g_get (pc := 28) C fl_X11_10 dX11_areDoorsWithKinds_28 0 rfl rfl ?_
      refine g_iconst (pc := 31) (v := 2) C dX11_areDoorsWithKinds_31 (by decide) ?_
      refine g_iload_n (pc := 32) C dX11_areDoorsWithKinds_32 rfl 2 rfl ?_
      refine g_imul (pc := 33) C dX11_areDoorsWithKinds_33 ?_
      refine g_iconst (pc := 34) (v := 1) C dX11_areDoorsWithKinds_34 (by decide) ?_
      refine g_iadd (pc := 35) C dX11_areDoorsWithKinds_35 ?_
      obtain ⟨u3, hu3, h⟩ := bs h
      refine g_callV (pc := 36) (st := []) (st1 := [.int u3]) (ws' := (W_X11_areDoorsWithKinds E o_t r_t_tape r_t_script r_t_hairReader r_t_ordersReader r_t_lawReader r_t_doors r_t_town r_t_kept r_t_trial r_t_walk r_t_reach r_t_lawNow r_t_lawSpare r_t_tape a_tape r_t_doors a_doors t_isKept tape_size tape_bytes doors_told doors_barred)) C mv_X8_at mi_X8_at ml_X11_316 (c_X8_at X.2.1 E r_t_tape a_tape tape_size tape_bytes (((2 : Int32) * s) + (1 : Int32)) u3 hu3) dX11_areDoorsWithKinds_36 (by decide) rfl (Nat.le_of_ble_eq_true rfl) 1 7 rfl rfl [1, 2] rfl (by decide) rfl rfl rfl rfl ?_
      refine g_bipush (pc := 39) (v := 6) C dX11_areDoorsWithKinds_39 (by decide) ?_
      refine g_icmp_lt (pc := 41) (tgt := 46) C dX11_areDoorsWithKinds_41 (by decide) h (fun h => ?_) (fun h => ?_)
      · refine g_iincn (pc := 46) (j := 2) (d := 1) (lv' := fun v4 => [(2, .int v4), (0, .ref o_t), (1, .int x1)]) C dX11_areDoorsWithKinds_46 rfl (by decide) (by decide) (fun _ => rfl) h (fun v4 h => ?_)
        refine g_goto (pc := 49) (tgt := 2) C dX11_areDoorsWithKinds_49 (by decide) ?_
        refine g_sub [1, 2, 0] rfl ?_
        exact ih _ h
      · refine g_iconst (pc := 44) (v := 0) C dX11_areDoorsWithKinds_44 (by decide) ?_
        cases h
        exact hret _ _ _ dX11_areDoorsWithKinds_45 nb0 rfl
set_option maxHeartbeats 4000000 in
set_option maxRecDepth 100000 in
theorem c_X11_areDoorsWithKinds (l : Launch) (E : GE) (o_t : Nat) (r_t_tape : Nat) (r_t_script : Nat) (r_t_hairReader : Nat) (r_t_ordersReader : Nat) (r_t_lawReader : Nat) (r_t_doors : Nat) (r_t_town : Nat) (r_t_kept : Nat) (r_t_trial : Nat) (r_t_walk : Nat) (r_t_reach : Nat) (r_t_lawNow : Nat) (r_t_lawSpare : Nat) (a_tape : Nat → Nat) (a_doors : Nat → Nat) (t_isKept : Int32) (tape_size : Int32) (tape_bytes : (Nat → Int32)) (doors_told : Int32) (doors_barred : Int32) (x1 : Int32) (r : Int32) (h : f_X11_areDoorsWithKinds tape_size tape_bytes doors_told x1 = some r) : Cn l E yX11_areDoorsWithKinds cX11_areDoorsWithKinds 3 (some .boolean) 2 0 0 [.ref o_t, .int x1] (W_X11_areDoorsWithKinds E o_t r_t_tape r_t_script r_t_hairReader r_t_ordersReader r_t_lawReader r_t_doors r_t_town r_t_kept r_t_trial r_t_walk r_t_reach r_t_lawNow r_t_lawSpare r_t_tape a_tape r_t_doors a_doors t_isKept tape_size tape_bytes doors_told doors_barred) (fun w => w = (W_X11_areDoorsWithKinds E o_t r_t_tape r_t_script r_t_hairReader r_t_ordersReader r_t_lawReader r_t_doors r_t_town r_t_kept r_t_trial r_t_walk r_t_reach r_t_lawNow r_t_lawSpare r_t_tape a_tape r_t_doors a_doors t_isKept tape_size tape_bytes doors_told doors_barred)) (some (.int r)) := by
  refine Cn.ofI (by decide +kernel) (Nat.le_of_ble_eq_true rfl) (fun X hX hR C hret => ?_)
  subst hX
  show Gx X E 0 0 (W_X11_areDoorsWithKinds E o_t r_t_tape r_t_script r_t_hairReader r_t_ordersReader r_t_lawReader r_t_doors r_t_town r_t_kept r_t_trial r_t_walk r_t_reach r_t_lawNow r_t_lawSpare r_t_tape a_tape r_t_doors a_doors t_isKept tape_size tape_bytes doors_told doors_barred) 0 [(0, .ref o_t), (1, .int x1)] []
  unfold f_X11_areDoorsWithKinds at h
  refine g_iconst (pc := 0) (v := 0) C dX11_areDoorsWithKinds_0 (by decide) ?_
  refine g_istore_n (pc := 1) (lv' := [(2, .int (0 : Int32)), (0, .ref o_t), (1, .int x1)]) C dX11_areDoorsWithKinds_1 rfl (by decide) rfl ?_
  refine g_sub [1, 2, 0] rfl ?_
  refine kL_X11_areDoorsWithKinds_2 C o_t r_t_tape r_t_script r_t_hairReader r_t_ordersReader r_t_lawReader r_t_doors r_t_town r_t_kept r_t_trial r_t_walk r_t_reach r_t_lawNow r_t_lawSpare a_tape a_doors t_isKept doors_barred tape_size tape_bytes doors_told x1 hret  _ _ h
abbrev W_X11_bentOf (E : GE) (O_t : Nat) (r_t_tape : Nat) (r_t_script : Nat) (r_t_hairReader : Nat) (r_t_ordersReader : Nat) (r_t_lawReader : Nat) (r_t_doors : Nat) (r_t_town : Nat) (r_t_kept : Nat) (r_t_trial : Nat) (r_t_walk : Nat) (r_t_reach : Nat) (r_t_lawNow : Nat) (r_t_lawSpare : Nat) (O_tape : Nat) (a_tape : Nat → Nat) (t_isKept : Int32) (tape_size : Int32) (tape_bytes : (Nat → Int32)) : va_W := [(O_t, ob_X11 r_t_tape r_t_script r_t_hairReader r_t_ordersReader r_t_lawReader r_t_doors r_t_town r_t_kept r_t_trial r_t_walk r_t_reach r_t_lawNow r_t_lawSpare t_isKept), (O_tape, ob_X8 a_tape tape_size), (a_tape 0, .inl (E.2.1, 260, .inl tape_bytes))]
def L_X11_bentOf_5 (tape_size : Int32) (tape_bytes : (Nat → Int32)) (x1 : Int32) (x2 : Int32) : Nat → Int32 × Int32 → Option (Int32) := lp fun go s => if x1 ≤ s.2 then (some s.1) else (f_X8_at tape_size tape_bytes (((2 : Int32) * s.2) + (1 : Int32))).bind fun u1 => if u1 = x2 then (nm (s.1 + (1 : Int32)) fun v3 => nm (s.2 + (1 : Int32)) fun v4 => go (v3, v4)) else nm (s.2 + (1 : Int32)) fun v2 => go (s.1, v2)
def f_X11_bentOf (tape_size : Int32) (tape_bytes : (Nat → Int32)) (x1 : Int32) (x2 : Int32) : Option (Int32) := L_X11_bentOf_5 tape_size tape_bytes x1 x2 fu ((0 : Int32), (0 : Int32))
theorem dX11_bentOf_0 : decode cX11_bentOf 0 = .ok (.iconst 0, 1) := by decide +kernel
theorem dX11_bentOf_1 : decode cX11_bentOf 1 = .ok (.istore_n 3, 1) := by decide +kernel
theorem dX11_bentOf_2 : decode cX11_bentOf 2 = .ok (.iconst 0, 1) := by decide +kernel
theorem dX11_bentOf_3 : decode cX11_bentOf 3 = .ok (.istore 4, 2) := by decide +kernel
theorem dX11_bentOf_5 : decode cX11_bentOf 5 = .ok (.iload 4, 2) := by decide +kernel
theorem dX11_bentOf_7 : decode cX11_bentOf 7 = .ok (.iload_n 1, 1) := by decide +kernel
theorem dX11_bentOf_8 : decode cX11_bentOf 8 = .ok (.if_icmp .ge 29, 3) := by decide +kernel
theorem dX11_bentOf_11 : decode cX11_bentOf 11 = .ok (.aload_n 0, 1) := by decide +kernel
theorem dX11_bentOf_12 : decode cX11_bentOf 12 = .ok (.getfield 10, 3) := by decide +kernel
theorem dX11_bentOf_15 : decode cX11_bentOf 15 = .ok (.iconst 2, 1) := by decide +kernel
theorem dX11_bentOf_16 : decode cX11_bentOf 16 = .ok (.iload 4, 2) := by decide +kernel
theorem dX11_bentOf_18 : decode cX11_bentOf 18 = .ok (.imul, 1) := by decide +kernel
theorem dX11_bentOf_19 : decode cX11_bentOf 19 = .ok (.iconst 1, 1) := by decide +kernel
theorem dX11_bentOf_20 : decode cX11_bentOf 20 = .ok (.iadd, 1) := by decide +kernel
theorem dX11_bentOf_21 : decode cX11_bentOf 21 = .ok (.invokevirtual 316, 3) := by decide +kernel
theorem dX11_bentOf_24 : decode cX11_bentOf 24 = .ok (.iload_n 2, 1) := by decide +kernel
theorem dX11_bentOf_25 : decode cX11_bentOf 25 = .ok (.if_icmp .ne 6, 3) := by decide +kernel
theorem dX11_bentOf_28 : decode cX11_bentOf 28 = .ok (.iinc 3 1, 3) := by decide +kernel
theorem dX11_bentOf_31 : decode cX11_bentOf 31 = .ok (.iinc 4 1, 3) := by decide +kernel
theorem dX11_bentOf_34 : decode cX11_bentOf 34 = .ok (.goto (-29), 3) := by decide +kernel
theorem dX11_bentOf_37 : decode cX11_bentOf 37 = .ok (.iload_n 3, 1) := by decide +kernel
theorem dX11_bentOf_38 : decode cX11_bentOf 38 = .ok (.ireturn, 1) := by decide +kernel
set_option maxHeartbeats 4000000 in
set_option maxRecDepth 100000 in
theorem kL_X11_bentOf_5 {X : GC} {E : GE} (C : Cx X E cX11_bentOf RX11 2 5) (o_t : Nat) (r_t_tape : Nat) (r_t_script : Nat) (r_t_hairReader : Nat) (r_t_ordersReader : Nat) (r_t_lawReader : Nat) (r_t_doors : Nat) (r_t_town : Nat) (r_t_kept : Nat) (r_t_trial : Nat) (r_t_walk : Nat) (r_t_reach : Nat) (r_t_lawNow : Nat) (r_t_lawSpare : Nat) (a_tape : Nat → Nat) (t_isKept : Int32) (tape_size : Int32) (tape_bytes : (Nat → Int32)) (x1 : Int32) (x2 : Int32) {r : Int32} (hret : RtI X E cX11_bentOf .int 0 0 (fun w => w = (W_X11_bentOf E o_t r_t_tape r_t_script r_t_hairReader r_t_ordersReader r_t_lawReader r_t_doors r_t_town r_t_kept r_t_trial r_t_walk r_t_reach r_t_lawNow r_t_lawSpare r_t_tape a_tape t_isKept tape_size tape_bytes)) r) : ∀ (n : Nat) (s : Int32 × Int32), L_X11_bentOf_5 tape_size tape_bytes x1 x2 n s = some r → Gx X E 0 0 (W_X11_bentOf E o_t r_t_tape r_t_script r_t_hairReader r_t_ordersReader r_t_lawReader r_t_doors r_t_town r_t_kept r_t_trial r_t_walk r_t_reach r_t_lawNow r_t_lawSpare r_t_tape a_tape t_isKept tape_size tape_bytes) 5 [(0, .ref o_t), (1, .int x1), (2, .int x2), (3, .int s.1), (4, .int s.2)] [] := by
  unfold L_X11_bentOf_5
  refine lp_ind _ (fun go ih s h => ?_)
  refine g_iload (pc := 5) C dX11_bentOf_5 4 rfl ?_
  refine g_iload_n (pc := 7) C dX11_bentOf_7 rfl 1 rfl ?_
  refine g_icmp_ge (pc := 8) (tgt := 37) C dX11_bentOf_8 (by decide) h (fun h => ?_) (fun h => ?_)
  · refine g_iload_n (pc := 37) C dX11_bentOf_37 rfl 3 rfl ?_
    cases h
    exact hret _ _ _ dX11_bentOf_38 rfl rfl
  · refine g_aload_n (pc := 11) C dX11_bentOf_11 rfl 0 rfl ?_
    refine g_get (pc := 12) C fl_X11_10 dX11_bentOf_12 0 rfl rfl ?_
    refine g_iconst (pc := 15) (v := 2) C dX11_bentOf_15 (by decide) ?_
    refine g_iload (pc := 16) C dX11_bentOf_16 4 rfl ?_
    refine g_imul (pc := 18) C dX11_bentOf_18 ?_
    refine g_iconst (pc := 19) (v := 1) C dX11_bentOf_19 (by decide) ?_
    refine g_iadd (pc := 20) C dX11_bentOf_20 ?_
    obtain ⟨u1, hu1, h⟩ := bs h
    refine g_callV (pc := 21) (st := []) (st1 := [.int u1]) (ws' := (W_X11_bentOf E o_t r_t_tape r_t_script r_t_hairReader r_t_ordersReader r_t_lawReader r_t_doors r_t_town r_t_kept r_t_trial r_t_walk r_t_reach r_t_lawNow r_t_lawSpare r_t_tape a_tape t_isKept tape_size tape_bytes)) C mv_X8_at mi_X8_at ml_X11_316 (c_X8_at X.2.1 E r_t_tape a_tape tape_size tape_bytes (((2 : Int32) * s.2) + (1 : Int32)) u1 hu1) dX11_bentOf_21 (by decide) rfl (Nat.le_of_ble_eq_true rfl) 1 7 rfl rfl [1, 2] rfl (by decide) rfl rfl rfl rfl ?_
    refine g_iload_n (pc := 24) C dX11_bentOf_24 rfl 2 rfl ?_
    refine g_icmp_ne (pc := 25) (tgt := 31) C dX11_bentOf_25 (by decide) h (fun h => ?_) (fun h => ?_)
    · refine g_iincn (pc := 31) (j := 4) (d := 1) (lv' := fun v2 => [(4, .int v2), (0, .ref o_t), (1, .int x1), (2, .int x2), (3, .int s.1)]) C dX11_bentOf_31 rfl (by decide) (by decide) (fun _ => rfl) h (fun v2 h => ?_)
      refine g_goto (pc := 34) (tgt := 5) C dX11_bentOf_34 (by decide) ?_
      refine g_sub [1, 2, 3, 4, 0] rfl ?_
      exact ih _ h
    · refine g_iincn (pc := 28) (j := 3) (d := 1) (lv' := fun v3 => [(3, .int v3), (0, .ref o_t), (1, .int x1), (2, .int x2), (4, .int s.2)]) C dX11_bentOf_28 rfl (by decide) (by decide) (fun _ => rfl) h (fun v3 h => ?_)
      refine g_iincn (pc := 31) (j := 4) (d := 1) (lv' := fun v4 => [(4, .int v4), (3, .int v3), (0, .ref o_t), (1, .int x1), (2, .int x2)]) C dX11_bentOf_31 rfl (by decide) (by decide) (fun _ => rfl) h (fun v4 h => ?_)
      refine g_goto (pc := 34) (tgt := 5) C dX11_bentOf_34 (by decide) ?_
      refine g_sub [2, 3, 4, 1, 0] rfl ?_
      exact ih _ h
set_option maxHeartbeats 4000000 in
set_option maxRecDepth 100000 in
theorem c_X11_bentOf (l : Launch) (E : GE) (o_t : Nat) (r_t_tape : Nat) (r_t_script : Nat) (r_t_hairReader : Nat) (r_t_ordersReader : Nat) (r_t_lawReader : Nat) (r_t_doors : Nat) (r_t_town : Nat) (r_t_kept : Nat) (r_t_trial : Nat) (r_t_walk : Nat) (r_t_reach : Nat) (r_t_lawNow : Nat) (r_t_lawSpare : Nat) (a_tape : Nat → Nat) (t_isKept : Int32) (tape_size : Int32) (tape_bytes : (Nat → Int32)) (x1 : Int32) (x2 : Int32) (r : Int32) (h : f_X11_bentOf tape_size tape_bytes x1 x2 = some r) : Cn l E yX11_bentOf cX11_bentOf 5 (some .int) 2 0 0 [.ref o_t, .int x1, .int x2] (W_X11_bentOf E o_t r_t_tape r_t_script r_t_hairReader r_t_ordersReader r_t_lawReader r_t_doors r_t_town r_t_kept r_t_trial r_t_walk r_t_reach r_t_lawNow r_t_lawSpare r_t_tape a_tape t_isKept tape_size tape_bytes) (fun w => w = (W_X11_bentOf E o_t r_t_tape r_t_script r_t_hairReader r_t_ordersReader r_t_lawReader r_t_doors r_t_town r_t_kept r_t_trial r_t_walk r_t_reach r_t_lawNow r_t_lawSpare r_t_tape a_tape t_isKept tape_size tape_bytes)) (some (.int r)) := by
  refine Cn.ofI (by decide +kernel) (Nat.le_of_ble_eq_true rfl) (fun X hX hR C hret => ?_)
  subst hX
  show Gx X E 0 0 (W_X11_bentOf E o_t r_t_tape r_t_script r_t_hairReader r_t_ordersReader r_t_lawReader r_t_doors r_t_town r_t_kept r_t_trial r_t_walk r_t_reach r_t_lawNow r_t_lawSpare r_t_tape a_tape t_isKept tape_size tape_bytes) 0 [(0, .ref o_t), (1, .int x1), (2, .int x2)] []
  unfold f_X11_bentOf at h
  refine g_iconst (pc := 0) (v := 0) C dX11_bentOf_0 (by decide) ?_
  refine g_istore_n (pc := 1) (lv' := [(3, .int (0 : Int32)), (0, .ref o_t), (1, .int x1), (2, .int x2)]) C dX11_bentOf_1 rfl (by decide) rfl ?_
  refine g_iconst (pc := 2) (v := 0) C dX11_bentOf_2 (by decide) ?_
  refine g_istore (pc := 3) (lv' := [(4, .int (0 : Int32)), (3, .int (0 : Int32)), (0, .ref o_t), (1, .int x1), (2, .int x2)]) C dX11_bentOf_3 (by decide) rfl ?_
  refine g_sub [2, 3, 4, 1, 0] rfl ?_
  refine kL_X11_bentOf_5 C o_t r_t_tape r_t_script r_t_hairReader r_t_ordersReader r_t_lawReader r_t_doors r_t_town r_t_kept r_t_trial r_t_walk r_t_reach r_t_lawNow r_t_lawSpare a_tape t_isKept tape_size tape_bytes x1 x2 hret  _ _ h
abbrev W_X11_canBeTried (E : GE) (O_t : Nat) (r_t_tape : Nat) (r_t_script : Nat) (r_t_hairReader : Nat) (r_t_ordersReader : Nat) (r_t_lawReader : Nat) (r_t_doors : Nat) (r_t_town : Nat) (r_t_kept : Nat) (r_t_trial : Nat) (r_t_walk : Nat) (r_t_reach : Nat) (r_t_lawNow : Nat) (r_t_lawSpare : Nat) (O_town : Nat) (a_town : Nat → Nat) (t_isKept : Int32) (town_told : Int32) (town_round : Int32) (town_x : Int32) : va_W := [(O_t, ob_X11 r_t_tape r_t_script r_t_hairReader r_t_ordersReader r_t_lawReader r_t_doors r_t_town r_t_kept r_t_trial r_t_walk r_t_reach r_t_lawNow r_t_lawSpare t_isKept), (O_town, ob_X9 a_town town_told town_round town_x)]
def f_X11_canBeTried (town_told : Int32) (x1 : Int32) : Option (Int32) := if x1 = 0 then (some (1 : Int32)) else if x1 = (1 : Int32) then (some (1 : Int32)) else (f_X11_isWithin x1 (10 : Int32) (19 : Int32)).bind fun u1 => if u1 = 0 then ((f_X11_isWithin x1 (30 : Int32) (39 : Int32)).bind fun u2 => if u2 = 0 then (some (0 : Int32)) else (f_X9_isTold town_told (x1 - (30 : Int32))).bind fun u3 => if u3 = 0 then (some (0 : Int32)) else some (1 : Int32)) else (f_X9_isTold town_told (x1 - (10 : Int32))).bind fun u4 => gb u4 <| some u4
theorem dX11_canBeTried_0 : decode cX11_canBeTried 0 = .ok (.iload_n 1, 1) := by decide +kernel
theorem dX11_canBeTried_1 : decode cX11_canBeTried 1 = .ok (.ifCond .eq 8, 3) := by decide +kernel
theorem dX11_canBeTried_4 : decode cX11_canBeTried 4 = .ok (.iload_n 1, 1) := by decide +kernel
theorem dX11_canBeTried_5 : decode cX11_canBeTried 5 = .ok (.iconst 1, 1) := by decide +kernel
theorem dX11_canBeTried_6 : decode cX11_canBeTried 6 = .ok (.if_icmp .ne 5, 3) := by decide +kernel
theorem dX11_canBeTried_9 : decode cX11_canBeTried 9 = .ok (.iconst 1, 1) := by decide +kernel
theorem dX11_canBeTried_10 : decode cX11_canBeTried 10 = .ok (.ireturn, 1) := by decide +kernel
theorem dX11_canBeTried_11 : decode cX11_canBeTried 11 = .ok (.iload_n 1, 1) := by decide +kernel
theorem dX11_canBeTried_12 : decode cX11_canBeTried 12 = .ok (.bipush 10, 2) := by decide +kernel
theorem dX11_canBeTried_14 : decode cX11_canBeTried 14 = .ok (.bipush 19, 2) := by decide +kernel
theorem dX11_canBeTried_16 : decode cX11_canBeTried 16 = .ok (.invokestatic 98, 3) := by decide +kernel
theorem dX11_canBeTried_19 : decode cX11_canBeTried 19 = .ok (.ifCond .eq 15, 3) := by decide +kernel
theorem dX11_canBeTried_22 : decode cX11_canBeTried 22 = .ok (.aload_n 0, 1) := by decide +kernel
theorem dX11_canBeTried_23 : decode cX11_canBeTried 23 = .ok (.getfield 51, 3) := by decide +kernel
theorem dX11_canBeTried_26 : decode cX11_canBeTried 26 = .ok (.iload_n 1, 1) := by decide +kernel
theorem dX11_canBeTried_27 : decode cX11_canBeTried 27 = .ok (.bipush 10, 2) := by decide +kernel
theorem dX11_canBeTried_29 : decode cX11_canBeTried 29 = .ok (.isub, 1) := by decide +kernel
theorem dX11_canBeTried_30 : decode cX11_canBeTried 30 = .ok (.invokevirtual 134, 3) := by decide +kernel
theorem dX11_canBeTried_33 : decode cX11_canBeTried 33 = .ok (.ireturn, 1) := by decide +kernel
theorem dX11_canBeTried_34 : decode cX11_canBeTried 34 = .ok (.iload_n 1, 1) := by decide +kernel
theorem dX11_canBeTried_35 : decode cX11_canBeTried 35 = .ok (.bipush 30, 2) := by decide +kernel
theorem dX11_canBeTried_37 : decode cX11_canBeTried 37 = .ok (.bipush 39, 2) := by decide +kernel
theorem dX11_canBeTried_39 : decode cX11_canBeTried 39 = .ok (.invokestatic 98, 3) := by decide +kernel
theorem dX11_canBeTried_42 : decode cX11_canBeTried 42 = .ok (.ifCond .eq 21, 3) := by decide +kernel
theorem dX11_canBeTried_45 : decode cX11_canBeTried 45 = .ok (.aload_n 0, 1) := by decide +kernel
theorem dX11_canBeTried_46 : decode cX11_canBeTried 46 = .ok (.getfield 51, 3) := by decide +kernel
theorem dX11_canBeTried_49 : decode cX11_canBeTried 49 = .ok (.iload_n 1, 1) := by decide +kernel
theorem dX11_canBeTried_50 : decode cX11_canBeTried 50 = .ok (.bipush 30, 2) := by decide +kernel
theorem dX11_canBeTried_52 : decode cX11_canBeTried 52 = .ok (.isub, 1) := by decide +kernel
theorem dX11_canBeTried_53 : decode cX11_canBeTried 53 = .ok (.invokevirtual 134, 3) := by decide +kernel
theorem dX11_canBeTried_56 : decode cX11_canBeTried 56 = .ok (.ifCond .eq 7, 3) := by decide +kernel
theorem dX11_canBeTried_59 : decode cX11_canBeTried 59 = .ok (.iconst 1, 1) := by decide +kernel
theorem dX11_canBeTried_60 : decode cX11_canBeTried 60 = .ok (.goto 4, 3) := by decide +kernel
theorem dX11_canBeTried_63 : decode cX11_canBeTried 63 = .ok (.iconst 0, 1) := by decide +kernel
theorem dX11_canBeTried_64 : decode cX11_canBeTried 64 = .ok (.ireturn, 1) := by decide +kernel
set_option maxHeartbeats 4000000 in
set_option maxRecDepth 100000 in
theorem c_X11_canBeTried (l : Launch) (E : GE) (o_t : Nat) (r_t_tape : Nat) (r_t_script : Nat) (r_t_hairReader : Nat) (r_t_ordersReader : Nat) (r_t_lawReader : Nat) (r_t_doors : Nat) (r_t_town : Nat) (r_t_kept : Nat) (r_t_trial : Nat) (r_t_walk : Nat) (r_t_reach : Nat) (r_t_lawNow : Nat) (r_t_lawSpare : Nat) (a_town : Nat → Nat) (t_isKept : Int32) (town_told : Int32) (town_round : Int32) (town_x : Int32) (x1 : Int32) (r : Int32) (h : f_X11_canBeTried town_told x1 = some r) : Cn l E yX11_canBeTried cX11_canBeTried 2 (some .boolean) 2 0 0 [.ref o_t, .int x1] (W_X11_canBeTried E o_t r_t_tape r_t_script r_t_hairReader r_t_ordersReader r_t_lawReader r_t_doors r_t_town r_t_kept r_t_trial r_t_walk r_t_reach r_t_lawNow r_t_lawSpare r_t_town a_town t_isKept town_told town_round town_x) (fun w => w = (W_X11_canBeTried E o_t r_t_tape r_t_script r_t_hairReader r_t_ordersReader r_t_lawReader r_t_doors r_t_town r_t_kept r_t_trial r_t_walk r_t_reach r_t_lawNow r_t_lawSpare r_t_town a_town t_isKept town_told town_round town_x)) (some (.int r)) := by
  refine Cn.ofI (by decide +kernel) (Nat.le_of_ble_eq_true rfl) (fun X hX hR C hret => ?_)
  subst hX
  show Gx X E 0 0 (W_X11_canBeTried E o_t r_t_tape r_t_script r_t_hairReader r_t_ordersReader r_t_lawReader r_t_doors r_t_town r_t_kept r_t_trial r_t_walk r_t_reach r_t_lawNow r_t_lawSpare r_t_town a_town t_isKept town_told town_round town_x) 0 [(0, .ref o_t), (1, .int x1)] []
  unfold f_X11_canBeTried at h
  refine g_iload_n (pc := 0) C dX11_canBeTried_0 rfl 1 rfl ?_
  refine g_if_eq (pc := 1) (tgt := 9) C dX11_canBeTried_1 (by decide) h (fun h => ?_) (fun h => ?_)
  · refine g_iconst (pc := 9) (v := 1) C dX11_canBeTried_9 (by decide) ?_
    cases h
    exact hret _ _ _ dX11_canBeTried_10 nb1 rfl
  · refine g_iload_n (pc := 4) C dX11_canBeTried_4 rfl 1 rfl ?_
    refine g_iconst (pc := 5) (v := 1) C dX11_canBeTried_5 (by decide) ?_
    refine g_icmp_ne (pc := 6) (tgt := 11) C dX11_canBeTried_6 (by decide) h (fun h => ?_) (fun h => ?_)
    · refine g_iload_n (pc := 11) C dX11_canBeTried_11 rfl 1 rfl ?_
      refine g_bipush (pc := 12) (v := 10) C dX11_canBeTried_12 (by decide) ?_
      refine g_bipush (pc := 14) (v := 19) C dX11_canBeTried_14 (by decide) ?_
      obtain ⟨u1, hu1, h⟩ := bs h
      refine g_callS (pc := 16) (st := []) (st1 := [.int u1]) (ws' := (W_X11_canBeTried E o_t r_t_tape r_t_script r_t_hairReader r_t_ordersReader r_t_lawReader r_t_doors r_t_town r_t_kept r_t_trial r_t_walk r_t_reach r_t_lawNow r_t_lawSpare r_t_town a_town t_isKept town_told town_round town_x)) C mv_X11_isWithin ms_X11_isWithin ml_X11_98 (c_X11_isWithin X.2.1 E x1 (10 : Int32) (19 : Int32) u1 hu1) dX11_canBeTried_16 (by decide) rfl (Nat.le_of_ble_eq_true rfl) [] rfl (by decide) rfl rfl rfl rfl ?_
      refine g_if_eq (pc := 19) (tgt := 34) C dX11_canBeTried_19 (by decide) h (fun h => ?_) (fun h => ?_)
      · refine g_iload_n (pc := 34) C dX11_canBeTried_34 rfl 1 rfl ?_
        refine g_bipush (pc := 35) (v := 30) C dX11_canBeTried_35 (by decide) ?_
        refine g_bipush (pc := 37) (v := 39) C dX11_canBeTried_37 (by decide) ?_
        obtain ⟨u2, hu2, h⟩ := bs h
        refine g_callS (pc := 39) (st := []) (st1 := [.int u2]) (ws' := (W_X11_canBeTried E o_t r_t_tape r_t_script r_t_hairReader r_t_ordersReader r_t_lawReader r_t_doors r_t_town r_t_kept r_t_trial r_t_walk r_t_reach r_t_lawNow r_t_lawSpare r_t_town a_town t_isKept town_told town_round town_x)) C mv_X11_isWithin ms_X11_isWithin ml_X11_98 (c_X11_isWithin X.2.1 E x1 (30 : Int32) (39 : Int32) u2 hu2) dX11_canBeTried_39 (by decide) rfl (Nat.le_of_ble_eq_true rfl) [] rfl (by decide) rfl rfl rfl rfl ?_
        refine g_if_eq (pc := 42) (tgt := 63) C dX11_canBeTried_42 (by decide) h (fun h => ?_) (fun h => ?_)
        · refine g_iconst (pc := 63) (v := 0) C dX11_canBeTried_63 (by decide) ?_
          cases h
          exact hret _ _ _ dX11_canBeTried_64 nb0 rfl
        · refine g_aload_n (pc := 45) C dX11_canBeTried_45 rfl 0 rfl ?_
          refine g_get (pc := 46) C fl_X11_51 dX11_canBeTried_46 0 rfl rfl ?_
          refine g_iload_n (pc := 49) C dX11_canBeTried_49 rfl 1 rfl ?_
          refine g_bipush (pc := 50) (v := 30) C dX11_canBeTried_50 (by decide) ?_
          refine g_isub (pc := 52) C dX11_canBeTried_52 ?_
          obtain ⟨u3, hu3, h⟩ := bs h
          refine g_callV (pc := 53) (st := []) (st1 := [.int u3]) (ws' := (W_X11_canBeTried E o_t r_t_tape r_t_script r_t_hairReader r_t_ordersReader r_t_lawReader r_t_doors r_t_town r_t_kept r_t_trial r_t_walk r_t_reach r_t_lawNow r_t_lawSpare r_t_town a_town t_isKept town_told town_round town_x)) C mv_X9_isTold mi_X9_isTold ml_X11_134 (c_X9_isTold X.2.1 E r_t_town a_town town_told town_round town_x (x1 - (30 : Int32)) u3 hu3) dX11_canBeTried_53 (by decide) rfl (Nat.le_of_ble_eq_true rfl) 1 8 rfl rfl [1] rfl (by decide) rfl rfl rfl rfl ?_
          refine g_if_eq (pc := 56) (tgt := 63) C dX11_canBeTried_56 (by decide) h (fun h => ?_) (fun h => ?_)
          · refine g_iconst (pc := 63) (v := 0) C dX11_canBeTried_63 (by decide) ?_
            cases h
            exact hret _ _ _ dX11_canBeTried_64 nb0 rfl
          · refine g_iconst (pc := 59) (v := 1) C dX11_canBeTried_59 (by decide) ?_
            refine g_goto (pc := 60) (tgt := 64) C dX11_canBeTried_60 (by decide) ?_
            cases h
            exact hret _ _ _ dX11_canBeTried_64 nb1 rfl
      · refine g_aload_n (pc := 22) C dX11_canBeTried_22 rfl 0 rfl ?_
        refine g_get (pc := 23) C fl_X11_51 dX11_canBeTried_23 0 rfl rfl ?_
        refine g_iload_n (pc := 26) C dX11_canBeTried_26 rfl 1 rfl ?_
        refine g_bipush (pc := 27) (v := 10) C dX11_canBeTried_27 (by decide) ?_
        refine g_isub (pc := 29) C dX11_canBeTried_29 ?_
        obtain ⟨u4, hu4, h⟩ := bs h
        refine g_callV (pc := 30) (st := []) (st1 := [.int u4]) (ws' := (W_X11_canBeTried E o_t r_t_tape r_t_script r_t_hairReader r_t_ordersReader r_t_lawReader r_t_doors r_t_town r_t_kept r_t_trial r_t_walk r_t_reach r_t_lawNow r_t_lawSpare r_t_town a_town t_isKept town_told town_round town_x)) C mv_X9_isTold mi_X9_isTold ml_X11_134 (c_X9_isTold X.2.1 E r_t_town a_town town_told town_round town_x (x1 - (10 : Int32)) u4 hu4) dX11_canBeTried_30 (by decide) rfl (Nat.le_of_ble_eq_true rfl) 1 8 rfl rfl [1] rfl (by decide) rfl rfl rfl rfl ?_
        obtain ⟨hgb, h⟩ := gb_is h
        cases h
        exact hret _ _ _ dX11_canBeTried_33 hgb rfl
    · refine g_iconst (pc := 9) (v := 1) C dX11_canBeTried_9 (by decide) ?_
      cases h
      exact hret _ _ _ dX11_canBeTried_10 nb1 rfl
abbrev W_X11_doorIs (E : GE) (O_t : Nat) (r_t_tape : Nat) (r_t_script : Nat) (r_t_hairReader : Nat) (r_t_ordersReader : Nat) (r_t_lawReader : Nat) (r_t_doors : Nat) (r_t_town : Nat) (r_t_kept : Nat) (r_t_trial : Nat) (r_t_walk : Nat) (r_t_reach : Nat) (r_t_lawNow : Nat) (r_t_lawSpare : Nat) (O_doors : Nat) (a_doors : Nat → Nat) (O_town : Nat) (a_town : Nat → Nat) (t_isKept : Int32) (doors_told : Int32) (doors_barred : Int32) (doors_one : (Nat → Int32)) (doors_other : (Nat → Int32)) (doors_wards : (Nat → Int32)) (doors_fits : (Nat → Int32)) (town_told : Int32) (town_round : Int32) (town_x : Int32) (town_rust : (Nat → Int32)) : va_W := [(O_t, ob_X11 r_t_tape r_t_script r_t_hairReader r_t_ordersReader r_t_lawReader r_t_doors r_t_town r_t_kept r_t_trial r_t_walk r_t_reach r_t_lawNow r_t_lawSpare t_isKept), (O_doors, ob_X0 a_doors doors_told doors_barred), (a_doors 0, .inl (E.2.1, 24, .inl doors_one)), (a_doors 1, .inl (E.2.1, 24, .inl doors_other)), (a_doors 2, .inl (E.2.1, 24, .inl doors_wards)), (a_doors 3, .inl (E.2.1, 24, .inl doors_fits)), (O_town, ob_X9 a_town town_told town_round town_x), (a_town 0, .inl (E.2.1, 24, .inl town_rust))]
def f_X11_doorIs (doors_told : Int32) (doors_barred : Int32) (doors_one : (Nat → Int32)) (doors_other : (Nat → Int32)) (doors_wards : (Nat → Int32)) (doors_fits : (Nat → Int32)) (town_rust : (Nat → Int32)) (x1 : Int32) (x2 : Int32) : Option (Int32) := (f_X0_isTold doors_told x1).bind fun u1 => if u1 = 0 then (some (-1 : Int32)) else if x2 = (0 : Int32) then (rd doors_one 24 x1 fun v3 => some v3) else if x2 = (1 : Int32) then (rd doors_other 24 x1 fun v5 => some v5) else if x2 = (2 : Int32) then (rd doors_wards 24 x1 fun v7 => some v7) else if x2 = (3 : Int32) then (some ((doors_barred >>> (x1 &&& 31)) &&& (1 : Int32))) else if x2 = (4 : Int32) then (rd town_rust 24 x1 fun v10 => some v10) else if x2 = (5 : Int32) then (rd doors_fits 24 x1 fun v12 => some v12) else some (-1 : Int32)
theorem dX11_doorIs_0 : decode cX11_doorIs 0 = .ok (.aload_n 0, 1) := by decide +kernel
theorem dX11_doorIs_1 : decode cX11_doorIs 1 = .ok (.getfield 44, 3) := by decide +kernel
theorem dX11_doorIs_4 : decode cX11_doorIs 4 = .ok (.iload_n 1, 1) := by decide +kernel
theorem dX11_doorIs_5 : decode cX11_doorIs 5 = .ok (.invokevirtual 202, 3) := by decide +kernel
theorem dX11_doorIs_8 : decode cX11_doorIs 8 = .ok (.ifCond .ne 5, 3) := by decide +kernel
theorem dX11_doorIs_11 : decode cX11_doorIs 11 = .ok (.iconst (-1), 1) := by decide +kernel
theorem dX11_doorIs_12 : decode cX11_doorIs 12 = .ok (.ireturn, 1) := by decide +kernel
theorem dX11_doorIs_13 : decode cX11_doorIs 13 = .ok (.iload_n 2, 1) := by decide +kernel
theorem dX11_doorIs_14 : decode cX11_doorIs 14 = .ok (.tableswitch 100 0 5 #[38, 48, 58, 68, 80, 90], 38) := by decide +kernel
theorem dX11_doorIs_52 : decode cX11_doorIs 52 = .ok (.aload_n 0, 1) := by decide +kernel
theorem dX11_doorIs_53 : decode cX11_doorIs 53 = .ok (.getfield 44, 3) := by decide +kernel
theorem dX11_doorIs_56 : decode cX11_doorIs 56 = .ok (.getfield 203, 3) := by decide +kernel
theorem dX11_doorIs_59 : decode cX11_doorIs 59 = .ok (.iload_n 1, 1) := by decide +kernel
theorem dX11_doorIs_60 : decode cX11_doorIs 60 = .ok (.iaload, 1) := by decide +kernel
theorem dX11_doorIs_61 : decode cX11_doorIs 61 = .ok (.ireturn, 1) := by decide +kernel
theorem dX11_doorIs_62 : decode cX11_doorIs 62 = .ok (.aload_n 0, 1) := by decide +kernel
theorem dX11_doorIs_63 : decode cX11_doorIs 63 = .ok (.getfield 44, 3) := by decide +kernel
theorem dX11_doorIs_66 : decode cX11_doorIs 66 = .ok (.getfield 206, 3) := by decide +kernel
theorem dX11_doorIs_69 : decode cX11_doorIs 69 = .ok (.iload_n 1, 1) := by decide +kernel
theorem dX11_doorIs_70 : decode cX11_doorIs 70 = .ok (.iaload, 1) := by decide +kernel
theorem dX11_doorIs_71 : decode cX11_doorIs 71 = .ok (.ireturn, 1) := by decide +kernel
theorem dX11_doorIs_72 : decode cX11_doorIs 72 = .ok (.aload_n 0, 1) := by decide +kernel
theorem dX11_doorIs_73 : decode cX11_doorIs 73 = .ok (.getfield 44, 3) := by decide +kernel
theorem dX11_doorIs_76 : decode cX11_doorIs 76 = .ok (.getfield 209, 3) := by decide +kernel
theorem dX11_doorIs_79 : decode cX11_doorIs 79 = .ok (.iload_n 1, 1) := by decide +kernel
theorem dX11_doorIs_80 : decode cX11_doorIs 80 = .ok (.iaload, 1) := by decide +kernel
theorem dX11_doorIs_81 : decode cX11_doorIs 81 = .ok (.ireturn, 1) := by decide +kernel
theorem dX11_doorIs_82 : decode cX11_doorIs 82 = .ok (.aload_n 0, 1) := by decide +kernel
theorem dX11_doorIs_83 : decode cX11_doorIs 83 = .ok (.getfield 44, 3) := by decide +kernel
theorem dX11_doorIs_86 : decode cX11_doorIs 86 = .ok (.getfield 212, 3) := by decide +kernel
theorem dX11_doorIs_89 : decode cX11_doorIs 89 = .ok (.iload_n 1, 1) := by decide +kernel
theorem dX11_doorIs_90 : decode cX11_doorIs 90 = .ok (.ishr, 1) := by decide +kernel
theorem dX11_doorIs_91 : decode cX11_doorIs 91 = .ok (.iconst 1, 1) := by decide +kernel
theorem dX11_doorIs_92 : decode cX11_doorIs 92 = .ok (.iand, 1) := by decide +kernel
theorem dX11_doorIs_93 : decode cX11_doorIs 93 = .ok (.ireturn, 1) := by decide +kernel
theorem dX11_doorIs_94 : decode cX11_doorIs 94 = .ok (.aload_n 0, 1) := by decide +kernel
theorem dX11_doorIs_95 : decode cX11_doorIs 95 = .ok (.getfield 51, 3) := by decide +kernel
theorem dX11_doorIs_98 : decode cX11_doorIs 98 = .ok (.getfield 215, 3) := by decide +kernel
theorem dX11_doorIs_101 : decode cX11_doorIs 101 = .ok (.iload_n 1, 1) := by decide +kernel
theorem dX11_doorIs_102 : decode cX11_doorIs 102 = .ok (.iaload, 1) := by decide +kernel
theorem dX11_doorIs_103 : decode cX11_doorIs 103 = .ok (.ireturn, 1) := by decide +kernel
theorem dX11_doorIs_104 : decode cX11_doorIs 104 = .ok (.aload_n 0, 1) := by decide +kernel
theorem dX11_doorIs_105 : decode cX11_doorIs 105 = .ok (.getfield 44, 3) := by decide +kernel
theorem dX11_doorIs_108 : decode cX11_doorIs 108 = .ok (.getfield 218, 3) := by decide +kernel
theorem dX11_doorIs_111 : decode cX11_doorIs 111 = .ok (.iload_n 1, 1) := by decide +kernel
theorem dX11_doorIs_112 : decode cX11_doorIs 112 = .ok (.iaload, 1) := by decide +kernel
theorem dX11_doorIs_113 : decode cX11_doorIs 113 = .ok (.ireturn, 1) := by decide +kernel
theorem dX11_doorIs_114 : decode cX11_doorIs 114 = .ok (.iconst (-1), 1) := by decide +kernel
theorem dX11_doorIs_115 : decode cX11_doorIs 115 = .ok (.ireturn, 1) := by decide +kernel
set_option maxHeartbeats 4000000 in
set_option maxRecDepth 100000 in
theorem c_X11_doorIs (l : Launch) (E : GE) (o_t : Nat) (r_t_tape : Nat) (r_t_script : Nat) (r_t_hairReader : Nat) (r_t_ordersReader : Nat) (r_t_lawReader : Nat) (r_t_doors : Nat) (r_t_town : Nat) (r_t_kept : Nat) (r_t_trial : Nat) (r_t_walk : Nat) (r_t_reach : Nat) (r_t_lawNow : Nat) (r_t_lawSpare : Nat) (a_doors : Nat → Nat) (a_town : Nat → Nat) (t_isKept : Int32) (doors_told : Int32) (doors_barred : Int32) (doors_one : (Nat → Int32)) (doors_other : (Nat → Int32)) (doors_wards : (Nat → Int32)) (doors_fits : (Nat → Int32)) (town_told : Int32) (town_round : Int32) (town_x : Int32) (town_rust : (Nat → Int32)) (x1 : Int32) (x2 : Int32) (r : Int32) (h : f_X11_doorIs doors_told doors_barred doors_one doors_other doors_wards doors_fits town_rust x1 x2 = some r) : Cn l E yX11_doorIs cX11_doorIs 3 (some .int) 2 0 0 [.ref o_t, .int x1, .int x2] (W_X11_doorIs E o_t r_t_tape r_t_script r_t_hairReader r_t_ordersReader r_t_lawReader r_t_doors r_t_town r_t_kept r_t_trial r_t_walk r_t_reach r_t_lawNow r_t_lawSpare r_t_doors a_doors r_t_town a_town t_isKept doors_told doors_barred doors_one doors_other doors_wards doors_fits town_told town_round town_x town_rust) (fun w => w = (W_X11_doorIs E o_t r_t_tape r_t_script r_t_hairReader r_t_ordersReader r_t_lawReader r_t_doors r_t_town r_t_kept r_t_trial r_t_walk r_t_reach r_t_lawNow r_t_lawSpare r_t_doors a_doors r_t_town a_town t_isKept doors_told doors_barred doors_one doors_other doors_wards doors_fits town_told town_round town_x town_rust)) (some (.int r)) := by
  refine Cn.ofI (by decide +kernel) (Nat.le_of_ble_eq_true rfl) (fun X hX hR C hret => ?_)
  subst hX
  show Gx X E 0 0 (W_X11_doorIs E o_t r_t_tape r_t_script r_t_hairReader r_t_ordersReader r_t_lawReader r_t_doors r_t_town r_t_kept r_t_trial r_t_walk r_t_reach r_t_lawNow r_t_lawSpare r_t_doors a_doors r_t_town a_town t_isKept doors_told doors_barred doors_one doors_other doors_wards doors_fits town_told town_round town_x town_rust) 0 [(0, .ref o_t), (1, .int x1), (2, .int x2)] []
  unfold f_X11_doorIs at h
  refine g_aload_n (pc := 0) C dX11_doorIs_0 rfl 0 rfl ?_
  refine g_get (pc := 1) C fl_X11_44 dX11_doorIs_1 0 rfl rfl ?_
  refine g_iload_n (pc := 4) C dX11_doorIs_4 rfl 1 rfl ?_
  obtain ⟨u1, hu1, h⟩ := bs h
  refine g_callV (pc := 5) (st := []) (st1 := [.int u1]) (ws' := (W_X11_doorIs E o_t r_t_tape r_t_script r_t_hairReader r_t_ordersReader r_t_lawReader r_t_doors r_t_town r_t_kept r_t_trial r_t_walk r_t_reach r_t_lawNow r_t_lawSpare r_t_doors a_doors r_t_town a_town t_isKept doors_told doors_barred doors_one doors_other doors_wards doors_fits town_told town_round town_x town_rust)) C mv_X0_isTold mi_X0_isTold ml_X11_202 (c_X0_isTold X.2.1 E r_t_doors a_doors doors_told doors_barred x1 u1 hu1) dX11_doorIs_5 (by decide) rfl (Nat.le_of_ble_eq_true rfl) 1 0 rfl rfl [1] rfl (by decide) rfl rfl rfl rfl ?_
  refine g_if_ne (pc := 8) (tgt := 13) C dX11_doorIs_8 (by decide) h (fun h => ?_) (fun h => ?_)
  · refine g_iload_n (pc := 13) C dX11_doorIs_13 rfl 2 rfl ?_
    rcases ite_cs h with ⟨c2, h⟩ | ⟨c2, h⟩
    · refine g_tabHit (pc := 14) (tgt := 52) C 0 c2 dX11_doorIs_14 (by decide) (by decide) rfl (by decide) ?_
      refine g_aload_n (pc := 52) C dX11_doorIs_52 rfl 0 rfl ?_
      refine g_get (pc := 53) C fl_X11_44 dX11_doorIs_53 0 rfl rfl ?_
      refine g_get (pc := 56) C fl_X11_203 dX11_doorIs_56 1 rfl rfl ?_
      refine g_iload_n (pc := 59) C dX11_doorIs_59 rfl 1 rfl ?_
      refine g_iald (pc := 60) C dX11_doorIs_60 2 rfl h (fun v3 h => ?_)
      cases h
      exact hret _ _ _ dX11_doorIs_61 rfl rfl
    rcases ite_cs h with ⟨c4, h⟩ | ⟨c4, h⟩
    · refine g_tabHit (pc := 14) (tgt := 62) C 1 c4 dX11_doorIs_14 (by decide) (by decide) rfl (by decide) ?_
      refine g_aload_n (pc := 62) C dX11_doorIs_62 rfl 0 rfl ?_
      refine g_get (pc := 63) C fl_X11_44 dX11_doorIs_63 0 rfl rfl ?_
      refine g_get (pc := 66) C fl_X11_206 dX11_doorIs_66 1 rfl rfl ?_
      refine g_iload_n (pc := 69) C dX11_doorIs_69 rfl 1 rfl ?_
      refine g_iald (pc := 70) C dX11_doorIs_70 3 rfl h (fun v5 h => ?_)
      cases h
      exact hret _ _ _ dX11_doorIs_71 rfl rfl
    rcases ite_cs h with ⟨c6, h⟩ | ⟨c6, h⟩
    · refine g_tabHit (pc := 14) (tgt := 72) C 2 c6 dX11_doorIs_14 (by decide) (by decide) rfl (by decide) ?_
      refine g_aload_n (pc := 72) C dX11_doorIs_72 rfl 0 rfl ?_
      refine g_get (pc := 73) C fl_X11_44 dX11_doorIs_73 0 rfl rfl ?_
      refine g_get (pc := 76) C fl_X11_209 dX11_doorIs_76 1 rfl rfl ?_
      refine g_iload_n (pc := 79) C dX11_doorIs_79 rfl 1 rfl ?_
      refine g_iald (pc := 80) C dX11_doorIs_80 4 rfl h (fun v7 h => ?_)
      cases h
      exact hret _ _ _ dX11_doorIs_81 rfl rfl
    rcases ite_cs h with ⟨c8, h⟩ | ⟨c8, h⟩
    · refine g_tabHit (pc := 14) (tgt := 82) C 3 c8 dX11_doorIs_14 (by decide) (by decide) rfl (by decide) ?_
      refine g_aload_n (pc := 82) C dX11_doorIs_82 rfl 0 rfl ?_
      refine g_get (pc := 83) C fl_X11_44 dX11_doorIs_83 0 rfl rfl ?_
      refine g_get (pc := 86) C fl_X11_212 dX11_doorIs_86 1 rfl rfl ?_
      refine g_iload_n (pc := 89) C dX11_doorIs_89 rfl 1 rfl ?_
      refine g_ishr (pc := 90) C dX11_doorIs_90 ?_
      refine g_iconst (pc := 91) (v := 1) C dX11_doorIs_91 (by decide) ?_
      refine g_iand (pc := 92) C dX11_doorIs_92 ?_
      cases h
      exact hret _ _ _ dX11_doorIs_93 rfl rfl
    rcases ite_cs h with ⟨c9, h⟩ | ⟨c9, h⟩
    · refine g_tabHit (pc := 14) (tgt := 94) C 4 c9 dX11_doorIs_14 (by decide) (by decide) rfl (by decide) ?_
      refine g_aload_n (pc := 94) C dX11_doorIs_94 rfl 0 rfl ?_
      refine g_get (pc := 95) C fl_X11_51 dX11_doorIs_95 0 rfl rfl ?_
      refine g_get (pc := 98) C fl_X11_215 dX11_doorIs_98 6 rfl rfl ?_
      refine g_iload_n (pc := 101) C dX11_doorIs_101 rfl 1 rfl ?_
      refine g_iald (pc := 102) C dX11_doorIs_102 7 rfl h (fun v10 h => ?_)
      cases h
      exact hret _ _ _ dX11_doorIs_103 rfl rfl
    rcases ite_cs h with ⟨c11, h⟩ | ⟨c11, h⟩
    · refine g_tabHit (pc := 14) (tgt := 104) C 5 c11 dX11_doorIs_14 (by decide) (by decide) rfl (by decide) ?_
      refine g_aload_n (pc := 104) C dX11_doorIs_104 rfl 0 rfl ?_
      refine g_get (pc := 105) C fl_X11_44 dX11_doorIs_105 0 rfl rfl ?_
      refine g_get (pc := 108) C fl_X11_218 dX11_doorIs_108 1 rfl rfl ?_
      refine g_iload_n (pc := 111) C dX11_doorIs_111 rfl 1 rfl ?_
      refine g_iald (pc := 112) C dX11_doorIs_112 5 rfl h (fun v12 h => ?_)
      cases h
      exact hret _ _ _ dX11_doorIs_113 rfl rfl
    have nc2 := lv_neT c2 (a := 0) rfl
    have nc4 := lv_neT c4 (a := 1) rfl
    have nc6 := lv_neT c6 (a := 2) rfl
    have nc8 := lv_neT c8 (a := 3) rfl
    have nc9 := lv_neT c9 (a := 4) rfl
    have nc11 := lv_neT c11 (a := 5) rfl
    refine g_tabMiss (pc := 14) (tgt := 114) C dX11_doorIs_14 (by omega) (by decide) ?_
    refine g_iconst (pc := 114) (v := -1) C dX11_doorIs_114 (by decide) ?_
    cases h
    exact hret _ _ _ dX11_doorIs_115 rfl rfl
  · refine g_iconst (pc := 11) (v := -1) C dX11_doorIs_11 (by decide) ?_
    cases h
    exact hret _ _ _ dX11_doorIs_12 rfl rfl
abbrev W_X11_feed (E : GE) (O_t : Nat) (r_t_tape : Nat) (r_t_script : Nat) (r_t_hairReader : Nat) (r_t_ordersReader : Nat) (r_t_lawReader : Nat) (r_t_doors : Nat) (r_t_town : Nat) (r_t_kept : Nat) (r_t_trial : Nat) (r_t_walk : Nat) (r_t_reach : Nat) (r_t_lawNow : Nat) (r_t_lawSpare : Nat) (O_tape : Nat) (a_tape : Nat → Nat) (t_isKept : Int32) (tape_size : Int32) (tape_bytes : (Nat → Int32)) : va_W := [(O_t, ob_X11 r_t_tape r_t_script r_t_hairReader r_t_ordersReader r_t_lawReader r_t_doors r_t_town r_t_kept r_t_trial r_t_walk r_t_reach r_t_lawNow r_t_lawSpare t_isKept), (O_tape, ob_X8 a_tape tape_size), (a_tape 0, .inl (E.2.1, 260, .inl tape_bytes))]
def f_X11_feed (tape_size : Int32) (tape_bytes : (Nat → Int32)) (x1 : Int32) (x2 : Int32) (x3 : Int32) (x4 : Int32) (x5 : Int32) : Option (Int32 × Int32 × (Nat → Int32)) := if tape_size ≤ (240 : Int32) then ((f_X8_add tape_size tape_bytes x1).bind fun u1 => (f_X8_add u1.1 u1.2 x2).bind fun u2 => (f_X8_add u2.1 u2.2 x3).bind fun u3 => (f_X8_add u3.1 u3.2 x4).bind fun u4 => (f_X8_add u4.1 u4.2 x5).bind fun u5 => some (u5.1, u5.1, u5.2)) else some ((-1 : Int32), tape_size, tape_bytes)
theorem dX11_feed_0 : decode cX11_feed 0 = .ok (.aload_n 0, 1) := by decide +kernel
theorem dX11_feed_1 : decode cX11_feed 1 = .ok (.getfield 10, 3) := by decide +kernel
theorem dX11_feed_4 : decode cX11_feed 4 = .ok (.getfield 106, 3) := by decide +kernel
theorem dX11_feed_7 : decode cX11_feed 7 = .ok (.sipush 240, 3) := by decide +kernel
theorem dX11_feed_10 : decode cX11_feed 10 = .ok (.if_icmp .le 5, 3) := by decide +kernel
theorem dX11_feed_13 : decode cX11_feed 13 = .ok (.iconst (-1), 1) := by decide +kernel
theorem dX11_feed_14 : decode cX11_feed 14 = .ok (.ireturn, 1) := by decide +kernel
theorem dX11_feed_15 : decode cX11_feed 15 = .ok (.aload_n 0, 1) := by decide +kernel
theorem dX11_feed_16 : decode cX11_feed 16 = .ok (.getfield 10, 3) := by decide +kernel
theorem dX11_feed_19 : decode cX11_feed 19 = .ok (.iload_n 1, 1) := by decide +kernel
theorem dX11_feed_20 : decode cX11_feed 20 = .ok (.invokevirtual 110, 3) := by decide +kernel
theorem dX11_feed_23 : decode cX11_feed 23 = .ok (.aload_n 0, 1) := by decide +kernel
theorem dX11_feed_24 : decode cX11_feed 24 = .ok (.getfield 10, 3) := by decide +kernel
theorem dX11_feed_27 : decode cX11_feed 27 = .ok (.iload_n 2, 1) := by decide +kernel
theorem dX11_feed_28 : decode cX11_feed 28 = .ok (.invokevirtual 110, 3) := by decide +kernel
theorem dX11_feed_31 : decode cX11_feed 31 = .ok (.aload_n 0, 1) := by decide +kernel
theorem dX11_feed_32 : decode cX11_feed 32 = .ok (.getfield 10, 3) := by decide +kernel
theorem dX11_feed_35 : decode cX11_feed 35 = .ok (.iload_n 3, 1) := by decide +kernel
theorem dX11_feed_36 : decode cX11_feed 36 = .ok (.invokevirtual 110, 3) := by decide +kernel
theorem dX11_feed_39 : decode cX11_feed 39 = .ok (.aload_n 0, 1) := by decide +kernel
theorem dX11_feed_40 : decode cX11_feed 40 = .ok (.getfield 10, 3) := by decide +kernel
theorem dX11_feed_43 : decode cX11_feed 43 = .ok (.iload 4, 2) := by decide +kernel
theorem dX11_feed_45 : decode cX11_feed 45 = .ok (.invokevirtual 110, 3) := by decide +kernel
theorem dX11_feed_48 : decode cX11_feed 48 = .ok (.aload_n 0, 1) := by decide +kernel
theorem dX11_feed_49 : decode cX11_feed 49 = .ok (.getfield 10, 3) := by decide +kernel
theorem dX11_feed_52 : decode cX11_feed 52 = .ok (.iload 5, 2) := by decide +kernel
theorem dX11_feed_54 : decode cX11_feed 54 = .ok (.invokevirtual 110, 3) := by decide +kernel
theorem dX11_feed_57 : decode cX11_feed 57 = .ok (.aload_n 0, 1) := by decide +kernel
theorem dX11_feed_58 : decode cX11_feed 58 = .ok (.getfield 10, 3) := by decide +kernel
theorem dX11_feed_61 : decode cX11_feed 61 = .ok (.getfield 106, 3) := by decide +kernel
theorem dX11_feed_64 : decode cX11_feed 64 = .ok (.ireturn, 1) := by decide +kernel
set_option maxHeartbeats 4000000 in
set_option maxRecDepth 100000 in
theorem c_X11_feed (l : Launch) (E : GE) (o_t : Nat) (r_t_tape : Nat) (r_t_script : Nat) (r_t_hairReader : Nat) (r_t_ordersReader : Nat) (r_t_lawReader : Nat) (r_t_doors : Nat) (r_t_town : Nat) (r_t_kept : Nat) (r_t_trial : Nat) (r_t_walk : Nat) (r_t_reach : Nat) (r_t_lawNow : Nat) (r_t_lawSpare : Nat) (a_tape : Nat → Nat) (t_isKept : Int32) (tape_size : Int32) (tape_bytes : (Nat → Int32)) (x1 : Int32) (x2 : Int32) (x3 : Int32) (x4 : Int32) (x5 : Int32) (r : Int32 × Int32 × (Nat → Int32)) (h : f_X11_feed tape_size tape_bytes x1 x2 x3 x4 x5 = some r) : Cn l E yX11_feed cX11_feed 6 (some .int) 2 0 0 [.ref o_t, .int x1, .int x2, .int x3, .int x4, .int x5] (W_X11_feed E o_t r_t_tape r_t_script r_t_hairReader r_t_ordersReader r_t_lawReader r_t_doors r_t_town r_t_kept r_t_trial r_t_walk r_t_reach r_t_lawNow r_t_lawSpare r_t_tape a_tape t_isKept tape_size tape_bytes) (fun w => w = (W_X11_feed E o_t r_t_tape r_t_script r_t_hairReader r_t_ordersReader r_t_lawReader r_t_doors r_t_town r_t_kept r_t_trial r_t_walk r_t_reach r_t_lawNow r_t_lawSpare r_t_tape a_tape t_isKept r.2.1 r.2.2)) (some (.int r.1)) := by
  refine Cn.ofI (by decide +kernel) (Nat.le_of_ble_eq_true rfl) (fun X hX hR C hret => ?_)
  subst hX
  show Gx X E 0 0 (W_X11_feed E o_t r_t_tape r_t_script r_t_hairReader r_t_ordersReader r_t_lawReader r_t_doors r_t_town r_t_kept r_t_trial r_t_walk r_t_reach r_t_lawNow r_t_lawSpare r_t_tape a_tape t_isKept tape_size tape_bytes) 0 [(0, .ref o_t), (1, .int x1), (2, .int x2), (3, .int x3), (4, .int x4), (5, .int x5)] []
  unfold f_X11_feed at h
  refine g_aload_n (pc := 0) C dX11_feed_0 rfl 0 rfl ?_
  refine g_get (pc := 1) C fl_X11_10 dX11_feed_1 0 rfl rfl ?_
  refine g_get (pc := 4) C fl_X11_106 dX11_feed_4 1 rfl rfl ?_
  refine g_sipush (pc := 7) (v := 240) C dX11_feed_7 (by decide) ?_
  refine g_icmp_le (pc := 10) (tgt := 15) C dX11_feed_10 (by decide) h (fun h => ?_) (fun h => ?_)
  · refine g_aload_n (pc := 15) C dX11_feed_15 rfl 0 rfl ?_
    refine g_get (pc := 16) C fl_X11_10 dX11_feed_16 0 rfl rfl ?_
    refine g_iload_n (pc := 19) C dX11_feed_19 rfl 1 rfl ?_
    obtain ⟨u1, hu1, h⟩ := bs h
    refine g_callV (pc := 20) (st := []) (st1 := []) (ws' := (W_X11_feed E o_t r_t_tape r_t_script r_t_hairReader r_t_ordersReader r_t_lawReader r_t_doors r_t_town r_t_kept r_t_trial r_t_walk r_t_reach r_t_lawNow r_t_lawSpare r_t_tape a_tape t_isKept u1.1 u1.2)) C mv_X8_add mi_X8_add ml_X11_110 (c_X8_add X.2.1 E r_t_tape a_tape tape_size tape_bytes x1 u1 hu1) dX11_feed_20 (by decide) rfl (Nat.le_of_ble_eq_true rfl) 1 7 rfl rfl [1, 2] rfl (by decide) rfl rfl rfl rfl ?_
    refine g_aload_n (pc := 23) C dX11_feed_23 rfl 0 rfl ?_
    refine g_get (pc := 24) C fl_X11_10 dX11_feed_24 0 rfl rfl ?_
    refine g_iload_n (pc := 27) C dX11_feed_27 rfl 2 rfl ?_
    obtain ⟨u2, hu2, h⟩ := bs h
    refine g_callV (pc := 28) (st := []) (st1 := []) (ws' := (W_X11_feed E o_t r_t_tape r_t_script r_t_hairReader r_t_ordersReader r_t_lawReader r_t_doors r_t_town r_t_kept r_t_trial r_t_walk r_t_reach r_t_lawNow r_t_lawSpare r_t_tape a_tape t_isKept u2.1 u2.2)) C mv_X8_add mi_X8_add ml_X11_110 (c_X8_add X.2.1 E r_t_tape a_tape u1.1 u1.2 x2 u2 hu2) dX11_feed_28 (by decide) rfl (Nat.le_of_ble_eq_true rfl) 1 7 rfl rfl [1, 2] rfl (by decide) rfl rfl rfl rfl ?_
    refine g_aload_n (pc := 31) C dX11_feed_31 rfl 0 rfl ?_
    refine g_get (pc := 32) C fl_X11_10 dX11_feed_32 0 rfl rfl ?_
    refine g_iload_n (pc := 35) C dX11_feed_35 rfl 3 rfl ?_
    obtain ⟨u3, hu3, h⟩ := bs h
    refine g_callV (pc := 36) (st := []) (st1 := []) (ws' := (W_X11_feed E o_t r_t_tape r_t_script r_t_hairReader r_t_ordersReader r_t_lawReader r_t_doors r_t_town r_t_kept r_t_trial r_t_walk r_t_reach r_t_lawNow r_t_lawSpare r_t_tape a_tape t_isKept u3.1 u3.2)) C mv_X8_add mi_X8_add ml_X11_110 (c_X8_add X.2.1 E r_t_tape a_tape u2.1 u2.2 x3 u3 hu3) dX11_feed_36 (by decide) rfl (Nat.le_of_ble_eq_true rfl) 1 7 rfl rfl [1, 2] rfl (by decide) rfl rfl rfl rfl ?_
    refine g_aload_n (pc := 39) C dX11_feed_39 rfl 0 rfl ?_
    refine g_get (pc := 40) C fl_X11_10 dX11_feed_40 0 rfl rfl ?_
    refine g_iload (pc := 43) C dX11_feed_43 4 rfl ?_
    obtain ⟨u4, hu4, h⟩ := bs h
    refine g_callV (pc := 45) (st := []) (st1 := []) (ws' := (W_X11_feed E o_t r_t_tape r_t_script r_t_hairReader r_t_ordersReader r_t_lawReader r_t_doors r_t_town r_t_kept r_t_trial r_t_walk r_t_reach r_t_lawNow r_t_lawSpare r_t_tape a_tape t_isKept u4.1 u4.2)) C mv_X8_add mi_X8_add ml_X11_110 (c_X8_add X.2.1 E r_t_tape a_tape u3.1 u3.2 x4 u4 hu4) dX11_feed_45 (by decide) rfl (Nat.le_of_ble_eq_true rfl) 1 7 rfl rfl [1, 2] rfl (by decide) rfl rfl rfl rfl ?_
    refine g_aload_n (pc := 48) C dX11_feed_48 rfl 0 rfl ?_
    refine g_get (pc := 49) C fl_X11_10 dX11_feed_49 0 rfl rfl ?_
    refine g_iload (pc := 52) C dX11_feed_52 5 rfl ?_
    obtain ⟨u5, hu5, h⟩ := bs h
    refine g_callV (pc := 54) (st := []) (st1 := []) (ws' := (W_X11_feed E o_t r_t_tape r_t_script r_t_hairReader r_t_ordersReader r_t_lawReader r_t_doors r_t_town r_t_kept r_t_trial r_t_walk r_t_reach r_t_lawNow r_t_lawSpare r_t_tape a_tape t_isKept u5.1 u5.2)) C mv_X8_add mi_X8_add ml_X11_110 (c_X8_add X.2.1 E r_t_tape a_tape u4.1 u4.2 x5 u5 hu5) dX11_feed_54 (by decide) rfl (Nat.le_of_ble_eq_true rfl) 1 7 rfl rfl [1, 2] rfl (by decide) rfl rfl rfl rfl ?_
    refine g_aload_n (pc := 57) C dX11_feed_57 rfl 0 rfl ?_
    refine g_get (pc := 58) C fl_X11_10 dX11_feed_58 0 rfl rfl ?_
    refine g_get (pc := 61) C fl_X11_106 dX11_feed_61 1 rfl rfl ?_
    cases h
    exact hret _ _ _ dX11_feed_64 rfl rfl
  · refine g_iconst (pc := 13) (v := -1) C dX11_feed_13 (by decide) ?_
    cases h
    exact hret _ _ _ dX11_feed_14 rfl rfl
abbrev W_X11_keep (E : GE) (O_t : Nat) (r_t_tape : Nat) (r_t_script : Nat) (r_t_hairReader : Nat) (r_t_ordersReader : Nat) (r_t_lawReader : Nat) (r_t_doors : Nat) (r_t_town : Nat) (r_t_kept : Nat) (r_t_trial : Nat) (r_t_walk : Nat) (r_t_reach : Nat) (r_t_lawNow : Nat) (r_t_lawSpare : Nat) (O_town : Nat) (a_town : Nat → Nat) (O_kept : Nat) (a_kept : Nat → Nat) (t_isKept : Int32) (town_told : Int32) (town_round : Int32) (town_x : Int32) (town_rust : (Nat → Int32)) (town_rooms : (Nat → Int32)) (town_hair : (Nat → Int32)) (town_pins : (Nat → Int32)) (kept_told : Int32) (kept_round : Int32) (kept_x : Int32) (kept_rust : (Nat → Int32)) (kept_rooms : (Nat → Int32)) (kept_hair : (Nat → Int32)) (kept_pins : (Nat → Int32)) : va_W := [(O_t, ob_X11 r_t_tape r_t_script r_t_hairReader r_t_ordersReader r_t_lawReader r_t_doors r_t_town r_t_kept r_t_trial r_t_walk r_t_reach r_t_lawNow r_t_lawSpare t_isKept), (O_town, ob_X9 a_town town_told town_round town_x), (a_town 0, .inl (E.2.1, 24, .inl town_rust)), (a_town 1, .inl (E.2.1, 10, .inl town_rooms)), (a_town 2, .inl (E.2.1, 60, .inl town_hair)), (a_town 3, .inl (E.2.1, 60, .inl town_pins)), (O_kept, ob_X9 a_kept kept_told kept_round kept_x), (a_kept 0, .inl (E.2.1, 24, .inl kept_rust)), (a_kept 1, .inl (E.2.1, 10, .inl kept_rooms)), (a_kept 2, .inl (E.2.1, 60, .inl kept_hair)), (a_kept 3, .inl (E.2.1, 60, .inl kept_pins))]
def f_X11_keep (t_isKept : Int32) (town_told : Int32) (town_round : Int32) (town_x : Int32) (town_rust : (Nat → Int32)) (town_rooms : (Nat → Int32)) (town_hair : (Nat → Int32)) (town_pins : (Nat → Int32)) (kept_told : Int32) (kept_round : Int32) (kept_x : Int32) (kept_rust : (Nat → Int32)) (kept_rooms : (Nat → Int32)) (kept_hair : (Nat → Int32)) (kept_pins : (Nat → Int32)) : Option (Int32 × Int32 × Int32 × Int32 × Int32 × (Nat → Int32) × (Nat → Int32) × (Nat → Int32) × (Nat → Int32)) := (f_X9_copy kept_told kept_round kept_x kept_rust kept_rooms kept_hair kept_pins town_told town_round town_x town_rust town_rooms town_hair town_pins).bind fun u1 => some (town_round, (1 : Int32), u1.1, u1.2.1, u1.2.2.1, u1.2.2.2.1, u1.2.2.2.2.1, u1.2.2.2.2.2.1, u1.2.2.2.2.2.2)
theorem dX11_keep_0 : decode cX11_keep 0 = .ok (.aload_n 0, 1) := by decide +kernel
theorem dX11_keep_1 : decode cX11_keep 1 = .ok (.getfield 55, 3) := by decide +kernel
theorem dX11_keep_4 : decode cX11_keep 4 = .ok (.aload_n 0, 1) := by decide +kernel
theorem dX11_keep_5 : decode cX11_keep 5 = .ok (.getfield 51, 3) := by decide +kernel
theorem dX11_keep_8 : decode cX11_keep 8 = .ok (.invokevirtual 188, 3) := by decide +kernel
theorem dX11_keep_11 : decode cX11_keep 11 = .ok (.aload_n 0, 1) := by decide +kernel
theorem dX11_keep_12 : decode cX11_keep 12 = .ok (.iconst 1, 1) := by decide +kernel
theorem dX11_keep_13 : decode cX11_keep 13 = .ok (.putfield 94, 3) := by decide +kernel
theorem dX11_keep_16 : decode cX11_keep 16 = .ok (.aload_n 0, 1) := by decide +kernel
theorem dX11_keep_17 : decode cX11_keep 17 = .ok (.getfield 51, 3) := by decide +kernel
theorem dX11_keep_20 : decode cX11_keep 20 = .ok (.getfield 313, 3) := by decide +kernel
theorem dX11_keep_23 : decode cX11_keep 23 = .ok (.ireturn, 1) := by decide +kernel
set_option maxHeartbeats 4000000 in
set_option maxRecDepth 100000 in
theorem c_X11_keep (l : Launch) (E : GE) (o_t : Nat) (r_t_tape : Nat) (r_t_script : Nat) (r_t_hairReader : Nat) (r_t_ordersReader : Nat) (r_t_lawReader : Nat) (r_t_doors : Nat) (r_t_town : Nat) (r_t_kept : Nat) (r_t_trial : Nat) (r_t_walk : Nat) (r_t_reach : Nat) (r_t_lawNow : Nat) (r_t_lawSpare : Nat) (a_town : Nat → Nat) (a_kept : Nat → Nat) (t_isKept : Int32) (town_told : Int32) (town_round : Int32) (town_x : Int32) (town_rust : (Nat → Int32)) (town_rooms : (Nat → Int32)) (town_hair : (Nat → Int32)) (town_pins : (Nat → Int32)) (kept_told : Int32) (kept_round : Int32) (kept_x : Int32) (kept_rust : (Nat → Int32)) (kept_rooms : (Nat → Int32)) (kept_hair : (Nat → Int32)) (kept_pins : (Nat → Int32)) (r : Int32 × Int32 × Int32 × Int32 × Int32 × (Nat → Int32) × (Nat → Int32) × (Nat → Int32) × (Nat → Int32)) (h : f_X11_keep t_isKept town_told town_round town_x town_rust town_rooms town_hair town_pins kept_told kept_round kept_x kept_rust kept_rooms kept_hair kept_pins = some r) : Cn l E yX11_keep cX11_keep 1 (some .int) 2 0 0 [.ref o_t] (W_X11_keep E o_t r_t_tape r_t_script r_t_hairReader r_t_ordersReader r_t_lawReader r_t_doors r_t_town r_t_kept r_t_trial r_t_walk r_t_reach r_t_lawNow r_t_lawSpare r_t_town a_town r_t_kept a_kept t_isKept town_told town_round town_x town_rust town_rooms town_hair town_pins kept_told kept_round kept_x kept_rust kept_rooms kept_hair kept_pins) (fun w => w = (W_X11_keep E o_t r_t_tape r_t_script r_t_hairReader r_t_ordersReader r_t_lawReader r_t_doors r_t_town r_t_kept r_t_trial r_t_walk r_t_reach r_t_lawNow r_t_lawSpare r_t_town a_town r_t_kept a_kept r.2.1 town_told town_round town_x town_rust town_rooms town_hair town_pins r.2.2.1 r.2.2.2.1 r.2.2.2.2.1 r.2.2.2.2.2.1 r.2.2.2.2.2.2.1 r.2.2.2.2.2.2.2.1 r.2.2.2.2.2.2.2.2)) (some (.int r.1)) := by
  refine Cn.ofI (by decide +kernel) (Nat.le_of_ble_eq_true rfl) (fun X hX hR C hret => ?_)
  subst hX
  show Gx X E 0 0 (W_X11_keep E o_t r_t_tape r_t_script r_t_hairReader r_t_ordersReader r_t_lawReader r_t_doors r_t_town r_t_kept r_t_trial r_t_walk r_t_reach r_t_lawNow r_t_lawSpare r_t_town a_town r_t_kept a_kept t_isKept town_told town_round town_x town_rust town_rooms town_hair town_pins kept_told kept_round kept_x kept_rust kept_rooms kept_hair kept_pins) 0 [(0, .ref o_t)] []
  unfold f_X11_keep at h
  refine g_aload_n (pc := 0) C dX11_keep_0 rfl 0 rfl ?_
  refine g_get (pc := 1) C fl_X11_55 dX11_keep_1 0 rfl rfl ?_
  refine g_aload_n (pc := 4) C dX11_keep_4 rfl 0 rfl ?_
  refine g_get (pc := 5) C fl_X11_51 dX11_keep_5 0 rfl rfl ?_
  obtain ⟨u1, hu1, h⟩ := bs h
  refine g_callV (pc := 8) (st := []) (st1 := []) (ws' := (W_X11_keep E o_t r_t_tape r_t_script r_t_hairReader r_t_ordersReader r_t_lawReader r_t_doors r_t_town r_t_kept r_t_trial r_t_walk r_t_reach r_t_lawNow r_t_lawSpare r_t_town a_town r_t_kept a_kept t_isKept town_told town_round town_x town_rust town_rooms town_hair town_pins u1.1 u1.2.1 u1.2.2.1 u1.2.2.2.1 u1.2.2.2.2.1 u1.2.2.2.2.2.1 u1.2.2.2.2.2.2)) C mv_X9_copy mi_X9_copy ml_X11_188 (c_X9_copy X.2.1 E r_t_kept a_kept r_t_town a_town kept_told kept_round kept_x kept_rust kept_rooms kept_hair kept_pins town_told town_round town_x town_rust town_rooms town_hair town_pins u1 hu1) dX11_keep_8 (by decide) rfl (Nat.le_of_ble_eq_true rfl) 6 8 rfl rfl [6, 7, 8, 9, 10, 1, 2, 3, 4, 5] rfl (by decide) rfl rfl rfl rfl ?_
  refine g_aload_n (pc := 11) C dX11_keep_11 rfl 0 rfl ?_
  refine g_iconst (pc := 12) (v := 1) C dX11_keep_12 (by decide) ?_
  refine g_put (pc := 13) (ws' := (W_X11_keep E o_t r_t_tape r_t_script r_t_hairReader r_t_ordersReader r_t_lawReader r_t_doors r_t_town r_t_kept r_t_trial r_t_walk r_t_reach r_t_lawNow r_t_lawSpare r_t_town a_town r_t_kept a_kept (1 : Int32) town_told town_round town_x town_rust town_rooms town_hair town_pins u1.1 u1.2.1 u1.2.2.1 u1.2.2.2.1 u1.2.2.2.2.1 u1.2.2.2.2.2.1 u1.2.2.2.2.2.2)) C .boolean fl_X11_94 dX11_keep_13 0 rfl (by decide +kernel) (by decide) rfl (Nat.le_of_ble_eq_true rfl) rfl ?_
  refine g_aload_n (pc := 16) C dX11_keep_16 rfl 0 rfl ?_
  refine g_get (pc := 17) C fl_X11_51 dX11_keep_17 0 rfl rfl ?_
  refine g_get (pc := 20) C fl_X11_313 dX11_keep_20 1 rfl rfl ?_
  cases h
  exact hret _ _ _ dX11_keep_23 rfl rfl
abbrev W_X11_kindIs (E : GE) (O_t : Nat) (r_t_tape : Nat) (r_t_script : Nat) (r_t_hairReader : Nat) (r_t_ordersReader : Nat) (r_t_lawReader : Nat) (r_t_doors : Nat) (r_t_town : Nat) (r_t_kept : Nat) (r_t_trial : Nat) (r_t_walk : Nat) (r_t_reach : Nat) (r_t_lawNow : Nat) (r_t_lawSpare : Nat) (O_doors : Nat) (a_doors : Nat → Nat) (t_isKept : Int32) (doors_told : Int32) (doors_barred : Int32) (doors_bent : (Nat → Int32)) : va_W := [(O_t, ob_X11 r_t_tape r_t_script r_t_hairReader r_t_ordersReader r_t_lawReader r_t_doors r_t_town r_t_kept r_t_trial r_t_walk r_t_reach r_t_lawNow r_t_lawSpare t_isKept), (O_doors, ob_X0 a_doors doors_told doors_barred), (a_doors 4, .inl (E.2.1, 6, .inl doors_bent))]
def f_X11_kindIs (doors_bent : (Nat → Int32)) (x1 : Int32) : Option (Int32) := (f_X11_isWithin x1 (0 : Int32) (5 : Int32)).bind fun u1 => if u1 = 0 then (some (-1 : Int32)) else rd doors_bent 6 x1 fun v2 => some v2
theorem dX11_kindIs_0 : decode cX11_kindIs 0 = .ok (.iload_n 1, 1) := by decide +kernel
theorem dX11_kindIs_1 : decode cX11_kindIs 1 = .ok (.iconst 0, 1) := by decide +kernel
theorem dX11_kindIs_2 : decode cX11_kindIs 2 = .ok (.iconst 5, 1) := by decide +kernel
theorem dX11_kindIs_3 : decode cX11_kindIs 3 = .ok (.invokestatic 98, 3) := by decide +kernel
theorem dX11_kindIs_6 : decode cX11_kindIs 6 = .ok (.ifCond .eq 15, 3) := by decide +kernel
theorem dX11_kindIs_9 : decode cX11_kindIs 9 = .ok (.aload_n 0, 1) := by decide +kernel
theorem dX11_kindIs_10 : decode cX11_kindIs 10 = .ok (.getfield 44, 3) := by decide +kernel
theorem dX11_kindIs_13 : decode cX11_kindIs 13 = .ok (.getfield 221, 3) := by decide +kernel
theorem dX11_kindIs_16 : decode cX11_kindIs 16 = .ok (.iload_n 1, 1) := by decide +kernel
theorem dX11_kindIs_17 : decode cX11_kindIs 17 = .ok (.iaload, 1) := by decide +kernel
theorem dX11_kindIs_18 : decode cX11_kindIs 18 = .ok (.goto 4, 3) := by decide +kernel
theorem dX11_kindIs_21 : decode cX11_kindIs 21 = .ok (.iconst (-1), 1) := by decide +kernel
theorem dX11_kindIs_22 : decode cX11_kindIs 22 = .ok (.ireturn, 1) := by decide +kernel
set_option maxHeartbeats 4000000 in
set_option maxRecDepth 100000 in
theorem c_X11_kindIs (l : Launch) (E : GE) (o_t : Nat) (r_t_tape : Nat) (r_t_script : Nat) (r_t_hairReader : Nat) (r_t_ordersReader : Nat) (r_t_lawReader : Nat) (r_t_doors : Nat) (r_t_town : Nat) (r_t_kept : Nat) (r_t_trial : Nat) (r_t_walk : Nat) (r_t_reach : Nat) (r_t_lawNow : Nat) (r_t_lawSpare : Nat) (a_doors : Nat → Nat) (t_isKept : Int32) (doors_told : Int32) (doors_barred : Int32) (doors_bent : (Nat → Int32)) (x1 : Int32) (r : Int32) (h : f_X11_kindIs doors_bent x1 = some r) : Cn l E yX11_kindIs cX11_kindIs 2 (some .int) 2 0 0 [.ref o_t, .int x1] (W_X11_kindIs E o_t r_t_tape r_t_script r_t_hairReader r_t_ordersReader r_t_lawReader r_t_doors r_t_town r_t_kept r_t_trial r_t_walk r_t_reach r_t_lawNow r_t_lawSpare r_t_doors a_doors t_isKept doors_told doors_barred doors_bent) (fun w => w = (W_X11_kindIs E o_t r_t_tape r_t_script r_t_hairReader r_t_ordersReader r_t_lawReader r_t_doors r_t_town r_t_kept r_t_trial r_t_walk r_t_reach r_t_lawNow r_t_lawSpare r_t_doors a_doors t_isKept doors_told doors_barred doors_bent)) (some (.int r)) := by
  refine Cn.ofI (by decide +kernel) (Nat.le_of_ble_eq_true rfl) (fun X hX hR C hret => ?_)
  subst hX
  show Gx X E 0 0 (W_X11_kindIs E o_t r_t_tape r_t_script r_t_hairReader r_t_ordersReader r_t_lawReader r_t_doors r_t_town r_t_kept r_t_trial r_t_walk r_t_reach r_t_lawNow r_t_lawSpare r_t_doors a_doors t_isKept doors_told doors_barred doors_bent) 0 [(0, .ref o_t), (1, .int x1)] []
  unfold f_X11_kindIs at h
  refine g_iload_n (pc := 0) C dX11_kindIs_0 rfl 1 rfl ?_
  refine g_iconst (pc := 1) (v := 0) C dX11_kindIs_1 (by decide) ?_
  refine g_iconst (pc := 2) (v := 5) C dX11_kindIs_2 (by decide) ?_
  obtain ⟨u1, hu1, h⟩ := bs h
  refine g_callS (pc := 3) (st := []) (st1 := [.int u1]) (ws' := (W_X11_kindIs E o_t r_t_tape r_t_script r_t_hairReader r_t_ordersReader r_t_lawReader r_t_doors r_t_town r_t_kept r_t_trial r_t_walk r_t_reach r_t_lawNow r_t_lawSpare r_t_doors a_doors t_isKept doors_told doors_barred doors_bent)) C mv_X11_isWithin ms_X11_isWithin ml_X11_98 (c_X11_isWithin X.2.1 E x1 (0 : Int32) (5 : Int32) u1 hu1) dX11_kindIs_3 (by decide) rfl (Nat.le_of_ble_eq_true rfl) [] rfl (by decide) rfl rfl rfl rfl ?_
  refine g_if_eq (pc := 6) (tgt := 21) C dX11_kindIs_6 (by decide) h (fun h => ?_) (fun h => ?_)
  · refine g_iconst (pc := 21) (v := -1) C dX11_kindIs_21 (by decide) ?_
    cases h
    exact hret _ _ _ dX11_kindIs_22 rfl rfl
  · refine g_aload_n (pc := 9) C dX11_kindIs_9 rfl 0 rfl ?_
    refine g_get (pc := 10) C fl_X11_44 dX11_kindIs_10 0 rfl rfl ?_
    refine g_get (pc := 13) C fl_X11_221 dX11_kindIs_13 1 rfl rfl ?_
    refine g_iload_n (pc := 16) C dX11_kindIs_16 rfl 1 rfl ?_
    refine g_iald (pc := 17) C dX11_kindIs_17 2 rfl h (fun v2 h => ?_)
    refine g_goto (pc := 18) (tgt := 22) C dX11_kindIs_18 (by decide) ?_
    cases h
    exact hret _ _ _ dX11_kindIs_22 rfl rfl
abbrev W_X11_night (E : GE) (O_t : Nat) (r_t_tape : Nat) (r_t_script : Nat) (r_t_hairReader : Nat) (r_t_ordersReader : Nat) (r_t_lawReader : Nat) (r_t_doors : Nat) (r_t_town : Nat) (r_t_kept : Nat) (r_t_trial : Nat) (r_t_walk : Nat) (r_t_reach : Nat) (r_t_lawNow : Nat) (r_t_lawSpare : Nat) (O_town : Nat) (a_town : Nat → Nat) (t_isKept : Int32) (town_told : Int32) (town_round : Int32) (town_x : Int32) (town_hair : (Nat → Int32)) (town_pins : (Nat → Int32)) : va_W := [(O_t, ob_X11 r_t_tape r_t_script r_t_hairReader r_t_ordersReader r_t_lawReader r_t_doors r_t_town r_t_kept r_t_trial r_t_walk r_t_reach r_t_lawNow r_t_lawSpare t_isKept), (O_town, ob_X9 a_town town_told town_round town_x), (a_town 2, .inl (E.2.1, 60, .inl town_hair)), (a_town 3, .inl (E.2.1, 60, .inl town_pins))]
def f_X11_night (town_hair : (Nat → Int32)) (town_pins : (Nat → Int32)) : Option (Int32 × (Nat → Int32)) := (f_X9_pinsOfAll town_pins).bind fun u1 => cpy town_hair 60 town_pins 60 (0 : Int32) (0 : Int32) (60 : Int32) fun g2 => (f_X9_pinsOfAll g2).bind fun u3 => some ((u3 - u1), g2)
theorem dX11_night_0 : decode cX11_night 0 = .ok (.aload_n 0, 1) := by decide +kernel
theorem dX11_night_1 : decode cX11_night 1 = .ok (.getfield 51, 3) := by decide +kernel
theorem dX11_night_4 : decode cX11_night 4 = .ok (.invokevirtual 171, 3) := by decide +kernel
theorem dX11_night_7 : decode cX11_night 7 = .ok (.istore_n 1, 1) := by decide +kernel
theorem dX11_night_8 : decode cX11_night 8 = .ok (.aload_n 0, 1) := by decide +kernel
theorem dX11_night_9 : decode cX11_night 9 = .ok (.getfield 51, 3) := by decide +kernel
theorem dX11_night_12 : decode cX11_night 12 = .ok (.getfield 175, 3) := by decide +kernel
theorem dX11_night_15 : decode cX11_night 15 = .ok (.iconst 0, 1) := by decide +kernel
theorem dX11_night_16 : decode cX11_night 16 = .ok (.aload_n 0, 1) := by decide +kernel
theorem dX11_night_17 : decode cX11_night 17 = .ok (.getfield 51, 3) := by decide +kernel
theorem dX11_night_20 : decode cX11_night 20 = .ok (.getfield 178, 3) := by decide +kernel
theorem dX11_night_23 : decode cX11_night 23 = .ok (.iconst 0, 1) := by decide +kernel
theorem dX11_night_24 : decode cX11_night 24 = .ok (.aload_n 0, 1) := by decide +kernel
theorem dX11_night_25 : decode cX11_night 25 = .ok (.getfield 51, 3) := by decide +kernel
theorem dX11_night_28 : decode cX11_night 28 = .ok (.getfield 178, 3) := by decide +kernel
theorem dX11_night_31 : decode cX11_night 31 = .ok (.arraylength, 1) := by decide +kernel
theorem dX11_night_32 : decode cX11_night 32 = .ok (.invokestatic 179, 3) := by decide +kernel
theorem dX11_night_35 : decode cX11_night 35 = .ok (.aload_n 0, 1) := by decide +kernel
theorem dX11_night_36 : decode cX11_night 36 = .ok (.getfield 51, 3) := by decide +kernel
theorem dX11_night_39 : decode cX11_night 39 = .ok (.invokevirtual 171, 3) := by decide +kernel
theorem dX11_night_42 : decode cX11_night 42 = .ok (.iload_n 1, 1) := by decide +kernel
theorem dX11_night_43 : decode cX11_night 43 = .ok (.isub, 1) := by decide +kernel
theorem dX11_night_44 : decode cX11_night 44 = .ok (.ireturn, 1) := by decide +kernel
set_option maxHeartbeats 4000000 in
set_option maxRecDepth 100000 in
theorem c_X11_night (l : Launch) (E : GE) (o_t : Nat) (r_t_tape : Nat) (r_t_script : Nat) (r_t_hairReader : Nat) (r_t_ordersReader : Nat) (r_t_lawReader : Nat) (r_t_doors : Nat) (r_t_town : Nat) (r_t_kept : Nat) (r_t_trial : Nat) (r_t_walk : Nat) (r_t_reach : Nat) (r_t_lawNow : Nat) (r_t_lawSpare : Nat) (a_town : Nat → Nat) (t_isKept : Int32) (town_told : Int32) (town_round : Int32) (town_x : Int32) (town_hair : (Nat → Int32)) (town_pins : (Nat → Int32)) (r : Int32 × (Nat → Int32)) (h : f_X11_night town_hair town_pins = some r) : Cn l E yX11_night cX11_night 2 (some .int) 2 0 0 [.ref o_t] (W_X11_night E o_t r_t_tape r_t_script r_t_hairReader r_t_ordersReader r_t_lawReader r_t_doors r_t_town r_t_kept r_t_trial r_t_walk r_t_reach r_t_lawNow r_t_lawSpare r_t_town a_town t_isKept town_told town_round town_x town_hair town_pins) (fun w => w = (W_X11_night E o_t r_t_tape r_t_script r_t_hairReader r_t_ordersReader r_t_lawReader r_t_doors r_t_town r_t_kept r_t_trial r_t_walk r_t_reach r_t_lawNow r_t_lawSpare r_t_town a_town t_isKept town_told town_round town_x town_hair r.2)) (some (.int r.1)) := by
  refine Cn.ofI (by decide +kernel) (Nat.le_of_ble_eq_true rfl) (fun X hX hR C hret => ?_)
  subst hX
  show Gx X E 0 0 (W_X11_night E o_t r_t_tape r_t_script r_t_hairReader r_t_ordersReader r_t_lawReader r_t_doors r_t_town r_t_kept r_t_trial r_t_walk r_t_reach r_t_lawNow r_t_lawSpare r_t_town a_town t_isKept town_told town_round town_x town_hair town_pins) 0 [(0, .ref o_t)] []
  unfold f_X11_night at h
  refine g_aload_n (pc := 0) C dX11_night_0 rfl 0 rfl ?_
  refine g_get (pc := 1) C fl_X11_51 dX11_night_1 0 rfl rfl ?_
  obtain ⟨u1, hu1, h⟩ := bs h
  refine g_callV (pc := 4) (st := []) (st1 := [.int u1]) (ws' := (W_X11_night E o_t r_t_tape r_t_script r_t_hairReader r_t_ordersReader r_t_lawReader r_t_doors r_t_town r_t_kept r_t_trial r_t_walk r_t_reach r_t_lawNow r_t_lawSpare r_t_town a_town t_isKept town_told town_round town_x town_hair town_pins)) C mv_X9_pinsOfAll mi_X9_pinsOfAll ml_X11_171 (c_X9_pinsOfAll X.2.1 E r_t_town a_town town_told town_round town_x town_pins u1 hu1) dX11_night_4 (by decide) rfl (Nat.le_of_ble_eq_true rfl) 1 8 rfl rfl [1, 3] rfl (by decide) rfl rfl rfl rfl ?_
  refine g_istore_n (pc := 7) (lv' := [(1, .int u1), (0, .ref o_t)]) C dX11_night_7 rfl (by decide) rfl ?_
  refine g_aload_n (pc := 8) C dX11_night_8 rfl 1 rfl ?_
  refine g_get (pc := 9) C fl_X11_51 dX11_night_9 0 rfl rfl ?_
  refine g_get (pc := 12) C fl_X11_175 dX11_night_12 1 rfl rfl ?_
  refine g_iconst (pc := 15) (v := 0) C dX11_night_15 (by decide) ?_
  refine g_aload_n (pc := 16) C dX11_night_16 rfl 1 rfl ?_
  refine g_get (pc := 17) C fl_X11_51 dX11_night_17 0 rfl rfl ?_
  refine g_get (pc := 20) C fl_X11_178 dX11_night_20 1 rfl rfl ?_
  refine g_iconst (pc := 23) (v := 0) C dX11_night_23 (by decide) ?_
  refine g_aload_n (pc := 24) C dX11_night_24 rfl 1 rfl ?_
  refine g_get (pc := 25) C fl_X11_51 dX11_night_25 0 rfl rfl ?_
  refine g_get (pc := 28) C fl_X11_178 dX11_night_28 1 rfl rfl ?_
  refine g_alen (pc := 31) (v := 60) C dX11_night_31 3 rfl (by decide) ?_
  refine g_copy (pc := 32) C ml_X11_179 mnat_copy ms_copy mini_System (Nat.le_of_ble_eq_true rfl) dX11_night_32 2 3 rfl rfl h (fun g2 h => ?_)
  refine g_ws (ws' := (W_X11_night E o_t r_t_tape r_t_script r_t_hairReader r_t_ordersReader r_t_lawReader r_t_doors r_t_town r_t_kept r_t_trial r_t_walk r_t_reach r_t_lawNow r_t_lawSpare r_t_town a_town t_isKept town_told town_round town_x town_hair g2)) rfl ?_
  refine g_aload_n (pc := 35) C dX11_night_35 rfl 1 rfl ?_
  refine g_get (pc := 36) C fl_X11_51 dX11_night_36 0 rfl rfl ?_
  obtain ⟨u3, hu3, h⟩ := bs h
  refine g_callV (pc := 39) (st := []) (st1 := [.int u3]) (ws' := (W_X11_night E o_t r_t_tape r_t_script r_t_hairReader r_t_ordersReader r_t_lawReader r_t_doors r_t_town r_t_kept r_t_trial r_t_walk r_t_reach r_t_lawNow r_t_lawSpare r_t_town a_town t_isKept town_told town_round town_x town_hair g2)) C mv_X9_pinsOfAll mi_X9_pinsOfAll ml_X11_171 (c_X9_pinsOfAll X.2.1 E r_t_town a_town town_told town_round town_x g2 u3 hu3) dX11_night_39 (by decide) rfl (Nat.le_of_ble_eq_true rfl) 1 8 rfl rfl [1, 3] rfl (by decide) rfl rfl rfl rfl ?_
  refine g_iload_n (pc := 42) C dX11_night_42 rfl 0 rfl ?_
  refine g_isub (pc := 43) C dX11_night_43 ?_
  cases h
  exact hret _ _ _ dX11_night_44 rfl rfl
abbrev W_X11_nothingFits (E : GE) (O_t : Nat) (r_t_tape : Nat) (r_t_script : Nat) (r_t_hairReader : Nat) (r_t_ordersReader : Nat) (r_t_lawReader : Nat) (r_t_doors : Nat) (r_t_town : Nat) (r_t_kept : Nat) (r_t_trial : Nat) (r_t_walk : Nat) (r_t_reach : Nat) (r_t_lawNow : Nat) (r_t_lawSpare : Nat) (O_doors : Nat) (a_doors : Nat → Nat) (t_isKept : Int32) (doors_told : Int32) (doors_barred : Int32) (doors_fits : (Nat → Int32)) : va_W := [(O_t, ob_X11 r_t_tape r_t_script r_t_hairReader r_t_ordersReader r_t_lawReader r_t_doors r_t_town r_t_kept r_t_trial r_t_walk r_t_reach r_t_lawNow r_t_lawSpare t_isKept), (O_doors, ob_X0 a_doors doors_told doors_barred), (a_doors 3, .inl (E.2.1, 24, .inl doors_fits))]
def L_X11_nothingFits_4 (doors_told : Int32) (doors_fits : (Nat → Int32)) : Nat → Int32 × Int32 → Option (Int32) := lp fun go s => if (24 : Int32) ≤ s.2 then (some s.1) else (f_X0_isTold doors_told s.2).bind fun u1 => if u1 = 0 then (nm (s.2 + (1 : Int32)) fun v2 => go (s.1, v2)) else rd doors_fits 24 s.2 fun v3 => if v3 = 0 then (nm (s.1 ||| ((1 : Int32) <<< (s.2 &&& 31))) fun v5 => nm (s.2 + (1 : Int32)) fun v6 => go (v5, v6)) else nm (s.2 + (1 : Int32)) fun v4 => go (s.1, v4)
def f_X11_nothingFits (doors_told : Int32) (doors_fits : (Nat → Int32)) : Option (Int32) := L_X11_nothingFits_4 doors_told doors_fits fu ((0 : Int32), (0 : Int32))
theorem dX11_nothingFits_0 : decode cX11_nothingFits 0 = .ok (.iconst 0, 1) := by decide +kernel
theorem dX11_nothingFits_1 : decode cX11_nothingFits 1 = .ok (.istore_n 1, 1) := by decide +kernel
theorem dX11_nothingFits_2 : decode cX11_nothingFits 2 = .ok (.iconst 0, 1) := by decide +kernel
theorem dX11_nothingFits_3 : decode cX11_nothingFits 3 = .ok (.istore_n 2, 1) := by decide +kernel
theorem dX11_nothingFits_4 : decode cX11_nothingFits 4 = .ok (.iload_n 2, 1) := by decide +kernel
theorem dX11_nothingFits_5 : decode cX11_nothingFits 5 = .ok (.bipush 24, 2) := by decide +kernel
theorem dX11_nothingFits_7 : decode cX11_nothingFits 7 = .ok (.if_icmp .ge 38, 3) := by decide +kernel
theorem dX11_nothingFits_10 : decode cX11_nothingFits 10 = .ok (.aload_n 0, 1) := by decide +kernel
theorem dX11_nothingFits_11 : decode cX11_nothingFits 11 = .ok (.getfield 44, 3) := by decide +kernel
theorem dX11_nothingFits_14 : decode cX11_nothingFits 14 = .ok (.iload_n 2, 1) := by decide +kernel
theorem dX11_nothingFits_15 : decode cX11_nothingFits 15 = .ok (.invokevirtual 202, 3) := by decide +kernel
theorem dX11_nothingFits_18 : decode cX11_nothingFits 18 = .ok (.ifCond .eq 21, 3) := by decide +kernel
theorem dX11_nothingFits_21 : decode cX11_nothingFits 21 = .ok (.aload_n 0, 1) := by decide +kernel
theorem dX11_nothingFits_22 : decode cX11_nothingFits 22 = .ok (.getfield 44, 3) := by decide +kernel
theorem dX11_nothingFits_25 : decode cX11_nothingFits 25 = .ok (.getfield 218, 3) := by decide +kernel
theorem dX11_nothingFits_28 : decode cX11_nothingFits 28 = .ok (.iload_n 2, 1) := by decide +kernel
theorem dX11_nothingFits_29 : decode cX11_nothingFits 29 = .ok (.iaload, 1) := by decide +kernel
theorem dX11_nothingFits_30 : decode cX11_nothingFits 30 = .ok (.ifCond .ne 9, 3) := by decide +kernel
theorem dX11_nothingFits_33 : decode cX11_nothingFits 33 = .ok (.iload_n 1, 1) := by decide +kernel
theorem dX11_nothingFits_34 : decode cX11_nothingFits 34 = .ok (.iconst 1, 1) := by decide +kernel
theorem dX11_nothingFits_35 : decode cX11_nothingFits 35 = .ok (.iload_n 2, 1) := by decide +kernel
theorem dX11_nothingFits_36 : decode cX11_nothingFits 36 = .ok (.ishl, 1) := by decide +kernel
theorem dX11_nothingFits_37 : decode cX11_nothingFits 37 = .ok (.ior, 1) := by decide +kernel
theorem dX11_nothingFits_38 : decode cX11_nothingFits 38 = .ok (.istore_n 1, 1) := by decide +kernel
theorem dX11_nothingFits_39 : decode cX11_nothingFits 39 = .ok (.iinc 2 1, 3) := by decide +kernel
theorem dX11_nothingFits_42 : decode cX11_nothingFits 42 = .ok (.goto (-38), 3) := by decide +kernel
theorem dX11_nothingFits_45 : decode cX11_nothingFits 45 = .ok (.iload_n 1, 1) := by decide +kernel
theorem dX11_nothingFits_46 : decode cX11_nothingFits 46 = .ok (.ireturn, 1) := by decide +kernel
set_option maxHeartbeats 4000000 in
set_option maxRecDepth 100000 in
theorem kL_X11_nothingFits_4 {X : GC} {E : GE} (C : Cx X E cX11_nothingFits RX11 2 3) (o_t : Nat) (r_t_tape : Nat) (r_t_script : Nat) (r_t_hairReader : Nat) (r_t_ordersReader : Nat) (r_t_lawReader : Nat) (r_t_doors : Nat) (r_t_town : Nat) (r_t_kept : Nat) (r_t_trial : Nat) (r_t_walk : Nat) (r_t_reach : Nat) (r_t_lawNow : Nat) (r_t_lawSpare : Nat) (a_doors : Nat → Nat) (t_isKept : Int32) (doors_barred : Int32) (doors_told : Int32) (doors_fits : (Nat → Int32)) {r : Int32} (hret : RtI X E cX11_nothingFits .int 0 0 (fun w => w = (W_X11_nothingFits E o_t r_t_tape r_t_script r_t_hairReader r_t_ordersReader r_t_lawReader r_t_doors r_t_town r_t_kept r_t_trial r_t_walk r_t_reach r_t_lawNow r_t_lawSpare r_t_doors a_doors t_isKept doors_told doors_barred doors_fits)) r) : ∀ (n : Nat) (s : Int32 × Int32), L_X11_nothingFits_4 doors_told doors_fits n s = some r → Gx X E 0 0 (W_X11_nothingFits E o_t r_t_tape r_t_script r_t_hairReader r_t_ordersReader r_t_lawReader r_t_doors r_t_town r_t_kept r_t_trial r_t_walk r_t_reach r_t_lawNow r_t_lawSpare r_t_doors a_doors t_isKept doors_told doors_barred doors_fits) 4 [(0, .ref o_t), (1, .int s.1), (2, .int s.2)] [] := by
  unfold L_X11_nothingFits_4
  refine lp_ind _ (fun go ih s h => ?_)
  refine g_iload_n (pc := 4) C dX11_nothingFits_4 rfl 2 rfl ?_
  refine g_bipush (pc := 5) (v := 24) C dX11_nothingFits_5 (by decide) ?_
  refine g_icmp_ge (pc := 7) (tgt := 45) C dX11_nothingFits_7 (by decide) h (fun h => ?_) (fun h => ?_)
  · refine g_iload_n (pc := 45) C dX11_nothingFits_45 rfl 1 rfl ?_
    cases h
    exact hret _ _ _ dX11_nothingFits_46 rfl rfl
  · refine g_aload_n (pc := 10) C dX11_nothingFits_10 rfl 0 rfl ?_
    refine g_get (pc := 11) C fl_X11_44 dX11_nothingFits_11 0 rfl rfl ?_
    refine g_iload_n (pc := 14) C dX11_nothingFits_14 rfl 2 rfl ?_
    obtain ⟨u1, hu1, h⟩ := bs h
    refine g_callV (pc := 15) (st := []) (st1 := [.int u1]) (ws' := (W_X11_nothingFits E o_t r_t_tape r_t_script r_t_hairReader r_t_ordersReader r_t_lawReader r_t_doors r_t_town r_t_kept r_t_trial r_t_walk r_t_reach r_t_lawNow r_t_lawSpare r_t_doors a_doors t_isKept doors_told doors_barred doors_fits)) C mv_X0_isTold mi_X0_isTold ml_X11_202 (c_X0_isTold X.2.1 E r_t_doors a_doors doors_told doors_barred s.2 u1 hu1) dX11_nothingFits_15 (by decide) rfl (Nat.le_of_ble_eq_true rfl) 1 0 rfl rfl [1] rfl (by decide) rfl rfl rfl rfl ?_
    refine g_if_eq (pc := 18) (tgt := 39) C dX11_nothingFits_18 (by decide) h (fun h => ?_) (fun h => ?_)
    · refine g_iincn (pc := 39) (j := 2) (d := 1) (lv' := fun v2 => [(2, .int v2), (0, .ref o_t), (1, .int s.1)]) C dX11_nothingFits_39 rfl (by decide) (by decide) (fun _ => rfl) h (fun v2 h => ?_)
      refine g_goto (pc := 42) (tgt := 4) C dX11_nothingFits_42 (by decide) ?_
      refine g_sub [1, 2, 0] rfl ?_
      exact ih _ h
    · refine g_aload_n (pc := 21) C dX11_nothingFits_21 rfl 0 rfl ?_
      refine g_get (pc := 22) C fl_X11_44 dX11_nothingFits_22 0 rfl rfl ?_
      refine g_get (pc := 25) C fl_X11_218 dX11_nothingFits_25 1 rfl rfl ?_
      refine g_iload_n (pc := 28) C dX11_nothingFits_28 rfl 2 rfl ?_
      refine g_iald (pc := 29) C dX11_nothingFits_29 2 rfl h (fun v3 h => ?_)
      refine g_if_ne (pc := 30) (tgt := 39) C dX11_nothingFits_30 (by decide) h (fun h => ?_) (fun h => ?_)
      · refine g_iincn (pc := 39) (j := 2) (d := 1) (lv' := fun v4 => [(2, .int v4), (0, .ref o_t), (1, .int s.1)]) C dX11_nothingFits_39 rfl (by decide) (by decide) (fun _ => rfl) h (fun v4 h => ?_)
        refine g_goto (pc := 42) (tgt := 4) C dX11_nothingFits_42 (by decide) ?_
        refine g_sub [1, 2, 0] rfl ?_
        exact ih _ h
      · refine g_iload_n (pc := 33) C dX11_nothingFits_33 rfl 1 rfl ?_
        refine g_iconst (pc := 34) (v := 1) C dX11_nothingFits_34 (by decide) ?_
        refine g_iload_n (pc := 35) C dX11_nothingFits_35 rfl 2 rfl ?_
        refine g_ishl (pc := 36) C dX11_nothingFits_36 ?_
        refine g_ior (pc := 37) C dX11_nothingFits_37 ?_
        refine g_nm h (fun v5 h => ?_)
        refine g_istore_n (pc := 38) (lv' := [(1, .int v5), (0, .ref o_t), (2, .int s.2)]) C dX11_nothingFits_38 rfl (by decide) rfl ?_
        refine g_iincn (pc := 39) (j := 2) (d := 1) (lv' := fun v6 => [(2, .int v6), (1, .int v5), (0, .ref o_t)]) C dX11_nothingFits_39 rfl (by decide) (by decide) (fun _ => rfl) h (fun v6 h => ?_)
        refine g_goto (pc := 42) (tgt := 4) C dX11_nothingFits_42 (by decide) ?_
        refine g_sub [2, 1, 0] rfl ?_
        exact ih _ h
set_option maxHeartbeats 4000000 in
set_option maxRecDepth 100000 in
theorem c_X11_nothingFits (l : Launch) (E : GE) (o_t : Nat) (r_t_tape : Nat) (r_t_script : Nat) (r_t_hairReader : Nat) (r_t_ordersReader : Nat) (r_t_lawReader : Nat) (r_t_doors : Nat) (r_t_town : Nat) (r_t_kept : Nat) (r_t_trial : Nat) (r_t_walk : Nat) (r_t_reach : Nat) (r_t_lawNow : Nat) (r_t_lawSpare : Nat) (a_doors : Nat → Nat) (t_isKept : Int32) (doors_told : Int32) (doors_barred : Int32) (doors_fits : (Nat → Int32)) (r : Int32) (h : f_X11_nothingFits doors_told doors_fits = some r) : Cn l E yX11_nothingFits cX11_nothingFits 3 (some .int) 2 0 0 [.ref o_t] (W_X11_nothingFits E o_t r_t_tape r_t_script r_t_hairReader r_t_ordersReader r_t_lawReader r_t_doors r_t_town r_t_kept r_t_trial r_t_walk r_t_reach r_t_lawNow r_t_lawSpare r_t_doors a_doors t_isKept doors_told doors_barred doors_fits) (fun w => w = (W_X11_nothingFits E o_t r_t_tape r_t_script r_t_hairReader r_t_ordersReader r_t_lawReader r_t_doors r_t_town r_t_kept r_t_trial r_t_walk r_t_reach r_t_lawNow r_t_lawSpare r_t_doors a_doors t_isKept doors_told doors_barred doors_fits)) (some (.int r)) := by
  refine Cn.ofI (by decide +kernel) (Nat.le_of_ble_eq_true rfl) (fun X hX hR C hret => ?_)
  subst hX
  show Gx X E 0 0 (W_X11_nothingFits E o_t r_t_tape r_t_script r_t_hairReader r_t_ordersReader r_t_lawReader r_t_doors r_t_town r_t_kept r_t_trial r_t_walk r_t_reach r_t_lawNow r_t_lawSpare r_t_doors a_doors t_isKept doors_told doors_barred doors_fits) 0 [(0, .ref o_t)] []
  unfold f_X11_nothingFits at h
  refine g_iconst (pc := 0) (v := 0) C dX11_nothingFits_0 (by decide) ?_
  refine g_istore_n (pc := 1) (lv' := [(1, .int (0 : Int32)), (0, .ref o_t)]) C dX11_nothingFits_1 rfl (by decide) rfl ?_
  refine g_iconst (pc := 2) (v := 0) C dX11_nothingFits_2 (by decide) ?_
  refine g_istore_n (pc := 3) (lv' := [(2, .int (0 : Int32)), (1, .int (0 : Int32)), (0, .ref o_t)]) C dX11_nothingFits_3 rfl (by decide) rfl ?_
  refine g_sub [2, 1, 0] rfl ?_
  refine kL_X11_nothingFits_4 C o_t r_t_tape r_t_script r_t_hairReader r_t_ordersReader r_t_lawReader r_t_doors r_t_town r_t_kept r_t_trial r_t_walk r_t_reach r_t_lawNow r_t_lawSpare a_doors t_isKept doors_barred doors_told doors_fits hret  _ _ h
abbrev W_X11_prongs (E : GE) (O_t : Nat) (r_t_tape : Nat) (r_t_script : Nat) (r_t_hairReader : Nat) (r_t_ordersReader : Nat) (r_t_lawReader : Nat) (r_t_doors : Nat) (r_t_town : Nat) (r_t_kept : Nat) (r_t_trial : Nat) (r_t_walk : Nat) (r_t_reach : Nat) (r_t_lawNow : Nat) (r_t_lawSpare : Nat) (O_doors : Nat) (a_doors : Nat → Nat) (t_isKept : Int32) (doors_told : Int32) (doors_barred : Int32) (doors_wards : (Nat → Int32)) (doors_bent : (Nat → Int32)) : va_W := [(O_t, ob_X11 r_t_tape r_t_script r_t_hairReader r_t_ordersReader r_t_lawReader r_t_doors r_t_town r_t_kept r_t_trial r_t_walk r_t_reach r_t_lawNow r_t_lawSpare t_isKept), (O_doors, ob_X0 a_doors doors_told doors_barred), (a_doors 2, .inl (E.2.1, 24, .inl doors_wards)), (a_doors 4, .inl (E.2.1, 6, .inl doors_bent))]
def f_X11_prongs (doors_told : Int32) (doors_wards : (Nat → Int32)) (doors_bent : (Nat → Int32)) (x1 : Int32) (x2 : Int32) : Option (Int32) := (f_X11_isWithin x1 (0 : Int32) (5 : Int32)).bind fun u1 => if u1 = 0 then (some (-1 : Int32)) else (f_X0_isTold doors_told x2).bind fun u2 => if u2 = 0 then (some (-1 : Int32)) else rd doors_bent 6 x1 fun v3 => rd doors_wards 24 x2 fun v4 => (f_J6_bitCount_0f7a4 (v3 ^^^ v4)).bind fun u5 => some u5
theorem dX11_prongs_0 : decode cX11_prongs 0 = .ok (.iload_n 1, 1) := by decide +kernel
theorem dX11_prongs_1 : decode cX11_prongs 1 = .ok (.iconst 0, 1) := by decide +kernel
theorem dX11_prongs_2 : decode cX11_prongs 2 = .ok (.iconst 5, 1) := by decide +kernel
theorem dX11_prongs_3 : decode cX11_prongs 3 = .ok (.invokestatic 98, 3) := by decide +kernel
theorem dX11_prongs_6 : decode cX11_prongs 6 = .ok (.ifCond .eq 14, 3) := by decide +kernel
theorem dX11_prongs_9 : decode cX11_prongs 9 = .ok (.aload_n 0, 1) := by decide +kernel
theorem dX11_prongs_10 : decode cX11_prongs 10 = .ok (.getfield 44, 3) := by decide +kernel
theorem dX11_prongs_13 : decode cX11_prongs 13 = .ok (.iload_n 2, 1) := by decide +kernel
theorem dX11_prongs_14 : decode cX11_prongs 14 = .ok (.invokevirtual 202, 3) := by decide +kernel
theorem dX11_prongs_17 : decode cX11_prongs 17 = .ok (.ifCond .ne 5, 3) := by decide +kernel
theorem dX11_prongs_20 : decode cX11_prongs 20 = .ok (.iconst (-1), 1) := by decide +kernel
theorem dX11_prongs_21 : decode cX11_prongs 21 = .ok (.ireturn, 1) := by decide +kernel
theorem dX11_prongs_22 : decode cX11_prongs 22 = .ok (.aload_n 0, 1) := by decide +kernel
theorem dX11_prongs_23 : decode cX11_prongs 23 = .ok (.getfield 44, 3) := by decide +kernel
theorem dX11_prongs_26 : decode cX11_prongs 26 = .ok (.getfield 221, 3) := by decide +kernel
theorem dX11_prongs_29 : decode cX11_prongs 29 = .ok (.iload_n 1, 1) := by decide +kernel
theorem dX11_prongs_30 : decode cX11_prongs 30 = .ok (.iaload, 1) := by decide +kernel
theorem dX11_prongs_31 : decode cX11_prongs 31 = .ok (.aload_n 0, 1) := by decide +kernel
theorem dX11_prongs_32 : decode cX11_prongs 32 = .ok (.getfield 44, 3) := by decide +kernel
theorem dX11_prongs_35 : decode cX11_prongs 35 = .ok (.getfield 209, 3) := by decide +kernel
theorem dX11_prongs_38 : decode cX11_prongs 38 = .ok (.iload_n 2, 1) := by decide +kernel
theorem dX11_prongs_39 : decode cX11_prongs 39 = .ok (.iaload, 1) := by decide +kernel
theorem dX11_prongs_40 : decode cX11_prongs 40 = .ok (.ixor, 1) := by decide +kernel
theorem dX11_prongs_41 : decode cX11_prongs 41 = .ok (.invokestatic 250, 3) := by decide +kernel
theorem dX11_prongs_44 : decode cX11_prongs 44 = .ok (.ireturn, 1) := by decide +kernel
set_option maxHeartbeats 4000000 in
set_option maxRecDepth 100000 in
theorem c_X11_prongs (l : Launch) (E : GE) (o_t : Nat) (r_t_tape : Nat) (r_t_script : Nat) (r_t_hairReader : Nat) (r_t_ordersReader : Nat) (r_t_lawReader : Nat) (r_t_doors : Nat) (r_t_town : Nat) (r_t_kept : Nat) (r_t_trial : Nat) (r_t_walk : Nat) (r_t_reach : Nat) (r_t_lawNow : Nat) (r_t_lawSpare : Nat) (a_doors : Nat → Nat) (t_isKept : Int32) (doors_told : Int32) (doors_barred : Int32) (doors_wards : (Nat → Int32)) (doors_bent : (Nat → Int32)) (x1 : Int32) (x2 : Int32) (r : Int32) (h : f_X11_prongs doors_told doors_wards doors_bent x1 x2 = some r) : Cn l E yX11_prongs cX11_prongs 3 (some .int) 2 0 0 [.ref o_t, .int x1, .int x2] (W_X11_prongs E o_t r_t_tape r_t_script r_t_hairReader r_t_ordersReader r_t_lawReader r_t_doors r_t_town r_t_kept r_t_trial r_t_walk r_t_reach r_t_lawNow r_t_lawSpare r_t_doors a_doors t_isKept doors_told doors_barred doors_wards doors_bent) (fun w => w = (W_X11_prongs E o_t r_t_tape r_t_script r_t_hairReader r_t_ordersReader r_t_lawReader r_t_doors r_t_town r_t_kept r_t_trial r_t_walk r_t_reach r_t_lawNow r_t_lawSpare r_t_doors a_doors t_isKept doors_told doors_barred doors_wards doors_bent)) (some (.int r)) := by
  refine Cn.ofI (by decide +kernel) (Nat.le_of_ble_eq_true rfl) (fun X hX hR C hret => ?_)
  subst hX
  show Gx X E 0 0 (W_X11_prongs E o_t r_t_tape r_t_script r_t_hairReader r_t_ordersReader r_t_lawReader r_t_doors r_t_town r_t_kept r_t_trial r_t_walk r_t_reach r_t_lawNow r_t_lawSpare r_t_doors a_doors t_isKept doors_told doors_barred doors_wards doors_bent) 0 [(0, .ref o_t), (1, .int x1), (2, .int x2)] []
  unfold f_X11_prongs at h
  refine g_iload_n (pc := 0) C dX11_prongs_0 rfl 1 rfl ?_
  refine g_iconst (pc := 1) (v := 0) C dX11_prongs_1 (by decide) ?_
  refine g_iconst (pc := 2) (v := 5) C dX11_prongs_2 (by decide) ?_
  obtain ⟨u1, hu1, h⟩ := bs h
  refine g_callS (pc := 3) (st := []) (st1 := [.int u1]) (ws' := (W_X11_prongs E o_t r_t_tape r_t_script r_t_hairReader r_t_ordersReader r_t_lawReader r_t_doors r_t_town r_t_kept r_t_trial r_t_walk r_t_reach r_t_lawNow r_t_lawSpare r_t_doors a_doors t_isKept doors_told doors_barred doors_wards doors_bent)) C mv_X11_isWithin ms_X11_isWithin ml_X11_98 (c_X11_isWithin X.2.1 E x1 (0 : Int32) (5 : Int32) u1 hu1) dX11_prongs_3 (by decide) rfl (Nat.le_of_ble_eq_true rfl) [] rfl (by decide) rfl rfl rfl rfl ?_
  refine g_if_eq (pc := 6) (tgt := 20) C dX11_prongs_6 (by decide) h (fun h => ?_) (fun h => ?_)
  · refine g_iconst (pc := 20) (v := -1) C dX11_prongs_20 (by decide) ?_
    cases h
    exact hret _ _ _ dX11_prongs_21 rfl rfl
  · refine g_aload_n (pc := 9) C dX11_prongs_9 rfl 0 rfl ?_
    refine g_get (pc := 10) C fl_X11_44 dX11_prongs_10 0 rfl rfl ?_
    refine g_iload_n (pc := 13) C dX11_prongs_13 rfl 2 rfl ?_
    obtain ⟨u2, hu2, h⟩ := bs h
    refine g_callV (pc := 14) (st := []) (st1 := [.int u2]) (ws' := (W_X11_prongs E o_t r_t_tape r_t_script r_t_hairReader r_t_ordersReader r_t_lawReader r_t_doors r_t_town r_t_kept r_t_trial r_t_walk r_t_reach r_t_lawNow r_t_lawSpare r_t_doors a_doors t_isKept doors_told doors_barred doors_wards doors_bent)) C mv_X0_isTold mi_X0_isTold ml_X11_202 (c_X0_isTold X.2.1 E r_t_doors a_doors doors_told doors_barred x2 u2 hu2) dX11_prongs_14 (by decide) rfl (Nat.le_of_ble_eq_true rfl) 1 0 rfl rfl [1] rfl (by decide) rfl rfl rfl rfl ?_
    refine g_if_ne (pc := 17) (tgt := 22) C dX11_prongs_17 (by decide) h (fun h => ?_) (fun h => ?_)
    · refine g_aload_n (pc := 22) C dX11_prongs_22 rfl 0 rfl ?_
      refine g_get (pc := 23) C fl_X11_44 dX11_prongs_23 0 rfl rfl ?_
      refine g_get (pc := 26) C fl_X11_221 dX11_prongs_26 1 rfl rfl ?_
      refine g_iload_n (pc := 29) C dX11_prongs_29 rfl 1 rfl ?_
      refine g_iald (pc := 30) C dX11_prongs_30 3 rfl h (fun v3 h => ?_)
      refine g_aload_n (pc := 31) C dX11_prongs_31 rfl 0 rfl ?_
      refine g_get (pc := 32) C fl_X11_44 dX11_prongs_32 0 rfl rfl ?_
      refine g_get (pc := 35) C fl_X11_209 dX11_prongs_35 1 rfl rfl ?_
      refine g_iload_n (pc := 38) C dX11_prongs_38 rfl 2 rfl ?_
      refine g_iald (pc := 39) C dX11_prongs_39 2 rfl h (fun v4 h => ?_)
      refine g_ixor (pc := 40) C dX11_prongs_40 ?_
      obtain ⟨u5, hu5, h⟩ := bs h
      refine g_callS (pc := 41) (st := []) (st1 := [.int u5]) (ws' := (W_X11_prongs E o_t r_t_tape r_t_script r_t_hairReader r_t_ordersReader r_t_lawReader r_t_doors r_t_town r_t_kept r_t_trial r_t_walk r_t_reach r_t_lawNow r_t_lawSpare r_t_doors a_doors t_isKept doors_told doors_barred doors_wards doors_bent)) C mv_J6_bitCount_0f7a4 ms_J6_bitCount_0f7a4 ml_X11_250 (c_J6_bitCount_0f7a4 X.2.1 E (v3 ^^^ v4) u5 hu5) dX11_prongs_41 (by decide) rfl (Nat.le_of_ble_eq_true rfl) [] rfl (by decide) rfl rfl rfl rfl ?_
      cases h
      exact hret _ _ _ dX11_prongs_44 rfl rfl
    · refine g_iconst (pc := 20) (v := -1) C dX11_prongs_20 (by decide) ?_
      cases h
      exact hret _ _ _ dX11_prongs_21 rfl rfl
abbrev W_X11_rings (E : GE) : va_W := []
def f_X11_rings (x1 : Int32) (x2 : Int32) : Option (Int32) := (f_X11_isWithin x1 (0 : Int32) (4095 : Int32)).bind fun u1 => if u1 = 0 then (some (-1 : Int32)) else (f_X11_isWithin x2 (0 : Int32) (1 : Int32)).bind fun u2 => if u2 = 0 then (some (-1 : Int32)) else (f_X5_ringMoves x1).bind fun u3 => if x2 = 0 then (some u3) else if u3 = 0 then (some (-2 : Int32)) else (f_J6_numberOfTrailingZeros_0f7a4 u3).bind fun u4 => some u4
theorem dX11_rings_0 : decode cX11_rings 0 = .ok (.iload_n 1, 1) := by decide +kernel
theorem dX11_rings_1 : decode cX11_rings 1 = .ok (.iconst 0, 1) := by decide +kernel
theorem dX11_rings_2 : decode cX11_rings 2 = .ok (.sipush 4095, 3) := by decide +kernel
theorem dX11_rings_5 : decode cX11_rings 5 = .ok (.invokestatic 98, 3) := by decide +kernel
theorem dX11_rings_8 : decode cX11_rings 8 = .ok (.ifCond .eq 12, 3) := by decide +kernel
theorem dX11_rings_11 : decode cX11_rings 11 = .ok (.iload_n 2, 1) := by decide +kernel
theorem dX11_rings_12 : decode cX11_rings 12 = .ok (.iconst 0, 1) := by decide +kernel
theorem dX11_rings_13 : decode cX11_rings 13 = .ok (.iconst 1, 1) := by decide +kernel
theorem dX11_rings_14 : decode cX11_rings 14 = .ok (.invokestatic 98, 3) := by decide +kernel
theorem dX11_rings_17 : decode cX11_rings 17 = .ok (.ifCond .ne 5, 3) := by decide +kernel
theorem dX11_rings_20 : decode cX11_rings 20 = .ok (.iconst (-1), 1) := by decide +kernel
theorem dX11_rings_21 : decode cX11_rings 21 = .ok (.ireturn, 1) := by decide +kernel
theorem dX11_rings_22 : decode cX11_rings 22 = .ok (.iload_n 1, 1) := by decide +kernel
theorem dX11_rings_23 : decode cX11_rings 23 = .ok (.invokestatic 286, 3) := by decide +kernel
theorem dX11_rings_26 : decode cX11_rings 26 = .ok (.istore_n 3, 1) := by decide +kernel
theorem dX11_rings_27 : decode cX11_rings 27 = .ok (.iload_n 2, 1) := by decide +kernel
theorem dX11_rings_28 : decode cX11_rings 28 = .ok (.ifCond .ne 5, 3) := by decide +kernel
theorem dX11_rings_31 : decode cX11_rings 31 = .ok (.iload_n 3, 1) := by decide +kernel
theorem dX11_rings_32 : decode cX11_rings 32 = .ok (.ireturn, 1) := by decide +kernel
theorem dX11_rings_33 : decode cX11_rings 33 = .ok (.iload_n 3, 1) := by decide +kernel
theorem dX11_rings_34 : decode cX11_rings 34 = .ok (.ifCond .ne 8, 3) := by decide +kernel
theorem dX11_rings_37 : decode cX11_rings 37 = .ok (.bipush (-2), 2) := by decide +kernel
theorem dX11_rings_39 : decode cX11_rings 39 = .ok (.goto 7, 3) := by decide +kernel
theorem dX11_rings_42 : decode cX11_rings 42 = .ok (.iload_n 3, 1) := by decide +kernel
theorem dX11_rings_43 : decode cX11_rings 43 = .ok (.invokestatic 270, 3) := by decide +kernel
theorem dX11_rings_46 : decode cX11_rings 46 = .ok (.ireturn, 1) := by decide +kernel
set_option maxHeartbeats 4000000 in
set_option maxRecDepth 100000 in
theorem c_X11_rings (l : Launch) (E : GE) (o_t : Nat) (x1 : Int32) (x2 : Int32) (r : Int32) (h : f_X11_rings x1 x2 = some r) : Cn l E yX11_rings cX11_rings 4 (some .int) 2 0 0 [.ref o_t, .int x1, .int x2] (W_X11_rings E) (fun w => w = (W_X11_rings E)) (some (.int r)) := by
  refine Cn.ofI (by decide +kernel) (Nat.le_of_ble_eq_true rfl) (fun X hX hR C hret => ?_)
  subst hX
  show Gx X E 0 0 (W_X11_rings E) 0 [(0, .ref o_t), (1, .int x1), (2, .int x2)] []
  unfold f_X11_rings at h
  refine g_iload_n (pc := 0) C dX11_rings_0 rfl 1 rfl ?_
  refine g_iconst (pc := 1) (v := 0) C dX11_rings_1 (by decide) ?_
  refine g_sipush (pc := 2) (v := 4095) C dX11_rings_2 (by decide) ?_
  obtain ⟨u1, hu1, h⟩ := bs h
  refine g_callS (pc := 5) (st := []) (st1 := [.int u1]) (ws' := (W_X11_rings E)) C mv_X11_isWithin ms_X11_isWithin ml_X11_98 (c_X11_isWithin X.2.1 E x1 (0 : Int32) (4095 : Int32) u1 hu1) dX11_rings_5 (by decide) rfl (Nat.le_of_ble_eq_true rfl) [] rfl (by decide) rfl rfl rfl rfl ?_
  refine g_if_eq (pc := 8) (tgt := 20) C dX11_rings_8 (by decide) h (fun h => ?_) (fun h => ?_)
  · refine g_iconst (pc := 20) (v := -1) C dX11_rings_20 (by decide) ?_
    cases h
    exact hret _ _ _ dX11_rings_21 rfl rfl
  · refine g_iload_n (pc := 11) C dX11_rings_11 rfl 2 rfl ?_
    refine g_iconst (pc := 12) (v := 0) C dX11_rings_12 (by decide) ?_
    refine g_iconst (pc := 13) (v := 1) C dX11_rings_13 (by decide) ?_
    obtain ⟨u2, hu2, h⟩ := bs h
    refine g_callS (pc := 14) (st := []) (st1 := [.int u2]) (ws' := (W_X11_rings E)) C mv_X11_isWithin ms_X11_isWithin ml_X11_98 (c_X11_isWithin X.2.1 E x2 (0 : Int32) (1 : Int32) u2 hu2) dX11_rings_14 (by decide) rfl (Nat.le_of_ble_eq_true rfl) [] rfl (by decide) rfl rfl rfl rfl ?_
    refine g_if_ne (pc := 17) (tgt := 22) C dX11_rings_17 (by decide) h (fun h => ?_) (fun h => ?_)
    · refine g_iload_n (pc := 22) C dX11_rings_22 rfl 1 rfl ?_
      obtain ⟨u3, hu3, h⟩ := bs h
      refine g_callS (pc := 23) (st := []) (st1 := [.int u3]) (ws' := (W_X11_rings E)) C mv_X5_ringMoves ms_X5_ringMoves ml_X11_286 (c_X5_ringMoves X.2.1 E x1 u3 hu3) dX11_rings_23 (by decide) rfl (Nat.le_of_ble_eq_true rfl) [] rfl (by decide) rfl rfl rfl rfl ?_
      refine g_istore_n (pc := 26) (lv' := [(3, .int u3), (0, .ref o_t), (1, .int x1), (2, .int x2)]) C dX11_rings_26 rfl (by decide) rfl ?_
      refine g_iload_n (pc := 27) C dX11_rings_27 rfl 3 rfl ?_
      refine g_if_ne (pc := 28) (tgt := 33) C dX11_rings_28 (by decide) h (fun h => ?_) (fun h => ?_)
      · refine g_iload_n (pc := 33) C dX11_rings_33 rfl 0 rfl ?_
        refine g_if_ne (pc := 34) (tgt := 42) C dX11_rings_34 (by decide) h (fun h => ?_) (fun h => ?_)
        · refine g_iload_n (pc := 42) C dX11_rings_42 rfl 0 rfl ?_
          obtain ⟨u4, hu4, h⟩ := bs h
          refine g_callS (pc := 43) (st := []) (st1 := [.int u4]) (ws' := (W_X11_rings E)) C mv_J6_numberOfTrailingZeros_0f7a4 ms_J6_numberOfTrailingZeros_0f7a4 ml_X11_270 (c_J6_numberOfTrailingZeros_0f7a4 X.2.1 E u3 u4 hu4) dX11_rings_43 (by decide) rfl (Nat.le_of_ble_eq_true rfl) [] rfl (by decide) rfl rfl rfl rfl ?_
          cases h
          exact hret _ _ _ dX11_rings_46 rfl rfl
        · refine g_bipush (pc := 37) (v := -2) C dX11_rings_37 (by decide) ?_
          refine g_goto (pc := 39) (tgt := 46) C dX11_rings_39 (by decide) ?_
          cases h
          exact hret _ _ _ dX11_rings_46 rfl rfl
      · refine g_iload_n (pc := 31) C dX11_rings_31 rfl 0 rfl ?_
        cases h
        exact hret _ _ _ dX11_rings_32 rfl rfl
    · refine g_iconst (pc := 20) (v := -1) C dX11_rings_20 (by decide) ?_
      cases h
      exact hret _ _ _ dX11_rings_21 rfl rfl
abbrev W_X11_seed (E : GE) (O_t : Nat) (r_t_tape : Nat) (r_t_script : Nat) (r_t_hairReader : Nat) (r_t_ordersReader : Nat) (r_t_lawReader : Nat) (r_t_doors : Nat) (r_t_town : Nat) (r_t_kept : Nat) (r_t_trial : Nat) (r_t_walk : Nat) (r_t_reach : Nat) (r_t_lawNow : Nat) (r_t_lawSpare : Nat) (O_town : Nat) (a_town : Nat → Nat) (t_isKept : Int32) (town_told : Int32) (town_round : Int32) (town_x : Int32) : va_W := [(O_t, ob_X11 r_t_tape r_t_script r_t_hairReader r_t_ordersReader r_t_lawReader r_t_doors r_t_town r_t_kept r_t_trial r_t_walk r_t_reach r_t_lawNow r_t_lawSpare t_isKept), (O_town, ob_X9 a_town town_told town_round town_x)]
def f_X11_seed (town_x : Int32) (x1 : Int32) : Option (Int32 × Int32) := (f_X11_isWithin x1 (0 : Int32) (65535 : Int32)).bind fun u1 => if u1 = 0 then (some ((0 : Int32), town_x)) else some ((1 : Int32), x1)
theorem dX11_seed_0 : decode cX11_seed 0 = .ok (.iload_n 1, 1) := by decide +kernel
theorem dX11_seed_1 : decode cX11_seed 1 = .ok (.iconst 0, 1) := by decide +kernel
theorem dX11_seed_2 : decode cX11_seed 2 = .ok (.ldc_w 309, 3) := by decide +kernel
theorem dX11_seed_5 : decode cX11_seed 5 = .ok (.invokestatic 98, 3) := by decide +kernel
theorem dX11_seed_8 : decode cX11_seed 8 = .ok (.ifCond .ne 5, 3) := by decide +kernel
theorem dX11_seed_11 : decode cX11_seed 11 = .ok (.iconst 0, 1) := by decide +kernel
theorem dX11_seed_12 : decode cX11_seed 12 = .ok (.ireturn, 1) := by decide +kernel
theorem dX11_seed_13 : decode cX11_seed 13 = .ok (.aload_n 0, 1) := by decide +kernel
theorem dX11_seed_14 : decode cX11_seed 14 = .ok (.getfield 51, 3) := by decide +kernel
theorem dX11_seed_17 : decode cX11_seed 17 = .ok (.iload_n 1, 1) := by decide +kernel
theorem dX11_seed_18 : decode cX11_seed 18 = .ok (.putfield 310, 3) := by decide +kernel
theorem dX11_seed_21 : decode cX11_seed 21 = .ok (.iconst 1, 1) := by decide +kernel
theorem dX11_seed_22 : decode cX11_seed 22 = .ok (.ireturn, 1) := by decide +kernel
set_option maxHeartbeats 4000000 in
set_option maxRecDepth 100000 in
theorem c_X11_seed (l : Launch) (E : GE) (o_t : Nat) (r_t_tape : Nat) (r_t_script : Nat) (r_t_hairReader : Nat) (r_t_ordersReader : Nat) (r_t_lawReader : Nat) (r_t_doors : Nat) (r_t_town : Nat) (r_t_kept : Nat) (r_t_trial : Nat) (r_t_walk : Nat) (r_t_reach : Nat) (r_t_lawNow : Nat) (r_t_lawSpare : Nat) (a_town : Nat → Nat) (t_isKept : Int32) (town_told : Int32) (town_round : Int32) (town_x : Int32) (x1 : Int32) (r : Int32 × Int32) (h : f_X11_seed town_x x1 = some r) : Cn l E yX11_seed cX11_seed 2 (some .boolean) 2 0 0 [.ref o_t, .int x1] (W_X11_seed E o_t r_t_tape r_t_script r_t_hairReader r_t_ordersReader r_t_lawReader r_t_doors r_t_town r_t_kept r_t_trial r_t_walk r_t_reach r_t_lawNow r_t_lawSpare r_t_town a_town t_isKept town_told town_round town_x) (fun w => w = (W_X11_seed E o_t r_t_tape r_t_script r_t_hairReader r_t_ordersReader r_t_lawReader r_t_doors r_t_town r_t_kept r_t_trial r_t_walk r_t_reach r_t_lawNow r_t_lawSpare r_t_town a_town t_isKept town_told town_round r.2)) (some (.int r.1)) := by
  refine Cn.ofI (by decide +kernel) (Nat.le_of_ble_eq_true rfl) (fun X hX hR C hret => ?_)
  subst hX
  show Gx X E 0 0 (W_X11_seed E o_t r_t_tape r_t_script r_t_hairReader r_t_ordersReader r_t_lawReader r_t_doors r_t_town r_t_kept r_t_trial r_t_walk r_t_reach r_t_lawNow r_t_lawSpare r_t_town a_town t_isKept town_told town_round town_x) 0 [(0, .ref o_t), (1, .int x1)] []
  unfold f_X11_seed at h
  refine g_iload_n (pc := 0) C dX11_seed_0 rfl 1 rfl ?_
  refine g_iconst (pc := 1) (v := 0) C dX11_seed_1 (by decide) ?_
  refine g_ldcw (pc := 2) C dX11_seed_2 ct_X11_309 ?_
  obtain ⟨u1, hu1, h⟩ := bs h
  refine g_callS (pc := 5) (st := []) (st1 := [.int u1]) (ws' := (W_X11_seed E o_t r_t_tape r_t_script r_t_hairReader r_t_ordersReader r_t_lawReader r_t_doors r_t_town r_t_kept r_t_trial r_t_walk r_t_reach r_t_lawNow r_t_lawSpare r_t_town a_town t_isKept town_told town_round town_x)) C mv_X11_isWithin ms_X11_isWithin ml_X11_98 (c_X11_isWithin X.2.1 E x1 (0 : Int32) (65535 : Int32) u1 hu1) dX11_seed_5 (by decide) rfl (Nat.le_of_ble_eq_true rfl) [] rfl (by decide) rfl rfl rfl rfl ?_
  refine g_if_ne (pc := 8) (tgt := 13) C dX11_seed_8 (by decide) h (fun h => ?_) (fun h => ?_)
  · refine g_aload_n (pc := 13) C dX11_seed_13 rfl 0 rfl ?_
    refine g_get (pc := 14) C fl_X11_51 dX11_seed_14 0 rfl rfl ?_
    refine g_iload_n (pc := 17) C dX11_seed_17 rfl 1 rfl ?_
    refine g_put (pc := 18) (ws' := (W_X11_seed E o_t r_t_tape r_t_script r_t_hairReader r_t_ordersReader r_t_lawReader r_t_doors r_t_town r_t_kept r_t_trial r_t_walk r_t_reach r_t_lawNow r_t_lawSpare r_t_town a_town t_isKept town_told town_round x1)) C .int fl_X11_310 dX11_seed_18 1 rfl (by decide +kernel) rfl rfl (Nat.le_of_ble_eq_true rfl) rfl ?_
    refine g_iconst (pc := 21) (v := 1) C dX11_seed_21 (by decide) ?_
    cases h
    exact hret _ _ _ dX11_seed_22 nb1 rfl
  · refine g_iconst (pc := 11) (v := 0) C dX11_seed_11 (by decide) ?_
    cases h
    exact hret _ _ _ dX11_seed_12 nb0 rfl
abbrev W_X11_undo (E : GE) (O_t : Nat) (r_t_tape : Nat) (r_t_script : Nat) (r_t_hairReader : Nat) (r_t_ordersReader : Nat) (r_t_lawReader : Nat) (r_t_doors : Nat) (r_t_town : Nat) (r_t_kept : Nat) (r_t_trial : Nat) (r_t_walk : Nat) (r_t_reach : Nat) (r_t_lawNow : Nat) (r_t_lawSpare : Nat) (O_town : Nat) (a_town : Nat → Nat) (O_kept : Nat) (a_kept : Nat → Nat) (t_isKept : Int32) (town_told : Int32) (town_round : Int32) (town_x : Int32) (town_rust : (Nat → Int32)) (town_rooms : (Nat → Int32)) (town_hair : (Nat → Int32)) (town_pins : (Nat → Int32)) (kept_told : Int32) (kept_round : Int32) (kept_x : Int32) (kept_rust : (Nat → Int32)) (kept_rooms : (Nat → Int32)) (kept_hair : (Nat → Int32)) (kept_pins : (Nat → Int32)) : va_W := [(O_t, ob_X11 r_t_tape r_t_script r_t_hairReader r_t_ordersReader r_t_lawReader r_t_doors r_t_town r_t_kept r_t_trial r_t_walk r_t_reach r_t_lawNow r_t_lawSpare t_isKept), (O_town, ob_X9 a_town town_told town_round town_x), (a_town 0, .inl (E.2.1, 24, .inl town_rust)), (a_town 1, .inl (E.2.1, 10, .inl town_rooms)), (a_town 2, .inl (E.2.1, 60, .inl town_hair)), (a_town 3, .inl (E.2.1, 60, .inl town_pins)), (O_kept, ob_X9 a_kept kept_told kept_round kept_x), (a_kept 0, .inl (E.2.1, 24, .inl kept_rust)), (a_kept 1, .inl (E.2.1, 10, .inl kept_rooms)), (a_kept 2, .inl (E.2.1, 60, .inl kept_hair)), (a_kept 3, .inl (E.2.1, 60, .inl kept_pins))]
def f_X11_undo (t_isKept : Int32) (town_told : Int32) (town_round : Int32) (town_x : Int32) (town_rust : (Nat → Int32)) (town_rooms : (Nat → Int32)) (town_hair : (Nat → Int32)) (town_pins : (Nat → Int32)) (kept_told : Int32) (kept_round : Int32) (kept_x : Int32) (kept_rust : (Nat → Int32)) (kept_rooms : (Nat → Int32)) (kept_hair : (Nat → Int32)) (kept_pins : (Nat → Int32)) : Option (Int32 × Int32 × Int32 × Int32 × (Nat → Int32) × (Nat → Int32) × (Nat → Int32) × (Nat → Int32)) := if t_isKept = 0 then (some ((0 : Int32), town_told, town_round, town_x, town_rust, town_rooms, town_hair, town_pins)) else (f_X9_copy town_told town_round town_x town_rust town_rooms town_hair town_pins kept_told kept_round kept_x kept_rust kept_rooms kept_hair kept_pins).bind fun u1 => some ((1 : Int32), u1.1, u1.2.1, u1.2.2.1, u1.2.2.2.1, u1.2.2.2.2.1, u1.2.2.2.2.2.1, u1.2.2.2.2.2.2)
theorem dX11_undo_0 : decode cX11_undo 0 = .ok (.aload_n 0, 1) := by decide +kernel
theorem dX11_undo_1 : decode cX11_undo 1 = .ok (.getfield 94, 3) := by decide +kernel
theorem dX11_undo_4 : decode cX11_undo 4 = .ok (.ifCond .ne 5, 3) := by decide +kernel
theorem dX11_undo_7 : decode cX11_undo 7 = .ok (.iconst 0, 1) := by decide +kernel
theorem dX11_undo_8 : decode cX11_undo 8 = .ok (.ireturn, 1) := by decide +kernel
theorem dX11_undo_9 : decode cX11_undo 9 = .ok (.aload_n 0, 1) := by decide +kernel
theorem dX11_undo_10 : decode cX11_undo 10 = .ok (.getfield 51, 3) := by decide +kernel
theorem dX11_undo_13 : decode cX11_undo 13 = .ok (.aload_n 0, 1) := by decide +kernel
theorem dX11_undo_14 : decode cX11_undo 14 = .ok (.getfield 55, 3) := by decide +kernel
theorem dX11_undo_17 : decode cX11_undo 17 = .ok (.invokevirtual 188, 3) := by decide +kernel
theorem dX11_undo_20 : decode cX11_undo 20 = .ok (.iconst 1, 1) := by decide +kernel
theorem dX11_undo_21 : decode cX11_undo 21 = .ok (.ireturn, 1) := by decide +kernel
set_option maxHeartbeats 4000000 in
set_option maxRecDepth 100000 in
theorem c_X11_undo (l : Launch) (E : GE) (o_t : Nat) (r_t_tape : Nat) (r_t_script : Nat) (r_t_hairReader : Nat) (r_t_ordersReader : Nat) (r_t_lawReader : Nat) (r_t_doors : Nat) (r_t_town : Nat) (r_t_kept : Nat) (r_t_trial : Nat) (r_t_walk : Nat) (r_t_reach : Nat) (r_t_lawNow : Nat) (r_t_lawSpare : Nat) (a_town : Nat → Nat) (a_kept : Nat → Nat) (t_isKept : Int32) (town_told : Int32) (town_round : Int32) (town_x : Int32) (town_rust : (Nat → Int32)) (town_rooms : (Nat → Int32)) (town_hair : (Nat → Int32)) (town_pins : (Nat → Int32)) (kept_told : Int32) (kept_round : Int32) (kept_x : Int32) (kept_rust : (Nat → Int32)) (kept_rooms : (Nat → Int32)) (kept_hair : (Nat → Int32)) (kept_pins : (Nat → Int32)) (r : Int32 × Int32 × Int32 × Int32 × (Nat → Int32) × (Nat → Int32) × (Nat → Int32) × (Nat → Int32)) (h : f_X11_undo t_isKept town_told town_round town_x town_rust town_rooms town_hair town_pins kept_told kept_round kept_x kept_rust kept_rooms kept_hair kept_pins = some r) : Cn l E yX11_undo cX11_undo 1 (some .boolean) 2 0 0 [.ref o_t] (W_X11_undo E o_t r_t_tape r_t_script r_t_hairReader r_t_ordersReader r_t_lawReader r_t_doors r_t_town r_t_kept r_t_trial r_t_walk r_t_reach r_t_lawNow r_t_lawSpare r_t_town a_town r_t_kept a_kept t_isKept town_told town_round town_x town_rust town_rooms town_hair town_pins kept_told kept_round kept_x kept_rust kept_rooms kept_hair kept_pins) (fun w => w = (W_X11_undo E o_t r_t_tape r_t_script r_t_hairReader r_t_ordersReader r_t_lawReader r_t_doors r_t_town r_t_kept r_t_trial r_t_walk r_t_reach r_t_lawNow r_t_lawSpare r_t_town a_town r_t_kept a_kept t_isKept r.2.1 r.2.2.1 r.2.2.2.1 r.2.2.2.2.1 r.2.2.2.2.2.1 r.2.2.2.2.2.2.1 r.2.2.2.2.2.2.2 kept_told kept_round kept_x kept_rust kept_rooms kept_hair kept_pins)) (some (.int r.1)) := by
  refine Cn.ofI (by decide +kernel) (Nat.le_of_ble_eq_true rfl) (fun X hX hR C hret => ?_)
  subst hX
  show Gx X E 0 0 (W_X11_undo E o_t r_t_tape r_t_script r_t_hairReader r_t_ordersReader r_t_lawReader r_t_doors r_t_town r_t_kept r_t_trial r_t_walk r_t_reach r_t_lawNow r_t_lawSpare r_t_town a_town r_t_kept a_kept t_isKept town_told town_round town_x town_rust town_rooms town_hair town_pins kept_told kept_round kept_x kept_rust kept_rooms kept_hair kept_pins) 0 [(0, .ref o_t)] []
  unfold f_X11_undo at h
  refine g_aload_n (pc := 0) C dX11_undo_0 rfl 0 rfl ?_
  refine g_get (pc := 1) C fl_X11_94 dX11_undo_1 0 rfl rfl ?_
  refine g_if_ne (pc := 4) (tgt := 9) C dX11_undo_4 (by decide) h (fun h => ?_) (fun h => ?_)
  · refine g_aload_n (pc := 9) C dX11_undo_9 rfl 0 rfl ?_
    refine g_get (pc := 10) C fl_X11_51 dX11_undo_10 0 rfl rfl ?_
    refine g_aload_n (pc := 13) C dX11_undo_13 rfl 0 rfl ?_
    refine g_get (pc := 14) C fl_X11_55 dX11_undo_14 0 rfl rfl ?_
    obtain ⟨u1, hu1, h⟩ := bs h
    refine g_callV (pc := 17) (st := []) (st1 := []) (ws' := (W_X11_undo E o_t r_t_tape r_t_script r_t_hairReader r_t_ordersReader r_t_lawReader r_t_doors r_t_town r_t_kept r_t_trial r_t_walk r_t_reach r_t_lawNow r_t_lawSpare r_t_town a_town r_t_kept a_kept t_isKept u1.1 u1.2.1 u1.2.2.1 u1.2.2.2.1 u1.2.2.2.2.1 u1.2.2.2.2.2.1 u1.2.2.2.2.2.2 kept_told kept_round kept_x kept_rust kept_rooms kept_hair kept_pins)) C mv_X9_copy mi_X9_copy ml_X11_188 (c_X9_copy X.2.1 E r_t_town a_town r_t_kept a_kept town_told town_round town_x town_rust town_rooms town_hair town_pins kept_told kept_round kept_x kept_rust kept_rooms kept_hair kept_pins u1 hu1) dX11_undo_17 (by decide) rfl (Nat.le_of_ble_eq_true rfl) 1 8 rfl rfl [1, 2, 3, 4, 5, 6, 7, 8, 9, 10] rfl (by decide) rfl rfl rfl rfl ?_
    refine g_iconst (pc := 20) (v := 1) C dX11_undo_20 (by decide) ?_
    cases h
    exact hret _ _ _ dX11_undo_21 nb1 rfl
  · refine g_iconst (pc := 7) (v := 0) C dX11_undo_7 (by decide) ?_
    cases h
    exact hret _ _ _ dX11_undo_8 nb0 rfl
abbrev W_X11_check (E : GE) (O_t : Nat) (r_t_tape : Nat) (r_t_script : Nat) (r_t_hairReader : Nat) (r_t_ordersReader : Nat) (r_t_lawReader : Nat) (r_t_doors : Nat) (r_t_town : Nat) (r_t_kept : Nat) (r_t_trial : Nat) (r_t_walk : Nat) (r_t_reach : Nat) (r_t_lawNow : Nat) (r_t_lawSpare : Nat) (O_tape : Nat) (a_tape : Nat → Nat) (O_town : Nat) (a_town : Nat → Nat) (t_isKept : Int32) (tape_size : Int32) (tape_bytes : (Nat → Int32)) (town_told : Int32) (town_round : Int32) (town_x : Int32) (town_rooms : (Nat → Int32)) : va_W := [(O_t, ob_X11 r_t_tape r_t_script r_t_hairReader r_t_ordersReader r_t_lawReader r_t_doors r_t_town r_t_kept r_t_trial r_t_walk r_t_reach r_t_lawNow r_t_lawSpare t_isKept), (O_tape, ob_X8 a_tape tape_size), (a_tape 0, .inl (E.2.1, 260, .inl tape_bytes)), (O_town, ob_X9 a_town town_told town_round town_x), (a_town 1, .inl (E.2.1, 10, .inl town_rooms))]
def L_X11_check_28 (tape_size : Int32) (tape_bytes : (Nat → Int32)) (town_told : Int32) (town_rooms : (Nat → Int32)) (x1 : Int32) (k0 : Int32 → Option (Int32 × Int32)) : Nat → Int32 × Int32 → Option (Int32 × Int32) := lp fun go s => if x1 ≤ s.2 then (k0 s.1) else if s.1 = (-1 : Int32) then ((f_X9_isTold town_told s.2).bind fun u2 => jn (fun s3 : Int32 => (f_X8_at tape_size tape_bytes s.2).bind fun u4 => if u4 = s3 then (nm (s.2 + (1 : Int32)) fun v5 => go (s.1, v5)) else nm (s.2 + (1 : Int32)) fun v6 => go (s.2, v6)) fun j63 => if u2 = 0 then (j63 (255 : Int32)) else (f_X9_roomOf town_told town_rooms s.2).bind fun u7 => j63 u7) else k0 s.1
def f_X11_check (tape_size : Int32) (tape_bytes : (Nat → Int32)) (town_told : Int32) (town_rooms : (Nat → Int32)) (x1 : Int32) : Option (Int32 × Int32) := (f_X11_isWithin x1 (0 : Int32) (10 : Int32)).bind fun u1 => if u1 = 0 then (some ((-2 : Int32), tape_size)) else if x1 ≤ tape_size then (L_X11_check_28 tape_size tape_bytes town_told town_rooms x1 (fun s8 => (f_X8_clear tape_size).bind fun u9 => some (s8, u9)) fu ((-1 : Int32), (0 : Int32))) else some ((-2 : Int32), tape_size)
theorem dX11_check_0 : decode cX11_check 0 = .ok (.iload_n 1, 1) := by decide +kernel
theorem dX11_check_1 : decode cX11_check 1 = .ok (.iconst 0, 1) := by decide +kernel
theorem dX11_check_2 : decode cX11_check 2 = .ok (.bipush 10, 2) := by decide +kernel
theorem dX11_check_4 : decode cX11_check 4 = .ok (.invokestatic 98, 3) := by decide +kernel
theorem dX11_check_7 : decode cX11_check 7 = .ok (.ifCond .eq 14, 3) := by decide +kernel
theorem dX11_check_10 : decode cX11_check 10 = .ok (.aload_n 0, 1) := by decide +kernel
theorem dX11_check_11 : decode cX11_check 11 = .ok (.getfield 10, 3) := by decide +kernel
theorem dX11_check_14 : decode cX11_check 14 = .ok (.getfield 106, 3) := by decide +kernel
theorem dX11_check_17 : decode cX11_check 17 = .ok (.iload_n 1, 1) := by decide +kernel
theorem dX11_check_18 : decode cX11_check 18 = .ok (.if_icmp .ge 6, 3) := by decide +kernel
theorem dX11_check_21 : decode cX11_check 21 = .ok (.bipush (-2), 2) := by decide +kernel
theorem dX11_check_23 : decode cX11_check 23 = .ok (.ireturn, 1) := by decide +kernel
theorem dX11_check_24 : decode cX11_check 24 = .ok (.iconst (-1), 1) := by decide +kernel
theorem dX11_check_25 : decode cX11_check 25 = .ok (.istore_n 2, 1) := by decide +kernel
theorem dX11_check_26 : decode cX11_check 26 = .ok (.iconst 0, 1) := by decide +kernel
theorem dX11_check_27 : decode cX11_check 27 = .ok (.istore_n 3, 1) := by decide +kernel
theorem dX11_check_28 : decode cX11_check 28 = .ok (.iload_n 3, 1) := by decide +kernel
theorem dX11_check_29 : decode cX11_check 29 = .ok (.iload_n 1, 1) := by decide +kernel
theorem dX11_check_30 : decode cX11_check 30 = .ok (.if_icmp .ge 56, 3) := by decide +kernel
theorem dX11_check_33 : decode cX11_check 33 = .ok (.iload_n 2, 1) := by decide +kernel
theorem dX11_check_34 : decode cX11_check 34 = .ok (.iconst (-1), 1) := by decide +kernel
theorem dX11_check_35 : decode cX11_check 35 = .ok (.if_icmp .ne 51, 3) := by decide +kernel
theorem dX11_check_38 : decode cX11_check 38 = .ok (.aload_n 0, 1) := by decide +kernel
theorem dX11_check_39 : decode cX11_check 39 = .ok (.getfield 51, 3) := by decide +kernel
theorem dX11_check_42 : decode cX11_check 42 = .ok (.iload_n 3, 1) := by decide +kernel
theorem dX11_check_43 : decode cX11_check 43 = .ok (.invokevirtual 134, 3) := by decide +kernel
theorem dX11_check_46 : decode cX11_check 46 = .ok (.ifCond .eq 14, 3) := by decide +kernel
theorem dX11_check_49 : decode cX11_check 49 = .ok (.aload_n 0, 1) := by decide +kernel
theorem dX11_check_50 : decode cX11_check 50 = .ok (.getfield 51, 3) := by decide +kernel
theorem dX11_check_53 : decode cX11_check 53 = .ok (.iload_n 3, 1) := by decide +kernel
theorem dX11_check_54 : decode cX11_check 54 = .ok (.invokevirtual 195, 3) := by decide +kernel
theorem dX11_check_57 : decode cX11_check 57 = .ok (.goto 6, 3) := by decide +kernel
theorem dX11_check_60 : decode cX11_check 60 = .ok (.sipush 255, 3) := by decide +kernel
theorem dX11_check_63 : decode cX11_check 63 = .ok (.istore 4, 2) := by decide +kernel
theorem dX11_check_65 : decode cX11_check 65 = .ok (.aload_n 0, 1) := by decide +kernel
theorem dX11_check_66 : decode cX11_check 66 = .ok (.getfield 10, 3) := by decide +kernel
theorem dX11_check_69 : decode cX11_check 69 = .ok (.iload_n 3, 1) := by decide +kernel
theorem dX11_check_70 : decode cX11_check 70 = .ok (.invokevirtual 316, 3) := by decide +kernel
theorem dX11_check_73 : decode cX11_check 73 = .ok (.iload 4, 2) := by decide +kernel
theorem dX11_check_75 : decode cX11_check 75 = .ok (.if_icmp .eq 5, 3) := by decide +kernel
theorem dX11_check_78 : decode cX11_check 78 = .ok (.iload_n 3, 1) := by decide +kernel
theorem dX11_check_79 : decode cX11_check 79 = .ok (.istore_n 2, 1) := by decide +kernel
theorem dX11_check_80 : decode cX11_check 80 = .ok (.iinc 3 1, 3) := by decide +kernel
theorem dX11_check_83 : decode cX11_check 83 = .ok (.goto (-55), 3) := by decide +kernel
theorem dX11_check_86 : decode cX11_check 86 = .ok (.aload_n 0, 1) := by decide +kernel
theorem dX11_check_87 : decode cX11_check 87 = .ok (.getfield 10, 3) := by decide +kernel
theorem dX11_check_90 : decode cX11_check 90 = .ok (.invokevirtual 121, 3) := by decide +kernel
theorem dX11_check_93 : decode cX11_check 93 = .ok (.iload_n 2, 1) := by decide +kernel
theorem dX11_check_94 : decode cX11_check 94 = .ok (.ireturn, 1) := by decide +kernel
set_option maxHeartbeats 4000000 in
set_option maxRecDepth 100000 in
theorem kL_X11_check_28 {X : GC} {E : GE} (C : Cx X E cX11_check RX11 3 5) (o_t : Nat) (r_t_tape : Nat) (r_t_script : Nat) (r_t_hairReader : Nat) (r_t_ordersReader : Nat) (r_t_lawReader : Nat) (r_t_doors : Nat) (r_t_town : Nat) (r_t_kept : Nat) (r_t_trial : Nat) (r_t_walk : Nat) (r_t_reach : Nat) (r_t_lawNow : Nat) (r_t_lawSpare : Nat) (a_tape : Nat → Nat) (a_town : Nat → Nat) (t_isKept : Int32) (town_round : Int32) (town_x : Int32) (tape_size : Int32) (tape_bytes : (Nat → Int32)) (town_told : Int32) (town_rooms : (Nat → Int32)) (x1 : Int32) (k0 : Int32 → Option (Int32 × Int32)) {r : Int32 × Int32} (hret : RtI X E cX11_check .int 0 0 (fun w => w = (W_X11_check E o_t r_t_tape r_t_script r_t_hairReader r_t_ordersReader r_t_lawReader r_t_doors r_t_town r_t_kept r_t_trial r_t_walk r_t_reach r_t_lawNow r_t_lawSpare r_t_tape a_tape r_t_town a_town t_isKept r.2 tape_bytes town_told town_round town_x town_rooms)) r.1) (hk0 : ∀ u, k0 u = some r → Gx X E 0 0 (W_X11_check E o_t r_t_tape r_t_script r_t_hairReader r_t_ordersReader r_t_lawReader r_t_doors r_t_town r_t_kept r_t_trial r_t_walk r_t_reach r_t_lawNow r_t_lawSpare r_t_tape a_tape r_t_town a_town t_isKept tape_size tape_bytes town_told town_round town_x town_rooms) 86 [(0, .ref o_t), (2, .int u)] []) : ∀ (n : Nat) (s : Int32 × Int32), L_X11_check_28 tape_size tape_bytes town_told town_rooms x1 k0 n s = some r → Gx X E 0 0 (W_X11_check E o_t r_t_tape r_t_script r_t_hairReader r_t_ordersReader r_t_lawReader r_t_doors r_t_town r_t_kept r_t_trial r_t_walk r_t_reach r_t_lawNow r_t_lawSpare r_t_tape a_tape r_t_town a_town t_isKept tape_size tape_bytes town_told town_round town_x town_rooms) 28 [(0, .ref o_t), (1, .int x1), (2, .int s.1), (3, .int s.2)] [] := by
  unfold L_X11_check_28
  refine lp_ind _ (fun go ih s h => ?_)
  refine g_iload_n (pc := 28) C dX11_check_28 rfl 3 rfl ?_
  refine g_iload_n (pc := 29) C dX11_check_29 rfl 1 rfl ?_
  refine g_icmp_ge (pc := 30) (tgt := 86) C dX11_check_30 (by decide) h (fun h => ?_) (fun h => ?_)
  · refine g_sub [0, 2] rfl ?_
    exact hk0 _ h
  · refine g_iload_n (pc := 33) C dX11_check_33 rfl 2 rfl ?_
    refine g_iconst (pc := 34) (v := -1) C dX11_check_34 (by decide) ?_
    refine g_icmp_ne (pc := 35) (tgt := 86) C dX11_check_35 (by decide) h (fun h => ?_) (fun h => ?_)
    · refine g_sub [0, 2] rfl ?_
      exact hk0 _ h
    · refine g_aload_n (pc := 38) C dX11_check_38 rfl 0 rfl ?_
      refine g_get (pc := 39) C fl_X11_51 dX11_check_39 0 rfl rfl ?_
      refine g_iload_n (pc := 42) C dX11_check_42 rfl 3 rfl ?_
      obtain ⟨u2, hu2, h⟩ := bs h
      refine g_callV (pc := 43) (st := []) (st1 := [.int u2]) (ws' := (W_X11_check E o_t r_t_tape r_t_script r_t_hairReader r_t_ordersReader r_t_lawReader r_t_doors r_t_town r_t_kept r_t_trial r_t_walk r_t_reach r_t_lawNow r_t_lawSpare r_t_tape a_tape r_t_town a_town t_isKept tape_size tape_bytes town_told town_round town_x town_rooms)) C mv_X9_isTold mi_X9_isTold ml_X11_134 (c_X9_isTold X.2.1 E r_t_town a_town town_told town_round town_x s.2 u2 hu2) dX11_check_43 (by decide) rfl (Nat.le_of_ble_eq_true rfl) 3 8 rfl rfl [3] rfl (by decide) rfl rfl rfl rfl ?_
      refine g_jn (fun s3 : Int32 => Gx X E 0 0 (W_X11_check E o_t r_t_tape r_t_script r_t_hairReader r_t_ordersReader r_t_lawReader r_t_doors r_t_town r_t_kept r_t_trial r_t_walk r_t_reach r_t_lawNow r_t_lawSpare r_t_tape a_tape r_t_town a_town t_isKept tape_size tape_bytes town_told town_round town_x town_rooms) 63 [(0, .ref o_t), (1, .int x1), (2, .int s.1), (3, .int s.2)] [.int s3]) h (fun s3 h => ?_) (fun j63 hj63 h => ?_)
      · refine g_istore (pc := 63) (lv' := [(4, .int s3), (0, .ref o_t), (1, .int x1), (2, .int s.1), (3, .int s.2)]) C dX11_check_63 (by decide) rfl ?_
        refine g_aload_n (pc := 65) C dX11_check_65 rfl 1 rfl ?_
        refine g_get (pc := 66) C fl_X11_10 dX11_check_66 0 rfl rfl ?_
        refine g_iload_n (pc := 69) C dX11_check_69 rfl 4 rfl ?_
        obtain ⟨u4, hu4, h⟩ := bs h
        refine g_callV (pc := 70) (st := []) (st1 := [.int u4]) (ws' := (W_X11_check E o_t r_t_tape r_t_script r_t_hairReader r_t_ordersReader r_t_lawReader r_t_doors r_t_town r_t_kept r_t_trial r_t_walk r_t_reach r_t_lawNow r_t_lawSpare r_t_tape a_tape r_t_town a_town t_isKept tape_size tape_bytes town_told town_round town_x town_rooms)) C mv_X8_at mi_X8_at ml_X11_316 (c_X8_at X.2.1 E r_t_tape a_tape tape_size tape_bytes s.2 u4 hu4) dX11_check_70 (by decide) rfl (Nat.le_of_ble_eq_true rfl) 1 7 rfl rfl [1, 2] rfl (by decide) rfl rfl rfl rfl ?_
        refine g_iload (pc := 73) C dX11_check_73 0 rfl ?_
        refine g_icmp_eq (pc := 75) (tgt := 80) C dX11_check_75 (by decide) h (fun h => ?_) (fun h => ?_)
        · refine g_iincn (pc := 80) (j := 4) (d := 1) (lv' := fun v5 => [(3, .int v5), (4, .int s3), (0, .ref o_t), (1, .int x1), (2, .int s.1)]) C dX11_check_80 rfl (by decide) (by decide) (fun _ => rfl) h (fun v5 h => ?_)
          refine g_goto (pc := 83) (tgt := 28) C dX11_check_83 (by decide) ?_
          refine g_sub [2, 3, 4, 0] rfl ?_
          exact ih _ h
        · refine g_iload_n (pc := 78) C dX11_check_78 rfl 4 rfl ?_
          refine g_istore_n (pc := 79) (lv' := [(2, .int s.2), (4, .int s3), (0, .ref o_t), (1, .int x1), (3, .int s.2)]) C dX11_check_79 rfl (by decide) rfl ?_
          refine g_iincn (pc := 80) (j := 4) (d := 1) (lv' := fun v6 => [(3, .int v6), (2, .int s.2), (4, .int s3), (0, .ref o_t), (1, .int x1)]) C dX11_check_80 rfl (by decide) (by decide) (fun _ => rfl) h (fun v6 h => ?_)
          refine g_goto (pc := 83) (tgt := 28) C dX11_check_83 (by decide) ?_
          refine g_sub [3, 4, 1, 0] rfl ?_
          exact ih _ h
      refine g_if_eq (pc := 46) (tgt := 60) C dX11_check_46 (by decide) h (fun h => ?_) (fun h => ?_)
      · refine g_sipush (pc := 60) (v := 255) C dX11_check_60 (by decide) ?_
        exact hj63 _ h
      · refine g_aload_n (pc := 49) C dX11_check_49 rfl 0 rfl ?_
        refine g_get (pc := 50) C fl_X11_51 dX11_check_50 0 rfl rfl ?_
        refine g_iload_n (pc := 53) C dX11_check_53 rfl 3 rfl ?_
        obtain ⟨u7, hu7, h⟩ := bs h
        refine g_callV (pc := 54) (st := []) (st1 := [.int u7]) (ws' := (W_X11_check E o_t r_t_tape r_t_script r_t_hairReader r_t_ordersReader r_t_lawReader r_t_doors r_t_town r_t_kept r_t_trial r_t_walk r_t_reach r_t_lawNow r_t_lawSpare r_t_tape a_tape r_t_town a_town t_isKept tape_size tape_bytes town_told town_round town_x town_rooms)) C mv_X9_roomOf mi_X9_roomOf ml_X11_195 (c_X9_roomOf X.2.1 E r_t_town a_town town_told town_round town_x town_rooms s.2 u7 hu7) dX11_check_54 (by decide) rfl (Nat.le_of_ble_eq_true rfl) 3 8 rfl rfl [3, 4] rfl (by decide) rfl rfl rfl rfl ?_
        refine g_goto (pc := 57) (tgt := 63) C dX11_check_57 (by decide) ?_
        exact hj63 _ h
set_option maxHeartbeats 4000000 in
set_option maxRecDepth 100000 in
theorem c_X11_check (l : Launch) (E : GE) (o_t : Nat) (r_t_tape : Nat) (r_t_script : Nat) (r_t_hairReader : Nat) (r_t_ordersReader : Nat) (r_t_lawReader : Nat) (r_t_doors : Nat) (r_t_town : Nat) (r_t_kept : Nat) (r_t_trial : Nat) (r_t_walk : Nat) (r_t_reach : Nat) (r_t_lawNow : Nat) (r_t_lawSpare : Nat) (a_tape : Nat → Nat) (a_town : Nat → Nat) (t_isKept : Int32) (tape_size : Int32) (tape_bytes : (Nat → Int32)) (town_told : Int32) (town_round : Int32) (town_x : Int32) (town_rooms : (Nat → Int32)) (x1 : Int32) (r : Int32 × Int32) (h : f_X11_check tape_size tape_bytes town_told town_rooms x1 = some r) : Cn l E yX11_check cX11_check 5 (some .int) 3 0 0 [.ref o_t, .int x1] (W_X11_check E o_t r_t_tape r_t_script r_t_hairReader r_t_ordersReader r_t_lawReader r_t_doors r_t_town r_t_kept r_t_trial r_t_walk r_t_reach r_t_lawNow r_t_lawSpare r_t_tape a_tape r_t_town a_town t_isKept tape_size tape_bytes town_told town_round town_x town_rooms) (fun w => w = (W_X11_check E o_t r_t_tape r_t_script r_t_hairReader r_t_ordersReader r_t_lawReader r_t_doors r_t_town r_t_kept r_t_trial r_t_walk r_t_reach r_t_lawNow r_t_lawSpare r_t_tape a_tape r_t_town a_town t_isKept r.2 tape_bytes town_told town_round town_x town_rooms)) (some (.int r.1)) := by
  refine Cn.ofI (by decide +kernel) (Nat.le_of_ble_eq_true rfl) (fun X hX hR C hret => ?_)
  subst hX
  show Gx X E 0 0 (W_X11_check E o_t r_t_tape r_t_script r_t_hairReader r_t_ordersReader r_t_lawReader r_t_doors r_t_town r_t_kept r_t_trial r_t_walk r_t_reach r_t_lawNow r_t_lawSpare r_t_tape a_tape r_t_town a_town t_isKept tape_size tape_bytes town_told town_round town_x town_rooms) 0 [(0, .ref o_t), (1, .int x1)] []
  unfold f_X11_check at h
  refine g_iload_n (pc := 0) C dX11_check_0 rfl 1 rfl ?_
  refine g_iconst (pc := 1) (v := 0) C dX11_check_1 (by decide) ?_
  refine g_bipush (pc := 2) (v := 10) C dX11_check_2 (by decide) ?_
  obtain ⟨u1, hu1, h⟩ := bs h
  refine g_callS (pc := 4) (st := []) (st1 := [.int u1]) (ws' := (W_X11_check E o_t r_t_tape r_t_script r_t_hairReader r_t_ordersReader r_t_lawReader r_t_doors r_t_town r_t_kept r_t_trial r_t_walk r_t_reach r_t_lawNow r_t_lawSpare r_t_tape a_tape r_t_town a_town t_isKept tape_size tape_bytes town_told town_round town_x town_rooms)) C mv_X11_isWithin ms_X11_isWithin ml_X11_98 (c_X11_isWithin X.2.1 E x1 (0 : Int32) (10 : Int32) u1 hu1) dX11_check_4 (by decide) rfl (Nat.le_of_ble_eq_true rfl) [] rfl (by decide) rfl rfl rfl rfl ?_
  refine g_if_eq (pc := 7) (tgt := 21) C dX11_check_7 (by decide) h (fun h => ?_) (fun h => ?_)
  · refine g_bipush (pc := 21) (v := -2) C dX11_check_21 (by decide) ?_
    cases h
    exact hret _ _ _ dX11_check_23 rfl rfl
  · refine g_aload_n (pc := 10) C dX11_check_10 rfl 0 rfl ?_
    refine g_get (pc := 11) C fl_X11_10 dX11_check_11 0 rfl rfl ?_
    refine g_get (pc := 14) C fl_X11_106 dX11_check_14 1 rfl rfl ?_
    refine g_iload_n (pc := 17) C dX11_check_17 rfl 1 rfl ?_
    refine g_icmp_ge (pc := 18) (tgt := 24) C dX11_check_18 (by decide) h (fun h => ?_) (fun h => ?_)
    · refine g_iconst (pc := 24) (v := -1) C dX11_check_24 (by decide) ?_
      refine g_istore_n (pc := 25) (lv' := [(2, .int (-1 : Int32)), (0, .ref o_t), (1, .int x1)]) C dX11_check_25 rfl (by decide) rfl ?_
      refine g_iconst (pc := 26) (v := 0) C dX11_check_26 (by decide) ?_
      refine g_istore_n (pc := 27) (lv' := [(3, .int (0 : Int32)), (2, .int (-1 : Int32)), (0, .ref o_t), (1, .int x1)]) C dX11_check_27 rfl (by decide) rfl ?_
      refine g_sub [2, 3, 1, 0] rfl ?_
      refine kL_X11_check_28 C o_t r_t_tape r_t_script r_t_hairReader r_t_ordersReader r_t_lawReader r_t_doors r_t_town r_t_kept r_t_trial r_t_walk r_t_reach r_t_lawNow r_t_lawSpare a_tape a_town t_isKept town_round town_x tape_size tape_bytes town_told town_rooms x1 _ hret (fun s8 h => ?_) _ _ h
      refine g_aload_n (pc := 86) C dX11_check_86 rfl 0 rfl ?_
      refine g_get (pc := 87) C fl_X11_10 dX11_check_87 0 rfl rfl ?_
      obtain ⟨u9, hu9, h⟩ := bs h
      refine g_callV (pc := 90) (st := []) (st1 := []) (ws' := (W_X11_check E o_t r_t_tape r_t_script r_t_hairReader r_t_ordersReader r_t_lawReader r_t_doors r_t_town r_t_kept r_t_trial r_t_walk r_t_reach r_t_lawNow r_t_lawSpare r_t_tape a_tape r_t_town a_town t_isKept u9 tape_bytes town_told town_round town_x town_rooms)) C mv_X8_clear mi_X8_clear ml_X11_121 (c_X8_clear X.2.1 E r_t_tape a_tape tape_size u9 hu9) dX11_check_90 (by decide) rfl (Nat.le_of_ble_eq_true rfl) 1 7 rfl rfl [1] rfl (by decide) rfl rfl rfl rfl ?_
      refine g_iload_n (pc := 93) C dX11_check_93 rfl 1 rfl ?_
      cases h
      exact hret _ _ _ dX11_check_94 rfl rfl
    · refine g_bipush (pc := 21) (v := -2) C dX11_check_21 (by decide) ?_
      cases h
      exact hret _ _ _ dX11_check_23 rfl rfl
abbrev W_X11_count (E : GE) (O_t : Nat) (r_t_tape : Nat) (r_t_script : Nat) (r_t_hairReader : Nat) (r_t_ordersReader : Nat) (r_t_lawReader : Nat) (r_t_doors : Nat) (r_t_town : Nat) (r_t_kept : Nat) (r_t_trial : Nat) (r_t_walk : Nat) (r_t_reach : Nat) (r_t_lawNow : Nat) (r_t_lawSpare : Nat) (O_tape : Nat) (a_tape : Nat → Nat) (O_doors : Nat) (a_doors : Nat → Nat) (O_town : Nat) (a_town : Nat → Nat) (O_lawNow : Nat) (a_lawNow : Nat → Nat) (t_isKept : Int32) (tape_size : Int32) (doors_told : Int32) (doors_barred : Int32) (town_told : Int32) (town_round : Int32) (town_x : Int32) (town_rooms : (Nat → Int32)) (town_pins : (Nat → Int32)) (lawNow_size : Int32) (lawNow_rules : Int32) : va_W := [(O_t, ob_X11 r_t_tape r_t_script r_t_hairReader r_t_ordersReader r_t_lawReader r_t_doors r_t_town r_t_kept r_t_trial r_t_walk r_t_reach r_t_lawNow r_t_lawSpare t_isKept), (O_tape, ob_X8 a_tape tape_size), (O_doors, ob_X0 a_doors doors_told doors_barred), (O_town, ob_X9 a_town town_told town_round town_x), (a_town 1, .inl (E.2.1, 10, .inl town_rooms)), (a_town 3, .inl (E.2.1, 60, .inl town_pins)), (O_lawNow, ob_X2 a_lawNow lawNow_size lawNow_rules)]
def f_X11_count (tape_size : Int32) (doors_told : Int32) (doors_barred : Int32) (town_told : Int32) (town_round : Int32) (town_x : Int32) (town_rooms : (Nat → Int32)) (town_pins : (Nat → Int32)) (lawNow_rules : Int32) (x1 : Int32) : Option (Int32) := if x1 = (0 : Int32) then (some town_round) else if x1 = (1 : Int32) then (some town_told) else if x1 = (2 : Int32) then (some doors_told) else if x1 = (3 : Int32) then (some doors_barred) else if x1 = (4 : Int32) then ((f_X9_pinsOfAll town_pins).bind fun u6 => some u6) else if x1 = (5 : Int32) then (some lawNow_rules) else if x1 = (6 : Int32) then (some tape_size) else if x1 = (7 : Int32) then (some town_x) else (f_X11_isWithin x1 (10 : Int32) (25 : Int32)).bind fun u10 => if u10 = 0 then (some (-1 : Int32)) else (f_X9_inRoom town_told town_rooms (x1 - (10 : Int32))).bind fun u11 => some u11
theorem dX11_count_0 : decode cX11_count 0 = .ok (.iload_n 1, 1) := by decide +kernel
theorem dX11_count_1 : decode cX11_count 1 = .ok (.tableswitch 111 0 7 #[47, 55, 63, 71, 79, 87, 95, 103], 47) := by decide +kernel
theorem dX11_count_48 : decode cX11_count 48 = .ok (.aload_n 0, 1) := by decide +kernel
theorem dX11_count_49 : decode cX11_count 49 = .ok (.getfield 51, 3) := by decide +kernel
theorem dX11_count_52 : decode cX11_count 52 = .ok (.getfield 313, 3) := by decide +kernel
theorem dX11_count_55 : decode cX11_count 55 = .ok (.ireturn, 1) := by decide +kernel
theorem dX11_count_56 : decode cX11_count 56 = .ok (.aload_n 0, 1) := by decide +kernel
theorem dX11_count_57 : decode cX11_count 57 = .ok (.getfield 51, 3) := by decide +kernel
theorem dX11_count_60 : decode cX11_count 60 = .ok (.getfield 319, 3) := by decide +kernel
theorem dX11_count_63 : decode cX11_count 63 = .ok (.ireturn, 1) := by decide +kernel
theorem dX11_count_64 : decode cX11_count 64 = .ok (.aload_n 0, 1) := by decide +kernel
theorem dX11_count_65 : decode cX11_count 65 = .ok (.getfield 44, 3) := by decide +kernel
theorem dX11_count_68 : decode cX11_count 68 = .ok (.getfield 152, 3) := by decide +kernel
theorem dX11_count_71 : decode cX11_count 71 = .ok (.ireturn, 1) := by decide +kernel
theorem dX11_count_72 : decode cX11_count 72 = .ok (.aload_n 0, 1) := by decide +kernel
theorem dX11_count_73 : decode cX11_count 73 = .ok (.getfield 44, 3) := by decide +kernel
theorem dX11_count_76 : decode cX11_count 76 = .ok (.getfield 212, 3) := by decide +kernel
theorem dX11_count_79 : decode cX11_count 79 = .ok (.ireturn, 1) := by decide +kernel
theorem dX11_count_80 : decode cX11_count 80 = .ok (.aload_n 0, 1) := by decide +kernel
theorem dX11_count_81 : decode cX11_count 81 = .ok (.getfield 51, 3) := by decide +kernel
theorem dX11_count_84 : decode cX11_count 84 = .ok (.invokevirtual 171, 3) := by decide +kernel
theorem dX11_count_87 : decode cX11_count 87 = .ok (.ireturn, 1) := by decide +kernel
theorem dX11_count_88 : decode cX11_count 88 = .ok (.aload_n 0, 1) := by decide +kernel
theorem dX11_count_89 : decode cX11_count 89 = .ok (.getfield 78, 3) := by decide +kernel
theorem dX11_count_92 : decode cX11_count 92 = .ok (.getfield 131, 3) := by decide +kernel
theorem dX11_count_95 : decode cX11_count 95 = .ok (.ireturn, 1) := by decide +kernel
theorem dX11_count_96 : decode cX11_count 96 = .ok (.aload_n 0, 1) := by decide +kernel
theorem dX11_count_97 : decode cX11_count 97 = .ok (.getfield 10, 3) := by decide +kernel
theorem dX11_count_100 : decode cX11_count 100 = .ok (.getfield 106, 3) := by decide +kernel
theorem dX11_count_103 : decode cX11_count 103 = .ok (.ireturn, 1) := by decide +kernel
theorem dX11_count_104 : decode cX11_count 104 = .ok (.aload_n 0, 1) := by decide +kernel
theorem dX11_count_105 : decode cX11_count 105 = .ok (.getfield 51, 3) := by decide +kernel
theorem dX11_count_108 : decode cX11_count 108 = .ok (.getfield 310, 3) := by decide +kernel
theorem dX11_count_111 : decode cX11_count 111 = .ok (.ireturn, 1) := by decide +kernel
theorem dX11_count_112 : decode cX11_count 112 = .ok (.iload_n 1, 1) := by decide +kernel
theorem dX11_count_113 : decode cX11_count 113 = .ok (.bipush 10, 2) := by decide +kernel
theorem dX11_count_115 : decode cX11_count 115 = .ok (.bipush 25, 2) := by decide +kernel
theorem dX11_count_117 : decode cX11_count 117 = .ok (.invokestatic 98, 3) := by decide +kernel
theorem dX11_count_120 : decode cX11_count 120 = .ok (.ifCond .eq 17, 3) := by decide +kernel
theorem dX11_count_123 : decode cX11_count 123 = .ok (.aload_n 0, 1) := by decide +kernel
theorem dX11_count_124 : decode cX11_count 124 = .ok (.getfield 51, 3) := by decide +kernel
theorem dX11_count_127 : decode cX11_count 127 = .ok (.iload_n 1, 1) := by decide +kernel
theorem dX11_count_128 : decode cX11_count 128 = .ok (.bipush 10, 2) := by decide +kernel
theorem dX11_count_130 : decode cX11_count 130 = .ok (.isub, 1) := by decide +kernel
theorem dX11_count_131 : decode cX11_count 131 = .ok (.invokevirtual 320, 3) := by decide +kernel
theorem dX11_count_134 : decode cX11_count 134 = .ok (.goto 4, 3) := by decide +kernel
theorem dX11_count_137 : decode cX11_count 137 = .ok (.iconst (-1), 1) := by decide +kernel
theorem dX11_count_138 : decode cX11_count 138 = .ok (.ireturn, 1) := by decide +kernel
set_option maxHeartbeats 4000000 in
set_option maxRecDepth 100000 in
theorem c_X11_count (l : Launch) (E : GE) (o_t : Nat) (r_t_tape : Nat) (r_t_script : Nat) (r_t_hairReader : Nat) (r_t_ordersReader : Nat) (r_t_lawReader : Nat) (r_t_doors : Nat) (r_t_town : Nat) (r_t_kept : Nat) (r_t_trial : Nat) (r_t_walk : Nat) (r_t_reach : Nat) (r_t_lawNow : Nat) (r_t_lawSpare : Nat) (a_tape : Nat → Nat) (a_doors : Nat → Nat) (a_town : Nat → Nat) (a_lawNow : Nat → Nat) (t_isKept : Int32) (tape_size : Int32) (doors_told : Int32) (doors_barred : Int32) (town_told : Int32) (town_round : Int32) (town_x : Int32) (town_rooms : (Nat → Int32)) (town_pins : (Nat → Int32)) (lawNow_size : Int32) (lawNow_rules : Int32) (x1 : Int32) (r : Int32) (h : f_X11_count tape_size doors_told doors_barred town_told town_round town_x town_rooms town_pins lawNow_rules x1 = some r) : Cn l E yX11_count cX11_count 2 (some .int) 3 0 0 [.ref o_t, .int x1] (W_X11_count E o_t r_t_tape r_t_script r_t_hairReader r_t_ordersReader r_t_lawReader r_t_doors r_t_town r_t_kept r_t_trial r_t_walk r_t_reach r_t_lawNow r_t_lawSpare r_t_tape a_tape r_t_doors a_doors r_t_town a_town r_t_lawNow a_lawNow t_isKept tape_size doors_told doors_barred town_told town_round town_x town_rooms town_pins lawNow_size lawNow_rules) (fun w => w = (W_X11_count E o_t r_t_tape r_t_script r_t_hairReader r_t_ordersReader r_t_lawReader r_t_doors r_t_town r_t_kept r_t_trial r_t_walk r_t_reach r_t_lawNow r_t_lawSpare r_t_tape a_tape r_t_doors a_doors r_t_town a_town r_t_lawNow a_lawNow t_isKept tape_size doors_told doors_barred town_told town_round town_x town_rooms town_pins lawNow_size lawNow_rules)) (some (.int r)) := by
  refine Cn.ofI (by decide +kernel) (Nat.le_of_ble_eq_true rfl) (fun X hX hR C hret => ?_)
  subst hX
  show Gx X E 0 0 (W_X11_count E o_t r_t_tape r_t_script r_t_hairReader r_t_ordersReader r_t_lawReader r_t_doors r_t_town r_t_kept r_t_trial r_t_walk r_t_reach r_t_lawNow r_t_lawSpare r_t_tape a_tape r_t_doors a_doors r_t_town a_town r_t_lawNow a_lawNow t_isKept tape_size doors_told doors_barred town_told town_round town_x town_rooms town_pins lawNow_size lawNow_rules) 0 [(0, .ref o_t), (1, .int x1)] []
  unfold f_X11_count at h
  refine g_iload_n (pc := 0) C dX11_count_0 rfl 1 rfl ?_
  rcases ite_cs h with ⟨c1, h⟩ | ⟨c1, h⟩
  · refine g_tabHit (pc := 1) (tgt := 48) C 0 c1 dX11_count_1 (by decide) (by decide) rfl (by decide) ?_
    refine g_aload_n (pc := 48) C dX11_count_48 rfl 0 rfl ?_
    refine g_get (pc := 49) C fl_X11_51 dX11_count_49 0 rfl rfl ?_
    refine g_get (pc := 52) C fl_X11_313 dX11_count_52 3 rfl rfl ?_
    cases h
    exact hret _ _ _ dX11_count_55 rfl rfl
  rcases ite_cs h with ⟨c2, h⟩ | ⟨c2, h⟩
  · refine g_tabHit (pc := 1) (tgt := 56) C 1 c2 dX11_count_1 (by decide) (by decide) rfl (by decide) ?_
    refine g_aload_n (pc := 56) C dX11_count_56 rfl 0 rfl ?_
    refine g_get (pc := 57) C fl_X11_51 dX11_count_57 0 rfl rfl ?_
    refine g_get (pc := 60) C fl_X11_319 dX11_count_60 3 rfl rfl ?_
    cases h
    exact hret _ _ _ dX11_count_63 rfl rfl
  rcases ite_cs h with ⟨c3, h⟩ | ⟨c3, h⟩
  · refine g_tabHit (pc := 1) (tgt := 64) C 2 c3 dX11_count_1 (by decide) (by decide) rfl (by decide) ?_
    refine g_aload_n (pc := 64) C dX11_count_64 rfl 0 rfl ?_
    refine g_get (pc := 65) C fl_X11_44 dX11_count_65 0 rfl rfl ?_
    refine g_get (pc := 68) C fl_X11_152 dX11_count_68 2 rfl rfl ?_
    cases h
    exact hret _ _ _ dX11_count_71 rfl rfl
  rcases ite_cs h with ⟨c4, h⟩ | ⟨c4, h⟩
  · refine g_tabHit (pc := 1) (tgt := 72) C 3 c4 dX11_count_1 (by decide) (by decide) rfl (by decide) ?_
    refine g_aload_n (pc := 72) C dX11_count_72 rfl 0 rfl ?_
    refine g_get (pc := 73) C fl_X11_44 dX11_count_73 0 rfl rfl ?_
    refine g_get (pc := 76) C fl_X11_212 dX11_count_76 2 rfl rfl ?_
    cases h
    exact hret _ _ _ dX11_count_79 rfl rfl
  rcases ite_cs h with ⟨c5, h⟩ | ⟨c5, h⟩
  · refine g_tabHit (pc := 1) (tgt := 80) C 4 c5 dX11_count_1 (by decide) (by decide) rfl (by decide) ?_
    refine g_aload_n (pc := 80) C dX11_count_80 rfl 0 rfl ?_
    refine g_get (pc := 81) C fl_X11_51 dX11_count_81 0 rfl rfl ?_
    obtain ⟨u6, hu6, h⟩ := bs h
    refine g_callV (pc := 84) (st := []) (st1 := [.int u6]) (ws' := (W_X11_count E o_t r_t_tape r_t_script r_t_hairReader r_t_ordersReader r_t_lawReader r_t_doors r_t_town r_t_kept r_t_trial r_t_walk r_t_reach r_t_lawNow r_t_lawSpare r_t_tape a_tape r_t_doors a_doors r_t_town a_town r_t_lawNow a_lawNow t_isKept tape_size doors_told doors_barred town_told town_round town_x town_rooms town_pins lawNow_size lawNow_rules)) C mv_X9_pinsOfAll mi_X9_pinsOfAll ml_X11_171 (c_X9_pinsOfAll X.2.1 E r_t_town a_town town_told town_round town_x town_pins u6 hu6) dX11_count_84 (by decide) rfl (Nat.le_of_ble_eq_true rfl) 3 8 rfl rfl [3, 5] rfl (by decide) rfl rfl rfl rfl ?_
    cases h
    exact hret _ _ _ dX11_count_87 rfl rfl
  rcases ite_cs h with ⟨c7, h⟩ | ⟨c7, h⟩
  · refine g_tabHit (pc := 1) (tgt := 88) C 5 c7 dX11_count_1 (by decide) (by decide) rfl (by decide) ?_
    refine g_aload_n (pc := 88) C dX11_count_88 rfl 0 rfl ?_
    refine g_get (pc := 89) C fl_X11_78 dX11_count_89 0 rfl rfl ?_
    refine g_get (pc := 92) C fl_X11_131 dX11_count_92 6 rfl rfl ?_
    cases h
    exact hret _ _ _ dX11_count_95 rfl rfl
  rcases ite_cs h with ⟨c8, h⟩ | ⟨c8, h⟩
  · refine g_tabHit (pc := 1) (tgt := 96) C 6 c8 dX11_count_1 (by decide) (by decide) rfl (by decide) ?_
    refine g_aload_n (pc := 96) C dX11_count_96 rfl 0 rfl ?_
    refine g_get (pc := 97) C fl_X11_10 dX11_count_97 0 rfl rfl ?_
    refine g_get (pc := 100) C fl_X11_106 dX11_count_100 1 rfl rfl ?_
    cases h
    exact hret _ _ _ dX11_count_103 rfl rfl
  rcases ite_cs h with ⟨c9, h⟩ | ⟨c9, h⟩
  · refine g_tabHit (pc := 1) (tgt := 104) C 7 c9 dX11_count_1 (by decide) (by decide) rfl (by decide) ?_
    refine g_aload_n (pc := 104) C dX11_count_104 rfl 0 rfl ?_
    refine g_get (pc := 105) C fl_X11_51 dX11_count_105 0 rfl rfl ?_
    refine g_get (pc := 108) C fl_X11_310 dX11_count_108 3 rfl rfl ?_
    cases h
    exact hret _ _ _ dX11_count_111 rfl rfl
  have nc1 := lv_neT c1 (a := 0) rfl
  have nc2 := lv_neT c2 (a := 1) rfl
  have nc3 := lv_neT c3 (a := 2) rfl
  have nc4 := lv_neT c4 (a := 3) rfl
  have nc5 := lv_neT c5 (a := 4) rfl
  have nc7 := lv_neT c7 (a := 5) rfl
  have nc8 := lv_neT c8 (a := 6) rfl
  have nc9 := lv_neT c9 (a := 7) rfl
  refine g_tabMiss (pc := 1) (tgt := 112) C dX11_count_1 (by omega) (by decide) ?_
  refine g_iload_n (pc := 112) C dX11_count_112 rfl 1 rfl ?_
  refine g_bipush (pc := 113) (v := 10) C dX11_count_113 (by decide) ?_
  refine g_bipush (pc := 115) (v := 25) C dX11_count_115 (by decide) ?_
  obtain ⟨u10, hu10, h⟩ := bs h
  refine g_callS (pc := 117) (st := []) (st1 := [.int u10]) (ws' := (W_X11_count E o_t r_t_tape r_t_script r_t_hairReader r_t_ordersReader r_t_lawReader r_t_doors r_t_town r_t_kept r_t_trial r_t_walk r_t_reach r_t_lawNow r_t_lawSpare r_t_tape a_tape r_t_doors a_doors r_t_town a_town r_t_lawNow a_lawNow t_isKept tape_size doors_told doors_barred town_told town_round town_x town_rooms town_pins lawNow_size lawNow_rules)) C mv_X11_isWithin ms_X11_isWithin ml_X11_98 (c_X11_isWithin X.2.1 E x1 (10 : Int32) (25 : Int32) u10 hu10) dX11_count_117 (by decide) rfl (Nat.le_of_ble_eq_true rfl) [] rfl (by decide) rfl rfl rfl rfl ?_
  refine g_if_eq (pc := 120) (tgt := 137) C dX11_count_120 (by decide) h (fun h => ?_) (fun h => ?_)
  · refine g_iconst (pc := 137) (v := -1) C dX11_count_137 (by decide) ?_
    cases h
    exact hret _ _ _ dX11_count_138 rfl rfl
  · refine g_aload_n (pc := 123) C dX11_count_123 rfl 0 rfl ?_
    refine g_get (pc := 124) C fl_X11_51 dX11_count_124 0 rfl rfl ?_
    refine g_iload_n (pc := 127) C dX11_count_127 rfl 1 rfl ?_
    refine g_bipush (pc := 128) (v := 10) C dX11_count_128 (by decide) ?_
    refine g_isub (pc := 130) C dX11_count_130 ?_
    obtain ⟨u11, hu11, h⟩ := bs h
    refine g_callV (pc := 131) (st := []) (st1 := [.int u11]) (ws' := (W_X11_count E o_t r_t_tape r_t_script r_t_hairReader r_t_ordersReader r_t_lawReader r_t_doors r_t_town r_t_kept r_t_trial r_t_walk r_t_reach r_t_lawNow r_t_lawSpare r_t_tape a_tape r_t_doors a_doors r_t_town a_town r_t_lawNow a_lawNow t_isKept tape_size doors_told doors_barred town_told town_round town_x town_rooms town_pins lawNow_size lawNow_rules)) C mv_X9_inRoom mi_X9_inRoom ml_X11_320 (c_X9_inRoom X.2.1 E r_t_town a_town town_told town_round town_x town_rooms (x1 - (10 : Int32)) u11 hu11) dX11_count_131 (by decide) rfl (Nat.le_of_ble_eq_true rfl) 3 8 rfl rfl [3, 4] rfl (by decide) rfl rfl rfl rfl ?_
    refine g_goto (pc := 134) (tgt := 138) C dX11_count_134 (by decide) ?_
    cases h
    exact hret _ _ _ dX11_count_138 rfl rfl
abbrev W_X11_landings (E : GE) (O_t : Nat) (r_t_tape : Nat) (r_t_script : Nat) (r_t_hairReader : Nat) (r_t_ordersReader : Nat) (r_t_lawReader : Nat) (r_t_doors : Nat) (r_t_town : Nat) (r_t_kept : Nat) (r_t_trial : Nat) (r_t_walk : Nat) (r_t_reach : Nat) (r_t_lawNow : Nat) (r_t_lawSpare : Nat) (O_doors : Nat) (a_doors : Nat → Nat) (t_isKept : Int32) (doors_told : Int32) (doors_barred : Int32) (doors_one : (Nat → Int32)) (doors_other : (Nat → Int32)) : va_W := [(O_t, ob_X11 r_t_tape r_t_script r_t_hairReader r_t_ordersReader r_t_lawReader r_t_doors r_t_town r_t_kept r_t_trial r_t_walk r_t_reach r_t_lawNow r_t_lawSpare t_isKept), (O_doors, ob_X0 a_doors doors_told doors_barred), (a_doors 0, .inl (E.2.1, 24, .inl doors_one)), (a_doors 1, .inl (E.2.1, 24, .inl doors_other))]
def f_X11_landings (doors_told : Int32) (doors_barred : Int32) (doors_one : (Nat → Int32)) (doors_other : (Nat → Int32)) (x1 : Int32) : Option (Int32) := (f_X11_isWithin x1 (0 : Int32) (15 : Int32)).bind fun u1 => if u1 = 0 then (if x1 = (100 : Int32) then ((f_X0_groups doors_told doors_barred doors_one doors_other).bind fun u6 => some u6) else if x1 = (101 : Int32) then ((f_X0_onlyWays doors_told doors_barred doors_one doors_other).bind fun u4 => (f_J6_bitCount_0f7a4 u4).bind fun u5 => some u5) else if x1 = (102 : Int32) then ((f_X0_onlyWays doors_told doors_barred doors_one doors_other).bind fun u2 => if u2 = 0 then (some (-2 : Int32)) else (f_J6_numberOfTrailingZeros_0f7a4 u2).bind fun u3 => some u3) else some (-1 : Int32)) else (f_X0_unbarred doors_told doors_barred).bind fun u7 => (f_X0_groupOf doors_one doors_other x1 u7).bind fun u8 => some u8
theorem dX11_landings_0 : decode cX11_landings 0 = .ok (.iload_n 1, 1) := by decide +kernel
theorem dX11_landings_1 : decode cX11_landings 1 = .ok (.iconst 0, 1) := by decide +kernel
theorem dX11_landings_2 : decode cX11_landings 2 = .ok (.bipush 15, 2) := by decide +kernel
theorem dX11_landings_4 : decode cX11_landings 4 = .ok (.invokestatic 98, 3) := by decide +kernel
theorem dX11_landings_7 : decode cX11_landings 7 = .ok (.ifCond .eq 19, 3) := by decide +kernel
theorem dX11_landings_10 : decode cX11_landings 10 = .ok (.aload_n 0, 1) := by decide +kernel
theorem dX11_landings_11 : decode cX11_landings 11 = .ok (.getfield 44, 3) := by decide +kernel
theorem dX11_landings_14 : decode cX11_landings 14 = .ok (.iload_n 1, 1) := by decide +kernel
theorem dX11_landings_15 : decode cX11_landings 15 = .ok (.aload_n 0, 1) := by decide +kernel
theorem dX11_landings_16 : decode cX11_landings 16 = .ok (.getfield 44, 3) := by decide +kernel
theorem dX11_landings_19 : decode cX11_landings 19 = .ok (.invokevirtual 238, 3) := by decide +kernel
theorem dX11_landings_22 : decode cX11_landings 22 = .ok (.invokevirtual 261, 3) := by decide +kernel
theorem dX11_landings_25 : decode cX11_landings 25 = .ok (.ireturn, 1) := by decide +kernel
theorem dX11_landings_26 : decode cX11_landings 26 = .ok (.iload_n 1, 1) := by decide +kernel
theorem dX11_landings_27 : decode cX11_landings 27 = .ok (.bipush 100, 2) := by decide +kernel
theorem dX11_landings_29 : decode cX11_landings 29 = .ok (.if_icmp .ne 11, 3) := by decide +kernel
theorem dX11_landings_32 : decode cX11_landings 32 = .ok (.aload_n 0, 1) := by decide +kernel
theorem dX11_landings_33 : decode cX11_landings 33 = .ok (.getfield 44, 3) := by decide +kernel
theorem dX11_landings_36 : decode cX11_landings 36 = .ok (.invokevirtual 264, 3) := by decide +kernel
theorem dX11_landings_39 : decode cX11_landings 39 = .ok (.ireturn, 1) := by decide +kernel
theorem dX11_landings_40 : decode cX11_landings 40 = .ok (.iload_n 1, 1) := by decide +kernel
theorem dX11_landings_41 : decode cX11_landings 41 = .ok (.bipush 101, 2) := by decide +kernel
theorem dX11_landings_43 : decode cX11_landings 43 = .ok (.if_icmp .ne 14, 3) := by decide +kernel
theorem dX11_landings_46 : decode cX11_landings 46 = .ok (.aload_n 0, 1) := by decide +kernel
theorem dX11_landings_47 : decode cX11_landings 47 = .ok (.getfield 44, 3) := by decide +kernel
theorem dX11_landings_50 : decode cX11_landings 50 = .ok (.invokevirtual 267, 3) := by decide +kernel
theorem dX11_landings_53 : decode cX11_landings 53 = .ok (.invokestatic 250, 3) := by decide +kernel
theorem dX11_landings_56 : decode cX11_landings 56 = .ok (.ireturn, 1) := by decide +kernel
theorem dX11_landings_57 : decode cX11_landings 57 = .ok (.iload_n 1, 1) := by decide +kernel
theorem dX11_landings_58 : decode cX11_landings 58 = .ok (.bipush 102, 2) := by decide +kernel
theorem dX11_landings_60 : decode cX11_landings 60 = .ok (.if_icmp .ne 25, 3) := by decide +kernel
theorem dX11_landings_63 : decode cX11_landings 63 = .ok (.aload_n 0, 1) := by decide +kernel
theorem dX11_landings_64 : decode cX11_landings 64 = .ok (.getfield 44, 3) := by decide +kernel
theorem dX11_landings_67 : decode cX11_landings 67 = .ok (.invokevirtual 267, 3) := by decide +kernel
theorem dX11_landings_70 : decode cX11_landings 70 = .ok (.istore_n 2, 1) := by decide +kernel
theorem dX11_landings_71 : decode cX11_landings 71 = .ok (.iload_n 2, 1) := by decide +kernel
theorem dX11_landings_72 : decode cX11_landings 72 = .ok (.ifCond .ne 8, 3) := by decide +kernel
theorem dX11_landings_75 : decode cX11_landings 75 = .ok (.bipush (-2), 2) := by decide +kernel
theorem dX11_landings_77 : decode cX11_landings 77 = .ok (.goto 7, 3) := by decide +kernel
theorem dX11_landings_80 : decode cX11_landings 80 = .ok (.iload_n 2, 1) := by decide +kernel
theorem dX11_landings_81 : decode cX11_landings 81 = .ok (.invokestatic 270, 3) := by decide +kernel
theorem dX11_landings_84 : decode cX11_landings 84 = .ok (.ireturn, 1) := by decide +kernel
theorem dX11_landings_85 : decode cX11_landings 85 = .ok (.iconst (-1), 1) := by decide +kernel
theorem dX11_landings_86 : decode cX11_landings 86 = .ok (.ireturn, 1) := by decide +kernel
set_option maxHeartbeats 4000000 in
set_option maxRecDepth 100000 in
theorem c_X11_landings (l : Launch) (E : GE) (o_t : Nat) (r_t_tape : Nat) (r_t_script : Nat) (r_t_hairReader : Nat) (r_t_ordersReader : Nat) (r_t_lawReader : Nat) (r_t_doors : Nat) (r_t_town : Nat) (r_t_kept : Nat) (r_t_trial : Nat) (r_t_walk : Nat) (r_t_reach : Nat) (r_t_lawNow : Nat) (r_t_lawSpare : Nat) (a_doors : Nat → Nat) (t_isKept : Int32) (doors_told : Int32) (doors_barred : Int32) (doors_one : (Nat → Int32)) (doors_other : (Nat → Int32)) (x1 : Int32) (r : Int32) (h : f_X11_landings doors_told doors_barred doors_one doors_other x1 = some r) : Cn l E yX11_landings cX11_landings 3 (some .int) 3 0 0 [.ref o_t, .int x1] (W_X11_landings E o_t r_t_tape r_t_script r_t_hairReader r_t_ordersReader r_t_lawReader r_t_doors r_t_town r_t_kept r_t_trial r_t_walk r_t_reach r_t_lawNow r_t_lawSpare r_t_doors a_doors t_isKept doors_told doors_barred doors_one doors_other) (fun w => w = (W_X11_landings E o_t r_t_tape r_t_script r_t_hairReader r_t_ordersReader r_t_lawReader r_t_doors r_t_town r_t_kept r_t_trial r_t_walk r_t_reach r_t_lawNow r_t_lawSpare r_t_doors a_doors t_isKept doors_told doors_barred doors_one doors_other)) (some (.int r)) := by
  refine Cn.ofI (by decide +kernel) (Nat.le_of_ble_eq_true rfl) (fun X hX hR C hret => ?_)
  subst hX
  show Gx X E 0 0 (W_X11_landings E o_t r_t_tape r_t_script r_t_hairReader r_t_ordersReader r_t_lawReader r_t_doors r_t_town r_t_kept r_t_trial r_t_walk r_t_reach r_t_lawNow r_t_lawSpare r_t_doors a_doors t_isKept doors_told doors_barred doors_one doors_other) 0 [(0, .ref o_t), (1, .int x1)] []
  unfold f_X11_landings at h
  refine g_iload_n (pc := 0) C dX11_landings_0 rfl 1 rfl ?_
  refine g_iconst (pc := 1) (v := 0) C dX11_landings_1 (by decide) ?_
  refine g_bipush (pc := 2) (v := 15) C dX11_landings_2 (by decide) ?_
  obtain ⟨u1, hu1, h⟩ := bs h
  refine g_callS (pc := 4) (st := []) (st1 := [.int u1]) (ws' := (W_X11_landings E o_t r_t_tape r_t_script r_t_hairReader r_t_ordersReader r_t_lawReader r_t_doors r_t_town r_t_kept r_t_trial r_t_walk r_t_reach r_t_lawNow r_t_lawSpare r_t_doors a_doors t_isKept doors_told doors_barred doors_one doors_other)) C mv_X11_isWithin ms_X11_isWithin ml_X11_98 (c_X11_isWithin X.2.1 E x1 (0 : Int32) (15 : Int32) u1 hu1) dX11_landings_4 (by decide) rfl (Nat.le_of_ble_eq_true rfl) [] rfl (by decide) rfl rfl rfl rfl ?_
  refine g_if_eq (pc := 7) (tgt := 26) C dX11_landings_7 (by decide) h (fun h => ?_) (fun h => ?_)
  · refine g_iload_n (pc := 26) C dX11_landings_26 rfl 1 rfl ?_
    refine g_bipush (pc := 27) (v := 100) C dX11_landings_27 (by decide) ?_
    refine g_icmp_ne (pc := 29) (tgt := 40) C dX11_landings_29 (by decide) h (fun h => ?_) (fun h => ?_)
    · refine g_iload_n (pc := 40) C dX11_landings_40 rfl 1 rfl ?_
      refine g_bipush (pc := 41) (v := 101) C dX11_landings_41 (by decide) ?_
      refine g_icmp_ne (pc := 43) (tgt := 57) C dX11_landings_43 (by decide) h (fun h => ?_) (fun h => ?_)
      · refine g_iload_n (pc := 57) C dX11_landings_57 rfl 1 rfl ?_
        refine g_bipush (pc := 58) (v := 102) C dX11_landings_58 (by decide) ?_
        refine g_icmp_ne (pc := 60) (tgt := 85) C dX11_landings_60 (by decide) h (fun h => ?_) (fun h => ?_)
        · refine g_iconst (pc := 85) (v := -1) C dX11_landings_85 (by decide) ?_
          cases h
          exact hret _ _ _ dX11_landings_86 rfl rfl
        · refine g_aload_n (pc := 63) C dX11_landings_63 rfl 0 rfl ?_
          refine g_get (pc := 64) C fl_X11_44 dX11_landings_64 0 rfl rfl ?_
          obtain ⟨u2, hu2, h⟩ := bs h
          refine g_callV (pc := 67) (st := []) (st1 := [.int u2]) (ws' := (W_X11_landings E o_t r_t_tape r_t_script r_t_hairReader r_t_ordersReader r_t_lawReader r_t_doors r_t_town r_t_kept r_t_trial r_t_walk r_t_reach r_t_lawNow r_t_lawSpare r_t_doors a_doors t_isKept doors_told doors_barred doors_one doors_other)) C mv_X0_onlyWays mi_X0_onlyWays ml_X11_267 (c_X0_onlyWays X.2.1 E r_t_doors a_doors doors_told doors_barred doors_one doors_other u2 hu2) dX11_landings_67 (by decide) rfl (Nat.le_of_ble_eq_true rfl) 1 0 rfl rfl [1, 2, 3] rfl (by decide) rfl rfl rfl rfl ?_
          refine g_istore_n (pc := 70) (lv' := [(2, .int u2), (0, .ref o_t), (1, .int x1)]) C dX11_landings_70 rfl (by decide) rfl ?_
          refine g_iload_n (pc := 71) C dX11_landings_71 rfl 0 rfl ?_
          refine g_if_ne (pc := 72) (tgt := 80) C dX11_landings_72 (by decide) h (fun h => ?_) (fun h => ?_)
          · refine g_iload_n (pc := 80) C dX11_landings_80 rfl 0 rfl ?_
            obtain ⟨u3, hu3, h⟩ := bs h
            refine g_callS (pc := 81) (st := []) (st1 := [.int u3]) (ws' := (W_X11_landings E o_t r_t_tape r_t_script r_t_hairReader r_t_ordersReader r_t_lawReader r_t_doors r_t_town r_t_kept r_t_trial r_t_walk r_t_reach r_t_lawNow r_t_lawSpare r_t_doors a_doors t_isKept doors_told doors_barred doors_one doors_other)) C mv_J6_numberOfTrailingZeros_0f7a4 ms_J6_numberOfTrailingZeros_0f7a4 ml_X11_270 (c_J6_numberOfTrailingZeros_0f7a4 X.2.1 E u2 u3 hu3) dX11_landings_81 (by decide) rfl (Nat.le_of_ble_eq_true rfl) [] rfl (by decide) rfl rfl rfl rfl ?_
            cases h
            exact hret _ _ _ dX11_landings_84 rfl rfl
          · refine g_bipush (pc := 75) (v := -2) C dX11_landings_75 (by decide) ?_
            refine g_goto (pc := 77) (tgt := 84) C dX11_landings_77 (by decide) ?_
            cases h
            exact hret _ _ _ dX11_landings_84 rfl rfl
      · refine g_aload_n (pc := 46) C dX11_landings_46 rfl 0 rfl ?_
        refine g_get (pc := 47) C fl_X11_44 dX11_landings_47 0 rfl rfl ?_
        obtain ⟨u4, hu4, h⟩ := bs h
        refine g_callV (pc := 50) (st := []) (st1 := [.int u4]) (ws' := (W_X11_landings E o_t r_t_tape r_t_script r_t_hairReader r_t_ordersReader r_t_lawReader r_t_doors r_t_town r_t_kept r_t_trial r_t_walk r_t_reach r_t_lawNow r_t_lawSpare r_t_doors a_doors t_isKept doors_told doors_barred doors_one doors_other)) C mv_X0_onlyWays mi_X0_onlyWays ml_X11_267 (c_X0_onlyWays X.2.1 E r_t_doors a_doors doors_told doors_barred doors_one doors_other u4 hu4) dX11_landings_50 (by decide) rfl (Nat.le_of_ble_eq_true rfl) 1 0 rfl rfl [1, 2, 3] rfl (by decide) rfl rfl rfl rfl ?_
        obtain ⟨u5, hu5, h⟩ := bs h
        refine g_callS (pc := 53) (st := []) (st1 := [.int u5]) (ws' := (W_X11_landings E o_t r_t_tape r_t_script r_t_hairReader r_t_ordersReader r_t_lawReader r_t_doors r_t_town r_t_kept r_t_trial r_t_walk r_t_reach r_t_lawNow r_t_lawSpare r_t_doors a_doors t_isKept doors_told doors_barred doors_one doors_other)) C mv_J6_bitCount_0f7a4 ms_J6_bitCount_0f7a4 ml_X11_250 (c_J6_bitCount_0f7a4 X.2.1 E u4 u5 hu5) dX11_landings_53 (by decide) rfl (Nat.le_of_ble_eq_true rfl) [] rfl (by decide) rfl rfl rfl rfl ?_
        cases h
        exact hret _ _ _ dX11_landings_56 rfl rfl
    · refine g_aload_n (pc := 32) C dX11_landings_32 rfl 0 rfl ?_
      refine g_get (pc := 33) C fl_X11_44 dX11_landings_33 0 rfl rfl ?_
      obtain ⟨u6, hu6, h⟩ := bs h
      refine g_callV (pc := 36) (st := []) (st1 := [.int u6]) (ws' := (W_X11_landings E o_t r_t_tape r_t_script r_t_hairReader r_t_ordersReader r_t_lawReader r_t_doors r_t_town r_t_kept r_t_trial r_t_walk r_t_reach r_t_lawNow r_t_lawSpare r_t_doors a_doors t_isKept doors_told doors_barred doors_one doors_other)) C mv_X0_groups mi_X0_groups ml_X11_264 (c_X0_groups X.2.1 E r_t_doors a_doors doors_told doors_barred doors_one doors_other u6 hu6) dX11_landings_36 (by decide) rfl (Nat.le_of_ble_eq_true rfl) 1 0 rfl rfl [1, 2, 3] rfl (by decide) rfl rfl rfl rfl ?_
      cases h
      exact hret _ _ _ dX11_landings_39 rfl rfl
  · refine g_aload_n (pc := 10) C dX11_landings_10 rfl 0 rfl ?_
    refine g_get (pc := 11) C fl_X11_44 dX11_landings_11 0 rfl rfl ?_
    refine g_iload_n (pc := 14) C dX11_landings_14 rfl 1 rfl ?_
    refine g_aload_n (pc := 15) C dX11_landings_15 rfl 0 rfl ?_
    refine g_get (pc := 16) C fl_X11_44 dX11_landings_16 0 rfl rfl ?_
    obtain ⟨u7, hu7, h⟩ := bs h
    refine g_callV (pc := 19) (st := [.int x1, .ref r_t_doors]) (st1 := [.int u7, .int x1, .ref r_t_doors]) (ws' := (W_X11_landings E o_t r_t_tape r_t_script r_t_hairReader r_t_ordersReader r_t_lawReader r_t_doors r_t_town r_t_kept r_t_trial r_t_walk r_t_reach r_t_lawNow r_t_lawSpare r_t_doors a_doors t_isKept doors_told doors_barred doors_one doors_other)) C mv_X0_unbarred mi_X0_unbarred ml_X11_238 (c_X0_unbarred X.2.1 E r_t_doors a_doors doors_told doors_barred u7 hu7) dX11_landings_19 (by decide) rfl (Nat.le_of_ble_eq_true rfl) 1 0 rfl rfl [1] rfl (by decide) rfl rfl rfl rfl ?_
    obtain ⟨u8, hu8, h⟩ := bs h
    refine g_callV (pc := 22) (st := []) (st1 := [.int u8]) (ws' := (W_X11_landings E o_t r_t_tape r_t_script r_t_hairReader r_t_ordersReader r_t_lawReader r_t_doors r_t_town r_t_kept r_t_trial r_t_walk r_t_reach r_t_lawNow r_t_lawSpare r_t_doors a_doors t_isKept doors_told doors_barred doors_one doors_other)) C mv_X0_groupOf mi_X0_groupOf ml_X11_261 (c_X0_groupOf X.2.1 E r_t_doors a_doors doors_told doors_barred doors_one doors_other x1 u7 u8 hu8) dX11_landings_22 (by decide) rfl (Nat.le_of_ble_eq_true rfl) 1 0 rfl rfl [1, 2, 3] rfl (by decide) rfl rfl rfl rfl ?_
    cases h
    exact hret _ _ _ dX11_landings_25 rfl rfl
abbrev W_X11_mostOpened (E : GE) (O_t : Nat) (r_t_tape : Nat) (r_t_script : Nat) (r_t_hairReader : Nat) (r_t_ordersReader : Nat) (r_t_lawReader : Nat) (r_t_doors : Nat) (r_t_town : Nat) (r_t_kept : Nat) (r_t_trial : Nat) (r_t_walk : Nat) (r_t_reach : Nat) (r_t_lawNow : Nat) (r_t_lawSpare : Nat) (O_doors : Nat) (a_doors : Nat → Nat) (O_town : Nat) (a_town : Nat → Nat) (t_isKept : Int32) (doors_told : Int32) (doors_barred : Int32) (doors_fits : (Nat → Int32)) (town_told : Int32) (town_round : Int32) (town_x : Int32) (town_pins : (Nat → Int32)) : va_W := [(O_t, ob_X11 r_t_tape r_t_script r_t_hairReader r_t_ordersReader r_t_lawReader r_t_doors r_t_town r_t_kept r_t_trial r_t_walk r_t_reach r_t_lawNow r_t_lawSpare t_isKept), (O_doors, ob_X0 a_doors doors_told doors_barred), (a_doors 3, .inl (E.2.1, 24, .inl doors_fits)), (O_town, ob_X9 a_town town_told town_round town_x), (a_town 3, .inl (E.2.1, 60, .inl town_pins))]
def L_X11_mostOpened_19 (doors_fits : (Nat → Int32)) (town_told : Int32) (town_pins : (Nat → Int32)) (x1 : Int32) (x2 : Int32) (x3 : Int32) (x4 : Int32) (k0 : Int32 → Option (Int32)) : Nat → Int32 × Int32 → Option (Int32) := lp fun go s => if (6 : Int32) ≤ s.2 then (k0 s.1) else if ((x4 >>> (s.2 &&& 31)) &&& (1 : Int32)) = 0 then ((f_X9_pinsOfKind town_told town_pins x1 s.2).bind fun u2 => nm (s.1 + u2) fun v3 => nm (s.2 + (1 : Int32)) fun v4 => go (v3, v4)) else nm (s.2 + (1 : Int32)) fun v1 => go (s.1, v1)
def L_X11_mostOpened_60 (doors_fits : (Nat → Int32)) (town_told : Int32) (town_pins : (Nat → Int32)) (x1 : Int32) (x2 : Int32) (x3 : Int32) (x4 : Int32) (k0 : Int32 → Option (Int32)) : Nat → Int32 × Int32 → Option (Int32) := lp fun go s => if (24 : Int32) ≤ s.2 then (k0 s.1) else if ((x2 >>> (s.2 &&& 31)) &&& (1 : Int32)) = 0 then (nm (s.2 + (1 : Int32)) fun v6 => go (s.1, v6)) else rd doors_fits 24 s.2 fun v7 => if (v7 &&& x4) = 0 then (nm (s.2 + (1 : Int32)) fun v8 => go (s.1, v8)) else nm (s.1 + (1 : Int32)) fun v9 => nm (s.2 + (1 : Int32)) fun v10 => go (v9, v10)
def L_X11_mostOpened_6 (doors_fits : (Nat → Int32)) (town_told : Int32) (town_pins : (Nat → Int32)) (x1 : Int32) (x2 : Int32) : Nat → Int32 × Int32 → Option (Int32) := lp fun go s => if (64 : Int32) ≤ s.2 then (some s.1) else L_X11_mostOpened_19 doors_fits town_told town_pins x1 x2 s.1 s.2 (fun s5 => L_X11_mostOpened_60 doors_fits town_told town_pins x1 x2 s.1 s.2 (fun s11 => nm (imin s.1 s11) fun v12 => nm (s.2 + (1 : Int32)) fun v13 => go (v12, v13)) fu (s5, (0 : Int32))) fu ((0 : Int32), (0 : Int32))
def f_X11_mostOpened (doors_fits : (Nat → Int32)) (town_told : Int32) (town_pins : (Nat → Int32)) (x1 : Int32) (x2 : Int32) : Option (Int32) := L_X11_mostOpened_6 doors_fits town_told town_pins x1 x2 fu ((24 : Int32), (0 : Int32))
theorem dX11_mostOpened_0 : decode cX11_mostOpened 0 = .ok (.bipush 24, 2) := by decide +kernel
theorem dX11_mostOpened_2 : decode cX11_mostOpened 2 = .ok (.istore_n 3, 1) := by decide +kernel
theorem dX11_mostOpened_3 : decode cX11_mostOpened 3 = .ok (.iconst 0, 1) := by decide +kernel
theorem dX11_mostOpened_4 : decode cX11_mostOpened 4 = .ok (.istore 4, 2) := by decide +kernel
theorem dX11_mostOpened_6 : decode cX11_mostOpened 6 = .ok (.iload 4, 2) := by decide +kernel
theorem dX11_mostOpened_8 : decode cX11_mostOpened 8 = .ok (.bipush 64, 2) := by decide +kernel
theorem dX11_mostOpened_10 : decode cX11_mostOpened 10 = .ok (.if_icmp .ge 104, 3) := by decide +kernel
theorem dX11_mostOpened_13 : decode cX11_mostOpened 13 = .ok (.iconst 0, 1) := by decide +kernel
theorem dX11_mostOpened_14 : decode cX11_mostOpened 14 = .ok (.istore 5, 2) := by decide +kernel
theorem dX11_mostOpened_16 : decode cX11_mostOpened 16 = .ok (.iconst 0, 1) := by decide +kernel
theorem dX11_mostOpened_17 : decode cX11_mostOpened 17 = .ok (.istore 6, 2) := by decide +kernel
theorem dX11_mostOpened_19 : decode cX11_mostOpened 19 = .ok (.iload 6, 2) := by decide +kernel
theorem dX11_mostOpened_21 : decode cX11_mostOpened 21 = .ok (.bipush 6, 2) := by decide +kernel
theorem dX11_mostOpened_23 : decode cX11_mostOpened 23 = .ok (.if_icmp .ge 34, 3) := by decide +kernel
theorem dX11_mostOpened_26 : decode cX11_mostOpened 26 = .ok (.iload 4, 2) := by decide +kernel
theorem dX11_mostOpened_28 : decode cX11_mostOpened 28 = .ok (.iload 6, 2) := by decide +kernel
theorem dX11_mostOpened_30 : decode cX11_mostOpened 30 = .ok (.ishr, 1) := by decide +kernel
theorem dX11_mostOpened_31 : decode cX11_mostOpened 31 = .ok (.iconst 1, 1) := by decide +kernel
theorem dX11_mostOpened_32 : decode cX11_mostOpened 32 = .ok (.iand, 1) := by decide +kernel
theorem dX11_mostOpened_33 : decode cX11_mostOpened 33 = .ok (.ifCond .ne 18, 3) := by decide +kernel
theorem dX11_mostOpened_36 : decode cX11_mostOpened 36 = .ok (.iload 5, 2) := by decide +kernel
theorem dX11_mostOpened_38 : decode cX11_mostOpened 38 = .ok (.aload_n 0, 1) := by decide +kernel
theorem dX11_mostOpened_39 : decode cX11_mostOpened 39 = .ok (.getfield 51, 3) := by decide +kernel
theorem dX11_mostOpened_42 : decode cX11_mostOpened 42 = .ok (.iload_n 1, 1) := by decide +kernel
theorem dX11_mostOpened_43 : decode cX11_mostOpened 43 = .ok (.iload 6, 2) := by decide +kernel
theorem dX11_mostOpened_45 : decode cX11_mostOpened 45 = .ok (.invokevirtual 198, 3) := by decide +kernel
theorem dX11_mostOpened_48 : decode cX11_mostOpened 48 = .ok (.iadd, 1) := by decide +kernel
theorem dX11_mostOpened_49 : decode cX11_mostOpened 49 = .ok (.istore 5, 2) := by decide +kernel
theorem dX11_mostOpened_51 : decode cX11_mostOpened 51 = .ok (.iinc 6 1, 3) := by decide +kernel
theorem dX11_mostOpened_54 : decode cX11_mostOpened 54 = .ok (.goto (-35), 3) := by decide +kernel
theorem dX11_mostOpened_57 : decode cX11_mostOpened 57 = .ok (.iconst 0, 1) := by decide +kernel
theorem dX11_mostOpened_58 : decode cX11_mostOpened 58 = .ok (.istore 6, 2) := by decide +kernel
theorem dX11_mostOpened_60 : decode cX11_mostOpened 60 = .ok (.iload 6, 2) := by decide +kernel
theorem dX11_mostOpened_62 : decode cX11_mostOpened 62 = .ok (.bipush 24, 2) := by decide +kernel
theorem dX11_mostOpened_64 : decode cX11_mostOpened 64 = .ok (.if_icmp .ge 37, 3) := by decide +kernel
theorem dX11_mostOpened_67 : decode cX11_mostOpened 67 = .ok (.iload_n 2, 1) := by decide +kernel
theorem dX11_mostOpened_68 : decode cX11_mostOpened 68 = .ok (.iload 6, 2) := by decide +kernel
theorem dX11_mostOpened_70 : decode cX11_mostOpened 70 = .ok (.ishr, 1) := by decide +kernel
theorem dX11_mostOpened_71 : decode cX11_mostOpened 71 = .ok (.iconst 1, 1) := by decide +kernel
theorem dX11_mostOpened_72 : decode cX11_mostOpened 72 = .ok (.iand, 1) := by decide +kernel
theorem dX11_mostOpened_73 : decode cX11_mostOpened 73 = .ok (.ifCond .eq 22, 3) := by decide +kernel
theorem dX11_mostOpened_76 : decode cX11_mostOpened 76 = .ok (.aload_n 0, 1) := by decide +kernel
theorem dX11_mostOpened_77 : decode cX11_mostOpened 77 = .ok (.getfield 44, 3) := by decide +kernel
theorem dX11_mostOpened_80 : decode cX11_mostOpened 80 = .ok (.getfield 218, 3) := by decide +kernel
theorem dX11_mostOpened_83 : decode cX11_mostOpened 83 = .ok (.iload 6, 2) := by decide +kernel
theorem dX11_mostOpened_85 : decode cX11_mostOpened 85 = .ok (.iaload, 1) := by decide +kernel
theorem dX11_mostOpened_86 : decode cX11_mostOpened 86 = .ok (.iload 4, 2) := by decide +kernel
theorem dX11_mostOpened_88 : decode cX11_mostOpened 88 = .ok (.iand, 1) := by decide +kernel
theorem dX11_mostOpened_89 : decode cX11_mostOpened 89 = .ok (.ifCond .eq 6, 3) := by decide +kernel
theorem dX11_mostOpened_92 : decode cX11_mostOpened 92 = .ok (.iinc 5 1, 3) := by decide +kernel
theorem dX11_mostOpened_95 : decode cX11_mostOpened 95 = .ok (.iinc 6 1, 3) := by decide +kernel
theorem dX11_mostOpened_98 : decode cX11_mostOpened 98 = .ok (.goto (-38), 3) := by decide +kernel
theorem dX11_mostOpened_101 : decode cX11_mostOpened 101 = .ok (.iload_n 3, 1) := by decide +kernel
theorem dX11_mostOpened_102 : decode cX11_mostOpened 102 = .ok (.iload 5, 2) := by decide +kernel
theorem dX11_mostOpened_104 : decode cX11_mostOpened 104 = .ok (.invokestatic 323, 3) := by decide +kernel
theorem dX11_mostOpened_107 : decode cX11_mostOpened 107 = .ok (.istore_n 3, 1) := by decide +kernel
theorem dX11_mostOpened_108 : decode cX11_mostOpened 108 = .ok (.iinc 4 1, 3) := by decide +kernel
theorem dX11_mostOpened_111 : decode cX11_mostOpened 111 = .ok (.goto (-105), 3) := by decide +kernel
theorem dX11_mostOpened_114 : decode cX11_mostOpened 114 = .ok (.iload_n 3, 1) := by decide +kernel
theorem dX11_mostOpened_115 : decode cX11_mostOpened 115 = .ok (.ireturn, 1) := by decide +kernel
set_option maxHeartbeats 4000000 in
set_option maxRecDepth 100000 in
theorem kL_X11_mostOpened_19 {X : GC} {E : GE} (C : Cx X E cX11_mostOpened RX11 3 7) (o_t : Nat) (r_t_tape : Nat) (r_t_script : Nat) (r_t_hairReader : Nat) (r_t_ordersReader : Nat) (r_t_lawReader : Nat) (r_t_doors : Nat) (r_t_town : Nat) (r_t_kept : Nat) (r_t_trial : Nat) (r_t_walk : Nat) (r_t_reach : Nat) (r_t_lawNow : Nat) (r_t_lawSpare : Nat) (a_doors : Nat → Nat) (a_town : Nat → Nat) (t_isKept : Int32) (doors_told : Int32) (doors_barred : Int32) (town_round : Int32) (town_x : Int32) (doors_fits : (Nat → Int32)) (town_told : Int32) (town_pins : (Nat → Int32)) (x1 : Int32) (x2 : Int32) (x3 : Int32) (x4 : Int32) (k0 : Int32 → Option (Int32)) {r : Int32} (hret : RtI X E cX11_mostOpened .int 0 0 (fun w => w = (W_X11_mostOpened E o_t r_t_tape r_t_script r_t_hairReader r_t_ordersReader r_t_lawReader r_t_doors r_t_town r_t_kept r_t_trial r_t_walk r_t_reach r_t_lawNow r_t_lawSpare r_t_doors a_doors r_t_town a_town t_isKept doors_told doors_barred doors_fits town_told town_round town_x town_pins)) r) (hk0 : ∀ u, k0 u = some r → Gx X E 0 0 (W_X11_mostOpened E o_t r_t_tape r_t_script r_t_hairReader r_t_ordersReader r_t_lawReader r_t_doors r_t_town r_t_kept r_t_trial r_t_walk r_t_reach r_t_lawNow r_t_lawSpare r_t_doors a_doors r_t_town a_town t_isKept doors_told doors_barred doors_fits town_told town_round town_x town_pins) 57 [(0, .ref o_t), (1, .int x1), (2, .int x2), (3, .int x3), (4, .int x4), (5, .int u)] []) : ∀ (n : Nat) (s : Int32 × Int32), L_X11_mostOpened_19 doors_fits town_told town_pins x1 x2 x3 x4 k0 n s = some r → Gx X E 0 0 (W_X11_mostOpened E o_t r_t_tape r_t_script r_t_hairReader r_t_ordersReader r_t_lawReader r_t_doors r_t_town r_t_kept r_t_trial r_t_walk r_t_reach r_t_lawNow r_t_lawSpare r_t_doors a_doors r_t_town a_town t_isKept doors_told doors_barred doors_fits town_told town_round town_x town_pins) 19 [(0, .ref o_t), (1, .int x1), (2, .int x2), (3, .int x3), (4, .int x4), (5, .int s.1), (6, .int s.2)] [] := by
  unfold L_X11_mostOpened_19
  refine lp_ind _ (fun go ih s h => ?_)
  refine g_iload (pc := 19) C dX11_mostOpened_19 6 rfl ?_
  refine g_bipush (pc := 21) (v := 6) C dX11_mostOpened_21 (by decide) ?_
  refine g_icmp_ge (pc := 23) (tgt := 57) C dX11_mostOpened_23 (by decide) h (fun h => ?_) (fun h => ?_)
  · refine g_sub [0, 1, 2, 3, 4, 5] rfl ?_
    exact hk0 _ h
  · refine g_iload (pc := 26) C dX11_mostOpened_26 4 rfl ?_
    refine g_iload (pc := 28) C dX11_mostOpened_28 6 rfl ?_
    refine g_ishr (pc := 30) C dX11_mostOpened_30 ?_
    refine g_iconst (pc := 31) (v := 1) C dX11_mostOpened_31 (by decide) ?_
    refine g_iand (pc := 32) C dX11_mostOpened_32 ?_
    refine g_if_ne (pc := 33) (tgt := 51) C dX11_mostOpened_33 (by decide) h (fun h => ?_) (fun h => ?_)
    · refine g_iincn (pc := 51) (j := 6) (d := 1) (lv' := fun v1 => [(6, .int v1), (0, .ref o_t), (1, .int x1), (2, .int x2), (3, .int x3), (4, .int x4), (5, .int s.1)]) C dX11_mostOpened_51 rfl (by decide) (by decide) (fun _ => rfl) h (fun v1 h => ?_)
      refine g_goto (pc := 54) (tgt := 19) C dX11_mostOpened_54 (by decide) ?_
      refine g_sub [1, 2, 3, 4, 5, 6, 0] rfl ?_
      exact ih _ h
    · refine g_iload (pc := 36) C dX11_mostOpened_36 5 rfl ?_
      refine g_aload_n (pc := 38) C dX11_mostOpened_38 rfl 0 rfl ?_
      refine g_get (pc := 39) C fl_X11_51 dX11_mostOpened_39 0 rfl rfl ?_
      refine g_iload_n (pc := 42) C dX11_mostOpened_42 rfl 1 rfl ?_
      refine g_iload (pc := 43) C dX11_mostOpened_43 6 rfl ?_
      obtain ⟨u2, hu2, h⟩ := bs h
      refine g_callV (pc := 45) (st := [.int s.1]) (st1 := [.int u2, .int s.1]) (ws' := (W_X11_mostOpened E o_t r_t_tape r_t_script r_t_hairReader r_t_ordersReader r_t_lawReader r_t_doors r_t_town r_t_kept r_t_trial r_t_walk r_t_reach r_t_lawNow r_t_lawSpare r_t_doors a_doors r_t_town a_town t_isKept doors_told doors_barred doors_fits town_told town_round town_x town_pins)) C mv_X9_pinsOfKind mi_X9_pinsOfKind ml_X11_198 (c_X9_pinsOfKind X.2.1 E r_t_town a_town town_told town_round town_x town_pins x1 s.2 u2 hu2) dX11_mostOpened_45 (by decide) rfl (Nat.le_of_ble_eq_true rfl) 3 8 rfl rfl [3, 4] rfl (by decide) rfl rfl rfl rfl ?_
      refine g_iadd (pc := 48) C dX11_mostOpened_48 ?_
      refine g_nm h (fun v3 h => ?_)
      refine g_istore (pc := 49) (lv' := [(5, .int v3), (0, .ref o_t), (1, .int x1), (2, .int x2), (3, .int x3), (4, .int x4), (6, .int s.2)]) C dX11_mostOpened_49 (by decide) rfl ?_
      refine g_iincn (pc := 51) (j := 6) (d := 1) (lv' := fun v4 => [(6, .int v4), (5, .int v3), (0, .ref o_t), (1, .int x1), (2, .int x2), (3, .int x3), (4, .int x4)]) C dX11_mostOpened_51 rfl (by decide) (by decide) (fun _ => rfl) h (fun v4 h => ?_)
      refine g_goto (pc := 54) (tgt := 19) C dX11_mostOpened_54 (by decide) ?_
      refine g_sub [2, 3, 4, 5, 6, 1, 0] rfl ?_
      exact ih _ h
set_option maxHeartbeats 4000000 in
set_option maxRecDepth 100000 in
theorem kL_X11_mostOpened_60 {X : GC} {E : GE} (C : Cx X E cX11_mostOpened RX11 3 7) (o_t : Nat) (r_t_tape : Nat) (r_t_script : Nat) (r_t_hairReader : Nat) (r_t_ordersReader : Nat) (r_t_lawReader : Nat) (r_t_doors : Nat) (r_t_town : Nat) (r_t_kept : Nat) (r_t_trial : Nat) (r_t_walk : Nat) (r_t_reach : Nat) (r_t_lawNow : Nat) (r_t_lawSpare : Nat) (a_doors : Nat → Nat) (a_town : Nat → Nat) (t_isKept : Int32) (doors_told : Int32) (doors_barred : Int32) (town_round : Int32) (town_x : Int32) (doors_fits : (Nat → Int32)) (town_told : Int32) (town_pins : (Nat → Int32)) (x1 : Int32) (x2 : Int32) (x3 : Int32) (x4 : Int32) (k0 : Int32 → Option (Int32)) {r : Int32} (hret : RtI X E cX11_mostOpened .int 0 0 (fun w => w = (W_X11_mostOpened E o_t r_t_tape r_t_script r_t_hairReader r_t_ordersReader r_t_lawReader r_t_doors r_t_town r_t_kept r_t_trial r_t_walk r_t_reach r_t_lawNow r_t_lawSpare r_t_doors a_doors r_t_town a_town t_isKept doors_told doors_barred doors_fits town_told town_round town_x town_pins)) r) (hk0 : ∀ u, k0 u = some r → Gx X E 0 0 (W_X11_mostOpened E o_t r_t_tape r_t_script r_t_hairReader r_t_ordersReader r_t_lawReader r_t_doors r_t_town r_t_kept r_t_trial r_t_walk r_t_reach r_t_lawNow r_t_lawSpare r_t_doors a_doors r_t_town a_town t_isKept doors_told doors_barred doors_fits town_told town_round town_x town_pins) 101 [(0, .ref o_t), (1, .int x1), (2, .int x2), (3, .int x3), (4, .int x4), (5, .int u)] []) : ∀ (n : Nat) (s : Int32 × Int32), L_X11_mostOpened_60 doors_fits town_told town_pins x1 x2 x3 x4 k0 n s = some r → Gx X E 0 0 (W_X11_mostOpened E o_t r_t_tape r_t_script r_t_hairReader r_t_ordersReader r_t_lawReader r_t_doors r_t_town r_t_kept r_t_trial r_t_walk r_t_reach r_t_lawNow r_t_lawSpare r_t_doors a_doors r_t_town a_town t_isKept doors_told doors_barred doors_fits town_told town_round town_x town_pins) 60 [(0, .ref o_t), (1, .int x1), (2, .int x2), (3, .int x3), (4, .int x4), (5, .int s.1), (6, .int s.2)] [] := by
  unfold L_X11_mostOpened_60
  refine lp_ind _ (fun go ih s h => ?_)
  refine g_iload (pc := 60) C dX11_mostOpened_60 6 rfl ?_
  refine g_bipush (pc := 62) (v := 24) C dX11_mostOpened_62 (by decide) ?_
  refine g_icmp_ge (pc := 64) (tgt := 101) C dX11_mostOpened_64 (by decide) h (fun h => ?_) (fun h => ?_)
  · refine g_sub [0, 1, 2, 3, 4, 5] rfl ?_
    exact hk0 _ h
  · refine g_iload_n (pc := 67) C dX11_mostOpened_67 rfl 2 rfl ?_
    refine g_iload (pc := 68) C dX11_mostOpened_68 6 rfl ?_
    refine g_ishr (pc := 70) C dX11_mostOpened_70 ?_
    refine g_iconst (pc := 71) (v := 1) C dX11_mostOpened_71 (by decide) ?_
    refine g_iand (pc := 72) C dX11_mostOpened_72 ?_
    refine g_if_eq (pc := 73) (tgt := 95) C dX11_mostOpened_73 (by decide) h (fun h => ?_) (fun h => ?_)
    · refine g_iincn (pc := 95) (j := 6) (d := 1) (lv' := fun v6 => [(6, .int v6), (0, .ref o_t), (1, .int x1), (2, .int x2), (3, .int x3), (4, .int x4), (5, .int s.1)]) C dX11_mostOpened_95 rfl (by decide) (by decide) (fun _ => rfl) h (fun v6 h => ?_)
      refine g_goto (pc := 98) (tgt := 60) C dX11_mostOpened_98 (by decide) ?_
      refine g_sub [1, 2, 3, 4, 5, 6, 0] rfl ?_
      exact ih _ h
    · refine g_aload_n (pc := 76) C dX11_mostOpened_76 rfl 0 rfl ?_
      refine g_get (pc := 77) C fl_X11_44 dX11_mostOpened_77 0 rfl rfl ?_
      refine g_get (pc := 80) C fl_X11_218 dX11_mostOpened_80 1 rfl rfl ?_
      refine g_iload (pc := 83) C dX11_mostOpened_83 6 rfl ?_
      refine g_iald (pc := 85) C dX11_mostOpened_85 2 rfl h (fun v7 h => ?_)
      refine g_iload (pc := 86) C dX11_mostOpened_86 4 rfl ?_
      refine g_iand (pc := 88) C dX11_mostOpened_88 ?_
      refine g_if_eq (pc := 89) (tgt := 95) C dX11_mostOpened_89 (by decide) h (fun h => ?_) (fun h => ?_)
      · refine g_iincn (pc := 95) (j := 6) (d := 1) (lv' := fun v8 => [(6, .int v8), (0, .ref o_t), (1, .int x1), (2, .int x2), (3, .int x3), (4, .int x4), (5, .int s.1)]) C dX11_mostOpened_95 rfl (by decide) (by decide) (fun _ => rfl) h (fun v8 h => ?_)
        refine g_goto (pc := 98) (tgt := 60) C dX11_mostOpened_98 (by decide) ?_
        refine g_sub [1, 2, 3, 4, 5, 6, 0] rfl ?_
        exact ih _ h
      · refine g_iincn (pc := 92) (j := 5) (d := 1) (lv' := fun v9 => [(5, .int v9), (0, .ref o_t), (1, .int x1), (2, .int x2), (3, .int x3), (4, .int x4), (6, .int s.2)]) C dX11_mostOpened_92 rfl (by decide) (by decide) (fun _ => rfl) h (fun v9 h => ?_)
        refine g_iincn (pc := 95) (j := 6) (d := 1) (lv' := fun v10 => [(6, .int v10), (5, .int v9), (0, .ref o_t), (1, .int x1), (2, .int x2), (3, .int x3), (4, .int x4)]) C dX11_mostOpened_95 rfl (by decide) (by decide) (fun _ => rfl) h (fun v10 h => ?_)
        refine g_goto (pc := 98) (tgt := 60) C dX11_mostOpened_98 (by decide) ?_
        refine g_sub [2, 3, 4, 5, 6, 1, 0] rfl ?_
        exact ih _ h
set_option maxHeartbeats 4000000 in
set_option maxRecDepth 100000 in
theorem kL_X11_mostOpened_6 {X : GC} {E : GE} (C : Cx X E cX11_mostOpened RX11 3 7) (o_t : Nat) (r_t_tape : Nat) (r_t_script : Nat) (r_t_hairReader : Nat) (r_t_ordersReader : Nat) (r_t_lawReader : Nat) (r_t_doors : Nat) (r_t_town : Nat) (r_t_kept : Nat) (r_t_trial : Nat) (r_t_walk : Nat) (r_t_reach : Nat) (r_t_lawNow : Nat) (r_t_lawSpare : Nat) (a_doors : Nat → Nat) (a_town : Nat → Nat) (t_isKept : Int32) (doors_told : Int32) (doors_barred : Int32) (town_round : Int32) (town_x : Int32) (doors_fits : (Nat → Int32)) (town_told : Int32) (town_pins : (Nat → Int32)) (x1 : Int32) (x2 : Int32) {r : Int32} (hret : RtI X E cX11_mostOpened .int 0 0 (fun w => w = (W_X11_mostOpened E o_t r_t_tape r_t_script r_t_hairReader r_t_ordersReader r_t_lawReader r_t_doors r_t_town r_t_kept r_t_trial r_t_walk r_t_reach r_t_lawNow r_t_lawSpare r_t_doors a_doors r_t_town a_town t_isKept doors_told doors_barred doors_fits town_told town_round town_x town_pins)) r) : ∀ (n : Nat) (s : Int32 × Int32), L_X11_mostOpened_6 doors_fits town_told town_pins x1 x2 n s = some r → Gx X E 0 0 (W_X11_mostOpened E o_t r_t_tape r_t_script r_t_hairReader r_t_ordersReader r_t_lawReader r_t_doors r_t_town r_t_kept r_t_trial r_t_walk r_t_reach r_t_lawNow r_t_lawSpare r_t_doors a_doors r_t_town a_town t_isKept doors_told doors_barred doors_fits town_told town_round town_x town_pins) 6 [(0, .ref o_t), (1, .int x1), (2, .int x2), (3, .int s.1), (4, .int s.2)] [] := by
  unfold L_X11_mostOpened_6
  refine lp_ind _ (fun go ih s h => ?_)
  refine g_iload (pc := 6) C dX11_mostOpened_6 4 rfl ?_
  refine g_bipush (pc := 8) (v := 64) C dX11_mostOpened_8 (by decide) ?_
  refine g_icmp_ge (pc := 10) (tgt := 114) C dX11_mostOpened_10 (by decide) h (fun h => ?_) (fun h => ?_)
  · refine g_iload_n (pc := 114) C dX11_mostOpened_114 rfl 3 rfl ?_
    cases h
    exact hret _ _ _ dX11_mostOpened_115 rfl rfl
  · refine g_iconst (pc := 13) (v := 0) C dX11_mostOpened_13 (by decide) ?_
    refine g_istore (pc := 14) (lv' := [(5, .int (0 : Int32)), (0, .ref o_t), (1, .int x1), (2, .int x2), (3, .int s.1), (4, .int s.2)]) C dX11_mostOpened_14 (by decide) rfl ?_
    refine g_iconst (pc := 16) (v := 0) C dX11_mostOpened_16 (by decide) ?_
    refine g_istore (pc := 17) (lv' := [(6, .int (0 : Int32)), (5, .int (0 : Int32)), (0, .ref o_t), (1, .int x1), (2, .int x2), (3, .int s.1), (4, .int s.2)]) C dX11_mostOpened_17 (by decide) rfl ?_
    refine g_sub [2, 3, 4, 5, 6, 1, 0] rfl ?_
    refine kL_X11_mostOpened_19 C o_t r_t_tape r_t_script r_t_hairReader r_t_ordersReader r_t_lawReader r_t_doors r_t_town r_t_kept r_t_trial r_t_walk r_t_reach r_t_lawNow r_t_lawSpare a_doors a_town t_isKept doors_told doors_barred town_round town_x doors_fits town_told town_pins x1 x2 s.1 s.2 _ hret (fun s5 h => ?_) _ _ h
    refine g_iconst (pc := 57) (v := 0) C dX11_mostOpened_57 (by decide) ?_
    refine g_istore (pc := 58) (lv' := [(6, .int (0 : Int32)), (0, .ref o_t), (1, .int x1), (2, .int x2), (3, .int s.1), (4, .int s.2), (5, .int s5)]) C dX11_mostOpened_58 (by decide) rfl ?_
    refine g_sub [1, 2, 3, 4, 5, 6, 0] rfl ?_
    refine kL_X11_mostOpened_60 C o_t r_t_tape r_t_script r_t_hairReader r_t_ordersReader r_t_lawReader r_t_doors r_t_town r_t_kept r_t_trial r_t_walk r_t_reach r_t_lawNow r_t_lawSpare a_doors a_town t_isKept doors_told doors_barred town_round town_x doors_fits town_told town_pins x1 x2 s.1 s.2 _ hret (fun s11 h => ?_) _ _ h
    refine g_iload_n (pc := 101) C dX11_mostOpened_101 rfl 3 rfl ?_
    refine g_iload (pc := 102) C dX11_mostOpened_102 5 rfl ?_
    refine g_mmin (pc := 104) C ml_X11_323 ms_min mini_Math mcode_min (Nat.le_of_ble_eq_true rfl) ⟨Nat.zero_le _, Nat.zero_le _⟩ dX11_mostOpened_104 ?_
    refine g_nm h (fun v12 h => ?_)
    refine g_istore_n (pc := 107) (lv' := [(3, .int v12), (0, .ref o_t), (1, .int x1), (2, .int x2), (4, .int s.2), (5, .int s11)]) C dX11_mostOpened_107 rfl (by decide) rfl ?_
    refine g_iincn (pc := 108) (j := 4) (d := 1) (lv' := fun v13 => [(4, .int v13), (3, .int v12), (0, .ref o_t), (1, .int x1), (2, .int x2), (5, .int s11)]) C dX11_mostOpened_108 rfl (by decide) (by decide) (fun _ => rfl) h (fun v13 h => ?_)
    refine g_goto (pc := 111) (tgt := 6) C dX11_mostOpened_111 (by decide) ?_
    refine g_sub [2, 3, 4, 1, 0] rfl ?_
    exact ih _ h
set_option maxHeartbeats 4000000 in
set_option maxRecDepth 100000 in
theorem c_X11_mostOpened (l : Launch) (E : GE) (o_t : Nat) (r_t_tape : Nat) (r_t_script : Nat) (r_t_hairReader : Nat) (r_t_ordersReader : Nat) (r_t_lawReader : Nat) (r_t_doors : Nat) (r_t_town : Nat) (r_t_kept : Nat) (r_t_trial : Nat) (r_t_walk : Nat) (r_t_reach : Nat) (r_t_lawNow : Nat) (r_t_lawSpare : Nat) (a_doors : Nat → Nat) (a_town : Nat → Nat) (t_isKept : Int32) (doors_told : Int32) (doors_barred : Int32) (doors_fits : (Nat → Int32)) (town_told : Int32) (town_round : Int32) (town_x : Int32) (town_pins : (Nat → Int32)) (x1 : Int32) (x2 : Int32) (r : Int32) (h : f_X11_mostOpened doors_fits town_told town_pins x1 x2 = some r) : Cn l E yX11_mostOpened cX11_mostOpened 7 (some .int) 3 0 0 [.ref o_t, .int x1, .int x2] (W_X11_mostOpened E o_t r_t_tape r_t_script r_t_hairReader r_t_ordersReader r_t_lawReader r_t_doors r_t_town r_t_kept r_t_trial r_t_walk r_t_reach r_t_lawNow r_t_lawSpare r_t_doors a_doors r_t_town a_town t_isKept doors_told doors_barred doors_fits town_told town_round town_x town_pins) (fun w => w = (W_X11_mostOpened E o_t r_t_tape r_t_script r_t_hairReader r_t_ordersReader r_t_lawReader r_t_doors r_t_town r_t_kept r_t_trial r_t_walk r_t_reach r_t_lawNow r_t_lawSpare r_t_doors a_doors r_t_town a_town t_isKept doors_told doors_barred doors_fits town_told town_round town_x town_pins)) (some (.int r)) := by
  refine Cn.ofI (by decide +kernel) (Nat.le_of_ble_eq_true rfl) (fun X hX hR C hret => ?_)
  subst hX
  show Gx X E 0 0 (W_X11_mostOpened E o_t r_t_tape r_t_script r_t_hairReader r_t_ordersReader r_t_lawReader r_t_doors r_t_town r_t_kept r_t_trial r_t_walk r_t_reach r_t_lawNow r_t_lawSpare r_t_doors a_doors r_t_town a_town t_isKept doors_told doors_barred doors_fits town_told town_round town_x town_pins) 0 [(0, .ref o_t), (1, .int x1), (2, .int x2)] []
  unfold f_X11_mostOpened at h
  refine g_bipush (pc := 0) (v := 24) C dX11_mostOpened_0 (by decide) ?_
  refine g_istore_n (pc := 2) (lv' := [(3, .int (24 : Int32)), (0, .ref o_t), (1, .int x1), (2, .int x2)]) C dX11_mostOpened_2 rfl (by decide) rfl ?_
  refine g_iconst (pc := 3) (v := 0) C dX11_mostOpened_3 (by decide) ?_
  refine g_istore (pc := 4) (lv' := [(4, .int (0 : Int32)), (3, .int (24 : Int32)), (0, .ref o_t), (1, .int x1), (2, .int x2)]) C dX11_mostOpened_4 (by decide) rfl ?_
  refine g_sub [2, 3, 4, 1, 0] rfl ?_
  refine kL_X11_mostOpened_6 C o_t r_t_tape r_t_script r_t_hairReader r_t_ordersReader r_t_lawReader r_t_doors r_t_town r_t_kept r_t_trial r_t_walk r_t_reach r_t_lawNow r_t_lawSpare a_doors a_town t_isKept doors_told doors_barred town_round town_x doors_fits town_told town_pins x1 x2 hret  _ _ h
abbrev W_X11_whoBent (E : GE) (O_t : Nat) (r_t_tape : Nat) (r_t_script : Nat) (r_t_hairReader : Nat) (r_t_ordersReader : Nat) (r_t_lawReader : Nat) (r_t_doors : Nat) (r_t_town : Nat) (r_t_kept : Nat) (r_t_trial : Nat) (r_t_walk : Nat) (r_t_reach : Nat) (r_t_lawNow : Nat) (r_t_lawSpare : Nat) (O_tape : Nat) (a_tape : Nat → Nat) (O_doors : Nat) (a_doors : Nat → Nat) (O_town : Nat) (a_town : Nat → Nat) (t_isKept : Int32) (tape_size : Int32) (tape_bytes : (Nat → Int32)) (doors_told : Int32) (doors_barred : Int32) (doors_fits : (Nat → Int32)) (town_told : Int32) (town_round : Int32) (town_x : Int32) (town_hair : (Nat → Int32)) : va_W := [(O_t, ob_X11 r_t_tape r_t_script r_t_hairReader r_t_ordersReader r_t_lawReader r_t_doors r_t_town r_t_kept r_t_trial r_t_walk r_t_reach r_t_lawNow r_t_lawSpare t_isKept), (O_tape, ob_X8 a_tape tape_size), (a_tape 0, .inl (E.2.1, 260, .inl tape_bytes)), (O_doors, ob_X0 a_doors doors_told doors_barred), (a_doors 3, .inl (E.2.1, 24, .inl doors_fits)), (O_town, ob_X9 a_town town_told town_round town_x), (a_town 2, .inl (E.2.1, 60, .inl town_hair))]
def L_X11_whoBent_10 (tape_size : Int32) (tape_bytes : (Nat → Int32)) (doors_told : Int32) (doors_fits : (Nat → Int32)) (town_told : Int32) (town_hair : (Nat → Int32)) (x1 : Int32) (x2 : Int32) (k0 : Unit → Option (Int32)) : Nat → Int32 → Option (Int32) := lp fun go s => if x1 ≤ s then (k0 ()) else (f_X8_at tape_size tape_bytes ((2 : Int32) * s)).bind fun u1 => (f_X8_at tape_size tape_bytes (((2 : Int32) * s) + (1 : Int32))).bind fun u2 => (f_X0_isTold doors_told u1).bind fun u3 => if u3 = 0 then (some (0 : Int32)) else rd doors_fits 24 u1 fun v4 => if ((v4 >>> (u2 &&& 31)) &&& (1 : Int32)) = 0 then (some (0 : Int32)) else nm (s + (1 : Int32)) fun v5 => go v5
def L_X11_whoBent_81 (tape_size : Int32) (tape_bytes : (Nat → Int32)) (doors_told : Int32) (doors_fits : (Nat → Int32)) (town_told : Int32) (town_hair : (Nat → Int32)) (x1 : Int32) : Nat → Int32 × Int32 → Option (Int32) := lp fun go s => if (6 : Int32) ≤ s.2 then (some s.1) else (f_X11_bentOf tape_size tape_bytes x1 s.2).bind fun u7 => (f_X9_whoPutUp town_told town_hair s.2 u7).bind fun u8 => nm (s.1 &&& u8) fun v9 => nm (s.2 + (1 : Int32)) fun v10 => go (v9, v10)
def f_X11_whoBent (tape_size : Int32) (tape_bytes : (Nat → Int32)) (doors_told : Int32) (doors_fits : (Nat → Int32)) (town_told : Int32) (town_hair : (Nat → Int32)) (x1 : Int32) : Option (Int32) := L_X11_whoBent_10 tape_size tape_bytes doors_told doors_fits town_told town_hair x1 town_told (fun s6 => L_X11_whoBent_81 tape_size tape_bytes doors_told doors_fits town_told town_hair x1 fu (town_told, (0 : Int32))) fu (0 : Int32)
theorem dX11_whoBent_0 : decode cX11_whoBent 0 = .ok (.aload_n 0, 1) := by decide +kernel
theorem dX11_whoBent_1 : decode cX11_whoBent 1 = .ok (.getfield 51, 3) := by decide +kernel
theorem dX11_whoBent_4 : decode cX11_whoBent 4 = .ok (.getfield 319, 3) := by decide +kernel
theorem dX11_whoBent_7 : decode cX11_whoBent 7 = .ok (.istore_n 2, 1) := by decide +kernel
theorem dX11_whoBent_8 : decode cX11_whoBent 8 = .ok (.iconst 0, 1) := by decide +kernel
theorem dX11_whoBent_9 : decode cX11_whoBent 9 = .ok (.istore_n 3, 1) := by decide +kernel
theorem dX11_whoBent_10 : decode cX11_whoBent 10 = .ok (.iload_n 3, 1) := by decide +kernel
theorem dX11_whoBent_11 : decode cX11_whoBent 11 = .ok (.iload_n 1, 1) := by decide +kernel
theorem dX11_whoBent_12 : decode cX11_whoBent 12 = .ok (.if_icmp .ge 67, 3) := by decide +kernel
theorem dX11_whoBent_15 : decode cX11_whoBent 15 = .ok (.aload_n 0, 1) := by decide +kernel
theorem dX11_whoBent_16 : decode cX11_whoBent 16 = .ok (.getfield 10, 3) := by decide +kernel
theorem dX11_whoBent_19 : decode cX11_whoBent 19 = .ok (.iconst 2, 1) := by decide +kernel
theorem dX11_whoBent_20 : decode cX11_whoBent 20 = .ok (.iload_n 3, 1) := by decide +kernel
theorem dX11_whoBent_21 : decode cX11_whoBent 21 = .ok (.imul, 1) := by decide +kernel
theorem dX11_whoBent_22 : decode cX11_whoBent 22 = .ok (.invokevirtual 316, 3) := by decide +kernel
theorem dX11_whoBent_25 : decode cX11_whoBent 25 = .ok (.istore 4, 2) := by decide +kernel
theorem dX11_whoBent_27 : decode cX11_whoBent 27 = .ok (.aload_n 0, 1) := by decide +kernel
theorem dX11_whoBent_28 : decode cX11_whoBent 28 = .ok (.getfield 10, 3) := by decide +kernel
theorem dX11_whoBent_31 : decode cX11_whoBent 31 = .ok (.iconst 2, 1) := by decide +kernel
theorem dX11_whoBent_32 : decode cX11_whoBent 32 = .ok (.iload_n 3, 1) := by decide +kernel
theorem dX11_whoBent_33 : decode cX11_whoBent 33 = .ok (.imul, 1) := by decide +kernel
theorem dX11_whoBent_34 : decode cX11_whoBent 34 = .ok (.iconst 1, 1) := by decide +kernel
theorem dX11_whoBent_35 : decode cX11_whoBent 35 = .ok (.iadd, 1) := by decide +kernel
theorem dX11_whoBent_36 : decode cX11_whoBent 36 = .ok (.invokevirtual 316, 3) := by decide +kernel
theorem dX11_whoBent_39 : decode cX11_whoBent 39 = .ok (.istore 5, 2) := by decide +kernel
theorem dX11_whoBent_41 : decode cX11_whoBent 41 = .ok (.aload_n 0, 1) := by decide +kernel
theorem dX11_whoBent_42 : decode cX11_whoBent 42 = .ok (.getfield 44, 3) := by decide +kernel
theorem dX11_whoBent_45 : decode cX11_whoBent 45 = .ok (.iload 4, 2) := by decide +kernel
theorem dX11_whoBent_47 : decode cX11_whoBent 47 = .ok (.invokevirtual 202, 3) := by decide +kernel
theorem dX11_whoBent_50 : decode cX11_whoBent 50 = .ok (.ifCond .eq 21, 3) := by decide +kernel
theorem dX11_whoBent_53 : decode cX11_whoBent 53 = .ok (.aload_n 0, 1) := by decide +kernel
theorem dX11_whoBent_54 : decode cX11_whoBent 54 = .ok (.getfield 44, 3) := by decide +kernel
theorem dX11_whoBent_57 : decode cX11_whoBent 57 = .ok (.getfield 218, 3) := by decide +kernel
theorem dX11_whoBent_60 : decode cX11_whoBent 60 = .ok (.iload 4, 2) := by decide +kernel
theorem dX11_whoBent_62 : decode cX11_whoBent 62 = .ok (.iaload, 1) := by decide +kernel
theorem dX11_whoBent_63 : decode cX11_whoBent 63 = .ok (.iload 5, 2) := by decide +kernel
theorem dX11_whoBent_65 : decode cX11_whoBent 65 = .ok (.ishr, 1) := by decide +kernel
theorem dX11_whoBent_66 : decode cX11_whoBent 66 = .ok (.iconst 1, 1) := by decide +kernel
theorem dX11_whoBent_67 : decode cX11_whoBent 67 = .ok (.iand, 1) := by decide +kernel
theorem dX11_whoBent_68 : decode cX11_whoBent 68 = .ok (.ifCond .ne 5, 3) := by decide +kernel
theorem dX11_whoBent_71 : decode cX11_whoBent 71 = .ok (.iconst 0, 1) := by decide +kernel
theorem dX11_whoBent_72 : decode cX11_whoBent 72 = .ok (.ireturn, 1) := by decide +kernel
theorem dX11_whoBent_73 : decode cX11_whoBent 73 = .ok (.iinc 3 1, 3) := by decide +kernel
theorem dX11_whoBent_76 : decode cX11_whoBent 76 = .ok (.goto (-66), 3) := by decide +kernel
theorem dX11_whoBent_79 : decode cX11_whoBent 79 = .ok (.iconst 0, 1) := by decide +kernel
theorem dX11_whoBent_80 : decode cX11_whoBent 80 = .ok (.istore_n 3, 1) := by decide +kernel
theorem dX11_whoBent_81 : decode cX11_whoBent 81 = .ok (.iload_n 3, 1) := by decide +kernel
theorem dX11_whoBent_82 : decode cX11_whoBent 82 = .ok (.bipush 6, 2) := by decide +kernel
theorem dX11_whoBent_84 : decode cX11_whoBent 84 = .ok (.if_icmp .ge 26, 3) := by decide +kernel
theorem dX11_whoBent_87 : decode cX11_whoBent 87 = .ok (.iload_n 2, 1) := by decide +kernel
theorem dX11_whoBent_88 : decode cX11_whoBent 88 = .ok (.aload_n 0, 1) := by decide +kernel
theorem dX11_whoBent_89 : decode cX11_whoBent 89 = .ok (.getfield 51, 3) := by decide +kernel
theorem dX11_whoBent_92 : decode cX11_whoBent 92 = .ok (.iload_n 3, 1) := by decide +kernel
theorem dX11_whoBent_93 : decode cX11_whoBent 93 = .ok (.aload_n 0, 1) := by decide +kernel
theorem dX11_whoBent_94 : decode cX11_whoBent 94 = .ok (.iload_n 1, 1) := by decide +kernel
theorem dX11_whoBent_95 : decode cX11_whoBent 95 = .ok (.iload_n 3, 1) := by decide +kernel
theorem dX11_whoBent_96 : decode cX11_whoBent 96 = .ok (.invokevirtual 328, 3) := by decide +kernel
theorem dX11_whoBent_99 : decode cX11_whoBent 99 = .ok (.invokevirtual 331, 3) := by decide +kernel
theorem dX11_whoBent_102 : decode cX11_whoBent 102 = .ok (.iand, 1) := by decide +kernel
theorem dX11_whoBent_103 : decode cX11_whoBent 103 = .ok (.istore_n 2, 1) := by decide +kernel
theorem dX11_whoBent_104 : decode cX11_whoBent 104 = .ok (.iinc 3 1, 3) := by decide +kernel
theorem dX11_whoBent_107 : decode cX11_whoBent 107 = .ok (.goto (-26), 3) := by decide +kernel
theorem dX11_whoBent_110 : decode cX11_whoBent 110 = .ok (.iload_n 2, 1) := by decide +kernel
theorem dX11_whoBent_111 : decode cX11_whoBent 111 = .ok (.ireturn, 1) := by decide +kernel
set_option maxHeartbeats 4000000 in
set_option maxRecDepth 100000 in
theorem kL_X11_whoBent_10 {X : GC} {E : GE} (C : Cx X E cX11_whoBent RX11 3 6) (o_t : Nat) (r_t_tape : Nat) (r_t_script : Nat) (r_t_hairReader : Nat) (r_t_ordersReader : Nat) (r_t_lawReader : Nat) (r_t_doors : Nat) (r_t_town : Nat) (r_t_kept : Nat) (r_t_trial : Nat) (r_t_walk : Nat) (r_t_reach : Nat) (r_t_lawNow : Nat) (r_t_lawSpare : Nat) (a_tape : Nat → Nat) (a_doors : Nat → Nat) (a_town : Nat → Nat) (t_isKept : Int32) (doors_barred : Int32) (town_round : Int32) (town_x : Int32) (tape_size : Int32) (tape_bytes : (Nat → Int32)) (doors_told : Int32) (doors_fits : (Nat → Int32)) (town_told : Int32) (town_hair : (Nat → Int32)) (x1 : Int32) (x2 : Int32) (k0 : Unit → Option (Int32)) {r : Int32} (hret : RtI X E cX11_whoBent .int 0 0 (fun w => w = (W_X11_whoBent E o_t r_t_tape r_t_script r_t_hairReader r_t_ordersReader r_t_lawReader r_t_doors r_t_town r_t_kept r_t_trial r_t_walk r_t_reach r_t_lawNow r_t_lawSpare r_t_tape a_tape r_t_doors a_doors r_t_town a_town t_isKept tape_size tape_bytes doors_told doors_barred doors_fits town_told town_round town_x town_hair)) r) (hk0 : ∀ u, k0 u = some r → Gx X E 0 0 (W_X11_whoBent E o_t r_t_tape r_t_script r_t_hairReader r_t_ordersReader r_t_lawReader r_t_doors r_t_town r_t_kept r_t_trial r_t_walk r_t_reach r_t_lawNow r_t_lawSpare r_t_tape a_tape r_t_doors a_doors r_t_town a_town t_isKept tape_size tape_bytes doors_told doors_barred doors_fits town_told town_round town_x town_hair) 79 [(0, .ref o_t), (1, .int x1), (2, .int x2)] []) : ∀ (n : Nat) (s : Int32), L_X11_whoBent_10 tape_size tape_bytes doors_told doors_fits town_told town_hair x1 x2 k0 n s = some r → Gx X E 0 0 (W_X11_whoBent E o_t r_t_tape r_t_script r_t_hairReader r_t_ordersReader r_t_lawReader r_t_doors r_t_town r_t_kept r_t_trial r_t_walk r_t_reach r_t_lawNow r_t_lawSpare r_t_tape a_tape r_t_doors a_doors r_t_town a_town t_isKept tape_size tape_bytes doors_told doors_barred doors_fits town_told town_round town_x town_hair) 10 [(0, .ref o_t), (1, .int x1), (2, .int x2), (3, .int s)] [] := by
  unfold L_X11_whoBent_10
  refine lp_ind _ (fun go ih s h => ?_)
  refine g_iload_n (pc := 10) C dX11_whoBent_10 rfl 3 rfl ?_
  refine g_iload_n (pc := 11) C dX11_whoBent_11 rfl 1 rfl ?_
  refine g_icmp_ge (pc := 12) (tgt := 79) C dX11_whoBent_12 (by decide) h (fun h => ?_) (fun h => ?_)
  · refine g_sub [0, 1, 2] rfl ?_
    exact hk0 _ h
  · refine g_aload_n (pc := 15) C dX11_whoBent_15 rfl 0 rfl ?_
    refine g_get (pc := 16) C fl_X11_10 dX11_whoBent_16 0 rfl rfl ?_
    refine g_iconst (pc := 19) (v := 2) C dX11_whoBent_19 (by decide) ?_
    refine g_iload_n (pc := 20) C dX11_whoBent_20 rfl 3 rfl ?_
    refine g_imul (pc := 21) C dX11_whoBent_21 ?_
    obtain ⟨u1, hu1, h⟩ := bs h
    refine g_callV (pc := 22) (st := []) (st1 := [.int u1]) (ws' := (W_X11_whoBent E o_t r_t_tape r_t_script r_t_hairReader r_t_ordersReader r_t_lawReader r_t_doors r_t_town r_t_kept r_t_trial r_t_walk r_t_reach r_t_lawNow r_t_lawSpare r_t_tape a_tape r_t_doors a_doors r_t_town a_town t_isKept tape_size tape_bytes doors_told doors_barred doors_fits town_told town_round town_x town_hair)) C mv_X8_at mi_X8_at ml_X11_316 (c_X8_at X.2.1 E r_t_tape a_tape tape_size tape_bytes ((2 : Int32) * s) u1 hu1) dX11_whoBent_22 (by decide) rfl (Nat.le_of_ble_eq_true rfl) 1 7 rfl rfl [1, 2] rfl (by decide) rfl rfl rfl rfl ?_
    refine g_istore (pc := 25) (lv' := [(4, .int u1), (0, .ref o_t), (1, .int x1), (2, .int x2), (3, .int s)]) C dX11_whoBent_25 (by decide) rfl ?_
    refine g_aload_n (pc := 27) C dX11_whoBent_27 rfl 1 rfl ?_
    refine g_get (pc := 28) C fl_X11_10 dX11_whoBent_28 0 rfl rfl ?_
    refine g_iconst (pc := 31) (v := 2) C dX11_whoBent_31 (by decide) ?_
    refine g_iload_n (pc := 32) C dX11_whoBent_32 rfl 4 rfl ?_
    refine g_imul (pc := 33) C dX11_whoBent_33 ?_
    refine g_iconst (pc := 34) (v := 1) C dX11_whoBent_34 (by decide) ?_
    refine g_iadd (pc := 35) C dX11_whoBent_35 ?_
    obtain ⟨u2, hu2, h⟩ := bs h
    refine g_callV (pc := 36) (st := []) (st1 := [.int u2]) (ws' := (W_X11_whoBent E o_t r_t_tape r_t_script r_t_hairReader r_t_ordersReader r_t_lawReader r_t_doors r_t_town r_t_kept r_t_trial r_t_walk r_t_reach r_t_lawNow r_t_lawSpare r_t_tape a_tape r_t_doors a_doors r_t_town a_town t_isKept tape_size tape_bytes doors_told doors_barred doors_fits town_told town_round town_x town_hair)) C mv_X8_at mi_X8_at ml_X11_316 (c_X8_at X.2.1 E r_t_tape a_tape tape_size tape_bytes (((2 : Int32) * s) + (1 : Int32)) u2 hu2) dX11_whoBent_36 (by decide) rfl (Nat.le_of_ble_eq_true rfl) 1 7 rfl rfl [1, 2] rfl (by decide) rfl rfl rfl rfl ?_
    refine g_istore (pc := 39) (lv' := [(5, .int u2), (4, .int u1), (0, .ref o_t), (1, .int x1), (2, .int x2), (3, .int s)]) C dX11_whoBent_39 (by decide) rfl ?_
    refine g_aload_n (pc := 41) C dX11_whoBent_41 rfl 2 rfl ?_
    refine g_get (pc := 42) C fl_X11_44 dX11_whoBent_42 0 rfl rfl ?_
    refine g_iload (pc := 45) C dX11_whoBent_45 1 rfl ?_
    obtain ⟨u3, hu3, h⟩ := bs h
    refine g_callV (pc := 47) (st := []) (st1 := [.int u3]) (ws' := (W_X11_whoBent E o_t r_t_tape r_t_script r_t_hairReader r_t_ordersReader r_t_lawReader r_t_doors r_t_town r_t_kept r_t_trial r_t_walk r_t_reach r_t_lawNow r_t_lawSpare r_t_tape a_tape r_t_doors a_doors r_t_town a_town t_isKept tape_size tape_bytes doors_told doors_barred doors_fits town_told town_round town_x town_hair)) C mv_X0_isTold mi_X0_isTold ml_X11_202 (c_X0_isTold X.2.1 E r_t_doors a_doors doors_told doors_barred u1 u3 hu3) dX11_whoBent_47 (by decide) rfl (Nat.le_of_ble_eq_true rfl) 3 0 rfl rfl [3] rfl (by decide) rfl rfl rfl rfl ?_
    refine g_if_eq (pc := 50) (tgt := 71) C dX11_whoBent_50 (by decide) h (fun h => ?_) (fun h => ?_)
    · refine g_iconst (pc := 71) (v := 0) C dX11_whoBent_71 (by decide) ?_
      cases h
      exact hret _ _ _ dX11_whoBent_72 rfl rfl
    · refine g_aload_n (pc := 53) C dX11_whoBent_53 rfl 2 rfl ?_
      refine g_get (pc := 54) C fl_X11_44 dX11_whoBent_54 0 rfl rfl ?_
      refine g_get (pc := 57) C fl_X11_218 dX11_whoBent_57 3 rfl rfl ?_
      refine g_iload (pc := 60) C dX11_whoBent_60 1 rfl ?_
      refine g_iald (pc := 62) C dX11_whoBent_62 4 rfl h (fun v4 h => ?_)
      refine g_iload (pc := 63) C dX11_whoBent_63 0 rfl ?_
      refine g_ishr (pc := 65) C dX11_whoBent_65 ?_
      refine g_iconst (pc := 66) (v := 1) C dX11_whoBent_66 (by decide) ?_
      refine g_iand (pc := 67) C dX11_whoBent_67 ?_
      refine g_if_ne (pc := 68) (tgt := 73) C dX11_whoBent_68 (by decide) h (fun h => ?_) (fun h => ?_)
      · refine g_iincn (pc := 73) (j := 5) (d := 1) (lv' := fun v5 => [(3, .int v5), (5, .int u2), (4, .int u1), (0, .ref o_t), (1, .int x1), (2, .int x2)]) C dX11_whoBent_73 rfl (by decide) (by decide) (fun _ => rfl) h (fun v5 h => ?_)
        refine g_goto (pc := 76) (tgt := 10) C dX11_whoBent_76 (by decide) ?_
        refine g_sub [3, 4, 5, 0] rfl ?_
        exact ih _ h
      · refine g_iconst (pc := 71) (v := 0) C dX11_whoBent_71 (by decide) ?_
        cases h
        exact hret _ _ _ dX11_whoBent_72 rfl rfl
set_option maxHeartbeats 4000000 in
set_option maxRecDepth 100000 in
theorem kL_X11_whoBent_81 {X : GC} {E : GE} (C : Cx X E cX11_whoBent RX11 3 6) (o_t : Nat) (r_t_tape : Nat) (r_t_script : Nat) (r_t_hairReader : Nat) (r_t_ordersReader : Nat) (r_t_lawReader : Nat) (r_t_doors : Nat) (r_t_town : Nat) (r_t_kept : Nat) (r_t_trial : Nat) (r_t_walk : Nat) (r_t_reach : Nat) (r_t_lawNow : Nat) (r_t_lawSpare : Nat) (a_tape : Nat → Nat) (a_doors : Nat → Nat) (a_town : Nat → Nat) (t_isKept : Int32) (doors_barred : Int32) (town_round : Int32) (town_x : Int32) (tape_size : Int32) (tape_bytes : (Nat → Int32)) (doors_told : Int32) (doors_fits : (Nat → Int32)) (town_told : Int32) (town_hair : (Nat → Int32)) (x1 : Int32) {r : Int32} (hret : RtI X E cX11_whoBent .int 0 0 (fun w => w = (W_X11_whoBent E o_t r_t_tape r_t_script r_t_hairReader r_t_ordersReader r_t_lawReader r_t_doors r_t_town r_t_kept r_t_trial r_t_walk r_t_reach r_t_lawNow r_t_lawSpare r_t_tape a_tape r_t_doors a_doors r_t_town a_town t_isKept tape_size tape_bytes doors_told doors_barred doors_fits town_told town_round town_x town_hair)) r) : ∀ (n : Nat) (s : Int32 × Int32), L_X11_whoBent_81 tape_size tape_bytes doors_told doors_fits town_told town_hair x1 n s = some r → Gx X E 0 0 (W_X11_whoBent E o_t r_t_tape r_t_script r_t_hairReader r_t_ordersReader r_t_lawReader r_t_doors r_t_town r_t_kept r_t_trial r_t_walk r_t_reach r_t_lawNow r_t_lawSpare r_t_tape a_tape r_t_doors a_doors r_t_town a_town t_isKept tape_size tape_bytes doors_told doors_barred doors_fits town_told town_round town_x town_hair) 81 [(0, .ref o_t), (1, .int x1), (2, .int s.1), (3, .int s.2)] [] := by
  unfold L_X11_whoBent_81
  refine lp_ind _ (fun go ih s h => ?_)
  refine g_iload_n (pc := 81) C dX11_whoBent_81 rfl 3 rfl ?_
  refine g_bipush (pc := 82) (v := 6) C dX11_whoBent_82 (by decide) ?_
  refine g_icmp_ge (pc := 84) (tgt := 110) C dX11_whoBent_84 (by decide) h (fun h => ?_) (fun h => ?_)
  · refine g_iload_n (pc := 110) C dX11_whoBent_110 rfl 2 rfl ?_
    cases h
    exact hret _ _ _ dX11_whoBent_111 rfl rfl
  · refine g_iload_n (pc := 87) C dX11_whoBent_87 rfl 2 rfl ?_
    refine g_aload_n (pc := 88) C dX11_whoBent_88 rfl 0 rfl ?_
    refine g_get (pc := 89) C fl_X11_51 dX11_whoBent_89 0 rfl rfl ?_
    refine g_iload_n (pc := 92) C dX11_whoBent_92 rfl 3 rfl ?_
    refine g_aload_n (pc := 93) C dX11_whoBent_93 rfl 0 rfl ?_
    refine g_iload_n (pc := 94) C dX11_whoBent_94 rfl 1 rfl ?_
    refine g_iload_n (pc := 95) C dX11_whoBent_95 rfl 3 rfl ?_
    obtain ⟨u7, hu7, h⟩ := bs h
    refine g_callV (pc := 96) (st := [.int s.2, .ref r_t_town, .int s.1]) (st1 := [.int u7, .int s.2, .ref r_t_town, .int s.1]) (ws' := (W_X11_whoBent E o_t r_t_tape r_t_script r_t_hairReader r_t_ordersReader r_t_lawReader r_t_doors r_t_town r_t_kept r_t_trial r_t_walk r_t_reach r_t_lawNow r_t_lawSpare r_t_tape a_tape r_t_doors a_doors r_t_town a_town t_isKept tape_size tape_bytes doors_told doors_barred doors_fits town_told town_round town_x town_hair)) C mv_X11_bentOf mi_X11_bentOf ml_X11_328 (c_X11_bentOf X.2.1 E o_t r_t_tape r_t_script r_t_hairReader r_t_ordersReader r_t_lawReader r_t_doors r_t_town r_t_kept r_t_trial r_t_walk r_t_reach r_t_lawNow r_t_lawSpare a_tape t_isKept tape_size tape_bytes x1 s.2 u7 hu7) dX11_whoBent_96 (by decide) rfl (Nat.le_of_ble_eq_true rfl) 0 10 rfl rfl [0, 1, 2] rfl (by decide) rfl rfl rfl rfl ?_
    obtain ⟨u8, hu8, h⟩ := bs h
    refine g_callV (pc := 99) (st := [.int s.1]) (st1 := [.int u8, .int s.1]) (ws' := (W_X11_whoBent E o_t r_t_tape r_t_script r_t_hairReader r_t_ordersReader r_t_lawReader r_t_doors r_t_town r_t_kept r_t_trial r_t_walk r_t_reach r_t_lawNow r_t_lawSpare r_t_tape a_tape r_t_doors a_doors r_t_town a_town t_isKept tape_size tape_bytes doors_told doors_barred doors_fits town_told town_round town_x town_hair)) C mv_X9_whoPutUp mi_X9_whoPutUp ml_X11_331 (c_X9_whoPutUp X.2.1 E r_t_town a_town town_told town_round town_x town_hair s.2 u7 u8 hu8) dX11_whoBent_99 (by decide) rfl (Nat.le_of_ble_eq_true rfl) 5 8 rfl rfl [5, 6] rfl (by decide) rfl rfl rfl rfl ?_
    refine g_iand (pc := 102) C dX11_whoBent_102 ?_
    refine g_nm h (fun v9 h => ?_)
    refine g_istore_n (pc := 103) (lv' := [(2, .int v9), (0, .ref o_t), (1, .int x1), (3, .int s.2)]) C dX11_whoBent_103 rfl (by decide) rfl ?_
    refine g_iincn (pc := 104) (j := 3) (d := 1) (lv' := fun v10 => [(3, .int v10), (2, .int v9), (0, .ref o_t), (1, .int x1)]) C dX11_whoBent_104 rfl (by decide) (by decide) (fun _ => rfl) h (fun v10 h => ?_)
    refine g_goto (pc := 107) (tgt := 81) C dX11_whoBent_107 (by decide) ?_
    refine g_sub [2, 3, 1, 0] rfl ?_
    exact ih _ h
set_option maxHeartbeats 4000000 in
set_option maxRecDepth 100000 in
theorem c_X11_whoBent (l : Launch) (E : GE) (o_t : Nat) (r_t_tape : Nat) (r_t_script : Nat) (r_t_hairReader : Nat) (r_t_ordersReader : Nat) (r_t_lawReader : Nat) (r_t_doors : Nat) (r_t_town : Nat) (r_t_kept : Nat) (r_t_trial : Nat) (r_t_walk : Nat) (r_t_reach : Nat) (r_t_lawNow : Nat) (r_t_lawSpare : Nat) (a_tape : Nat → Nat) (a_doors : Nat → Nat) (a_town : Nat → Nat) (t_isKept : Int32) (tape_size : Int32) (tape_bytes : (Nat → Int32)) (doors_told : Int32) (doors_barred : Int32) (doors_fits : (Nat → Int32)) (town_told : Int32) (town_round : Int32) (town_x : Int32) (town_hair : (Nat → Int32)) (x1 : Int32) (r : Int32) (h : f_X11_whoBent tape_size tape_bytes doors_told doors_fits town_told town_hair x1 = some r) : Cn l E yX11_whoBent cX11_whoBent 6 (some .int) 3 0 0 [.ref o_t, .int x1] (W_X11_whoBent E o_t r_t_tape r_t_script r_t_hairReader r_t_ordersReader r_t_lawReader r_t_doors r_t_town r_t_kept r_t_trial r_t_walk r_t_reach r_t_lawNow r_t_lawSpare r_t_tape a_tape r_t_doors a_doors r_t_town a_town t_isKept tape_size tape_bytes doors_told doors_barred doors_fits town_told town_round town_x town_hair) (fun w => w = (W_X11_whoBent E o_t r_t_tape r_t_script r_t_hairReader r_t_ordersReader r_t_lawReader r_t_doors r_t_town r_t_kept r_t_trial r_t_walk r_t_reach r_t_lawNow r_t_lawSpare r_t_tape a_tape r_t_doors a_doors r_t_town a_town t_isKept tape_size tape_bytes doors_told doors_barred doors_fits town_told town_round town_x town_hair)) (some (.int r)) := by
  refine Cn.ofI (by decide +kernel) (Nat.le_of_ble_eq_true rfl) (fun X hX hR C hret => ?_)
  subst hX
  show Gx X E 0 0 (W_X11_whoBent E o_t r_t_tape r_t_script r_t_hairReader r_t_ordersReader r_t_lawReader r_t_doors r_t_town r_t_kept r_t_trial r_t_walk r_t_reach r_t_lawNow r_t_lawSpare r_t_tape a_tape r_t_doors a_doors r_t_town a_town t_isKept tape_size tape_bytes doors_told doors_barred doors_fits town_told town_round town_x town_hair) 0 [(0, .ref o_t), (1, .int x1)] []
  unfold f_X11_whoBent at h
  refine g_aload_n (pc := 0) C dX11_whoBent_0 rfl 0 rfl ?_
  refine g_get (pc := 1) C fl_X11_51 dX11_whoBent_1 0 rfl rfl ?_
  refine g_get (pc := 4) C fl_X11_319 dX11_whoBent_4 5 rfl rfl ?_
  refine g_istore_n (pc := 7) (lv' := [(2, .int town_told), (0, .ref o_t), (1, .int x1)]) C dX11_whoBent_7 rfl (by decide) rfl ?_
  refine g_iconst (pc := 8) (v := 0) C dX11_whoBent_8 (by decide) ?_
  refine g_istore_n (pc := 9) (lv' := [(3, .int (0 : Int32)), (2, .int town_told), (0, .ref o_t), (1, .int x1)]) C dX11_whoBent_9 rfl (by decide) rfl ?_
  refine g_sub [2, 3, 1, 0] rfl ?_
  refine kL_X11_whoBent_10 C o_t r_t_tape r_t_script r_t_hairReader r_t_ordersReader r_t_lawReader r_t_doors r_t_town r_t_kept r_t_trial r_t_walk r_t_reach r_t_lawNow r_t_lawSpare a_tape a_doors a_town t_isKept doors_barred town_round town_x tape_size tape_bytes doors_told doors_fits town_told town_hair x1 town_told _ hret (fun s6 h => ?_) _ _ h
  refine g_iconst (pc := 79) (v := 0) C dX11_whoBent_79 (by decide) ?_
  refine g_istore_n (pc := 80) (lv' := [(3, .int (0 : Int32)), (0, .ref o_t), (1, .int x1), (2, .int town_told)]) C dX11_whoBent_80 rfl (by decide) rfl ?_
  refine g_sub [1, 2, 3, 0] rfl ?_
  refine kL_X11_whoBent_81 C o_t r_t_tape r_t_script r_t_hairReader r_t_ordersReader r_t_lawReader r_t_doors r_t_town r_t_kept r_t_trial r_t_walk r_t_reach r_t_lawNow r_t_lawSpare a_tape a_doors a_town t_isKept doors_barred town_round town_x tape_size tape_bytes doors_told doors_fits town_told town_hair x1 hret  _ _ h
abbrev W_X11_woman (E : GE) (O_t : Nat) (r_t_tape : Nat) (r_t_script : Nat) (r_t_hairReader : Nat) (r_t_ordersReader : Nat) (r_t_lawReader : Nat) (r_t_doors : Nat) (r_t_town : Nat) (r_t_kept : Nat) (r_t_trial : Nat) (r_t_walk : Nat) (r_t_reach : Nat) (r_t_lawNow : Nat) (r_t_lawSpare : Nat) (O_town : Nat) (a_town : Nat → Nat) (t_isKept : Int32) (town_told : Int32) (town_round : Int32) (town_x : Int32) (town_rooms : (Nat → Int32)) : va_W := [(O_t, ob_X11 r_t_tape r_t_script r_t_hairReader r_t_ordersReader r_t_lawReader r_t_doors r_t_town r_t_kept r_t_trial r_t_walk r_t_reach r_t_lawNow r_t_lawSpare t_isKept), (O_town, ob_X9 a_town town_told town_round town_x), (a_town 1, .inl (E.2.1, 10, .inl town_rooms))]
def f_X11_woman (town_told : Int32) (town_rooms : (Nat → Int32)) (x1 : Int32) (x2 : Int32) : Option (Int32 × Int32 × (Nat → Int32)) := (f_X11_isWithin x1 (0 : Int32) (9 : Int32)).bind fun u1 => if u1 = 0 then (some ((0 : Int32), town_told, town_rooms)) else (f_X11_isWithin x2 (0 : Int32) (15 : Int32)).bind fun u2 => if u2 = 0 then (some ((0 : Int32), town_told, town_rooms)) else (f_X9_put town_told town_rooms x1 x2).bind fun u3 => some ((1 : Int32), u3.1, u3.2)
theorem dX11_woman_0 : decode cX11_woman 0 = .ok (.iload_n 1, 1) := by decide +kernel
theorem dX11_woman_1 : decode cX11_woman 1 = .ok (.iconst 0, 1) := by decide +kernel
theorem dX11_woman_2 : decode cX11_woman 2 = .ok (.bipush 9, 2) := by decide +kernel
theorem dX11_woman_4 : decode cX11_woman 4 = .ok (.invokestatic 98, 3) := by decide +kernel
theorem dX11_woman_7 : decode cX11_woman 7 = .ok (.ifCond .eq 13, 3) := by decide +kernel
theorem dX11_woman_10 : decode cX11_woman 10 = .ok (.iload_n 2, 1) := by decide +kernel
theorem dX11_woman_11 : decode cX11_woman 11 = .ok (.iconst 0, 1) := by decide +kernel
theorem dX11_woman_12 : decode cX11_woman 12 = .ok (.bipush 15, 2) := by decide +kernel
theorem dX11_woman_14 : decode cX11_woman 14 = .ok (.invokestatic 98, 3) := by decide +kernel
theorem dX11_woman_17 : decode cX11_woman 17 = .ok (.ifCond .ne 5, 3) := by decide +kernel
theorem dX11_woman_20 : decode cX11_woman 20 = .ok (.iconst 0, 1) := by decide +kernel
theorem dX11_woman_21 : decode cX11_woman 21 = .ok (.ireturn, 1) := by decide +kernel
theorem dX11_woman_22 : decode cX11_woman 22 = .ok (.aload_n 0, 1) := by decide +kernel
theorem dX11_woman_23 : decode cX11_woman 23 = .ok (.getfield 51, 3) := by decide +kernel
theorem dX11_woman_26 : decode cX11_woman 26 = .ok (.iload_n 1, 1) := by decide +kernel
theorem dX11_woman_27 : decode cX11_woman 27 = .ok (.iload_n 2, 1) := by decide +kernel
theorem dX11_woman_28 : decode cX11_woman 28 = .ok (.invokevirtual 102, 3) := by decide +kernel
theorem dX11_woman_31 : decode cX11_woman 31 = .ok (.iconst 1, 1) := by decide +kernel
theorem dX11_woman_32 : decode cX11_woman 32 = .ok (.ireturn, 1) := by decide +kernel
set_option maxHeartbeats 4000000 in
set_option maxRecDepth 100000 in
theorem c_X11_woman (l : Launch) (E : GE) (o_t : Nat) (r_t_tape : Nat) (r_t_script : Nat) (r_t_hairReader : Nat) (r_t_ordersReader : Nat) (r_t_lawReader : Nat) (r_t_doors : Nat) (r_t_town : Nat) (r_t_kept : Nat) (r_t_trial : Nat) (r_t_walk : Nat) (r_t_reach : Nat) (r_t_lawNow : Nat) (r_t_lawSpare : Nat) (a_town : Nat → Nat) (t_isKept : Int32) (town_told : Int32) (town_round : Int32) (town_x : Int32) (town_rooms : (Nat → Int32)) (x1 : Int32) (x2 : Int32) (r : Int32 × Int32 × (Nat → Int32)) (h : f_X11_woman town_told town_rooms x1 x2 = some r) : Cn l E yX11_woman cX11_woman 3 (some .boolean) 3 0 0 [.ref o_t, .int x1, .int x2] (W_X11_woman E o_t r_t_tape r_t_script r_t_hairReader r_t_ordersReader r_t_lawReader r_t_doors r_t_town r_t_kept r_t_trial r_t_walk r_t_reach r_t_lawNow r_t_lawSpare r_t_town a_town t_isKept town_told town_round town_x town_rooms) (fun w => w = (W_X11_woman E o_t r_t_tape r_t_script r_t_hairReader r_t_ordersReader r_t_lawReader r_t_doors r_t_town r_t_kept r_t_trial r_t_walk r_t_reach r_t_lawNow r_t_lawSpare r_t_town a_town t_isKept r.2.1 town_round town_x r.2.2)) (some (.int r.1)) := by
  refine Cn.ofI (by decide +kernel) (Nat.le_of_ble_eq_true rfl) (fun X hX hR C hret => ?_)
  subst hX
  show Gx X E 0 0 (W_X11_woman E o_t r_t_tape r_t_script r_t_hairReader r_t_ordersReader r_t_lawReader r_t_doors r_t_town r_t_kept r_t_trial r_t_walk r_t_reach r_t_lawNow r_t_lawSpare r_t_town a_town t_isKept town_told town_round town_x town_rooms) 0 [(0, .ref o_t), (1, .int x1), (2, .int x2)] []
  unfold f_X11_woman at h
  refine g_iload_n (pc := 0) C dX11_woman_0 rfl 1 rfl ?_
  refine g_iconst (pc := 1) (v := 0) C dX11_woman_1 (by decide) ?_
  refine g_bipush (pc := 2) (v := 9) C dX11_woman_2 (by decide) ?_
  obtain ⟨u1, hu1, h⟩ := bs h
  refine g_callS (pc := 4) (st := []) (st1 := [.int u1]) (ws' := (W_X11_woman E o_t r_t_tape r_t_script r_t_hairReader r_t_ordersReader r_t_lawReader r_t_doors r_t_town r_t_kept r_t_trial r_t_walk r_t_reach r_t_lawNow r_t_lawSpare r_t_town a_town t_isKept town_told town_round town_x town_rooms)) C mv_X11_isWithin ms_X11_isWithin ml_X11_98 (c_X11_isWithin X.2.1 E x1 (0 : Int32) (9 : Int32) u1 hu1) dX11_woman_4 (by decide) rfl (Nat.le_of_ble_eq_true rfl) [] rfl (by decide) rfl rfl rfl rfl ?_
  refine g_if_eq (pc := 7) (tgt := 20) C dX11_woman_7 (by decide) h (fun h => ?_) (fun h => ?_)
  · refine g_iconst (pc := 20) (v := 0) C dX11_woman_20 (by decide) ?_
    cases h
    exact hret _ _ _ dX11_woman_21 nb0 rfl
  · refine g_iload_n (pc := 10) C dX11_woman_10 rfl 2 rfl ?_
    refine g_iconst (pc := 11) (v := 0) C dX11_woman_11 (by decide) ?_
    refine g_bipush (pc := 12) (v := 15) C dX11_woman_12 (by decide) ?_
    obtain ⟨u2, hu2, h⟩ := bs h
    refine g_callS (pc := 14) (st := []) (st1 := [.int u2]) (ws' := (W_X11_woman E o_t r_t_tape r_t_script r_t_hairReader r_t_ordersReader r_t_lawReader r_t_doors r_t_town r_t_kept r_t_trial r_t_walk r_t_reach r_t_lawNow r_t_lawSpare r_t_town a_town t_isKept town_told town_round town_x town_rooms)) C mv_X11_isWithin ms_X11_isWithin ml_X11_98 (c_X11_isWithin X.2.1 E x2 (0 : Int32) (15 : Int32) u2 hu2) dX11_woman_14 (by decide) rfl (Nat.le_of_ble_eq_true rfl) [] rfl (by decide) rfl rfl rfl rfl ?_
    refine g_if_ne (pc := 17) (tgt := 22) C dX11_woman_17 (by decide) h (fun h => ?_) (fun h => ?_)
    · refine g_aload_n (pc := 22) C dX11_woman_22 rfl 0 rfl ?_
      refine g_get (pc := 23) C fl_X11_51 dX11_woman_23 0 rfl rfl ?_
      refine g_iload_n (pc := 26) C dX11_woman_26 rfl 1 rfl ?_
      refine g_iload_n (pc := 27) C dX11_woman_27 rfl 2 rfl ?_
      obtain ⟨u3, hu3, h⟩ := bs h
      refine g_callV (pc := 28) (st := []) (st1 := []) (ws' := (W_X11_woman E o_t r_t_tape r_t_script r_t_hairReader r_t_ordersReader r_t_lawReader r_t_doors r_t_town r_t_kept r_t_trial r_t_walk r_t_reach r_t_lawNow r_t_lawSpare r_t_town a_town t_isKept u3.1 town_round town_x u3.2)) C mv_X9_put mi_X9_put ml_X11_102 (c_X9_put X.2.1 E r_t_town a_town town_told town_round town_x town_rooms x1 x2 u3 hu3) dX11_woman_28 (by decide) rfl (Nat.le_of_ble_eq_true rfl) 1 8 rfl rfl [1, 2] rfl (by decide) rfl rfl rfl rfl ?_
      refine g_iconst (pc := 31) (v := 1) C dX11_woman_31 (by decide) ?_
      cases h
      exact hret _ _ _ dX11_woman_32 nb1 rfl
    · refine g_iconst (pc := 20) (v := 0) C dX11_woman_20 (by decide) ?_
      cases h
      exact hret _ _ _ dX11_woman_21 nb0 rfl
abbrev W_X11_womanIs (E : GE) (O_t : Nat) (r_t_tape : Nat) (r_t_script : Nat) (r_t_hairReader : Nat) (r_t_ordersReader : Nat) (r_t_lawReader : Nat) (r_t_doors : Nat) (r_t_town : Nat) (r_t_kept : Nat) (r_t_trial : Nat) (r_t_walk : Nat) (r_t_reach : Nat) (r_t_lawNow : Nat) (r_t_lawSpare : Nat) (O_town : Nat) (a_town : Nat → Nat) (t_isKept : Int32) (town_told : Int32) (town_round : Int32) (town_x : Int32) (town_rooms : (Nat → Int32)) (town_hair : (Nat → Int32)) (town_pins : (Nat → Int32)) : va_W := [(O_t, ob_X11 r_t_tape r_t_script r_t_hairReader r_t_ordersReader r_t_lawReader r_t_doors r_t_town r_t_kept r_t_trial r_t_walk r_t_reach r_t_lawNow r_t_lawSpare t_isKept), (O_town, ob_X9 a_town town_told town_round town_x), (a_town 1, .inl (E.2.1, 10, .inl town_rooms)), (a_town 2, .inl (E.2.1, 60, .inl town_hair)), (a_town 3, .inl (E.2.1, 60, .inl town_pins))]
def f_X11_womanIs (town_told : Int32) (town_rooms : (Nat → Int32)) (town_hair : (Nat → Int32)) (town_pins : (Nat → Int32)) (x1 : Int32) (x2 : Int32) : Option (Int32) := (f_X9_isTold town_told x1).bind fun u1 => if u1 = 0 then (some (-1 : Int32)) else if x2 = 0 then ((f_X9_roomOf town_told town_rooms x1).bind fun u7 => some u7) else if x2 = (1 : Int32) then ((f_X9_pinsOf town_told town_pins x1).bind fun u6 => some u6) else (f_X11_isWithin x2 (10 : Int32) (15 : Int32)).bind fun u2 => if u2 = 0 then ((f_X11_isWithin x2 (20 : Int32) (25 : Int32)).bind fun u3 => if u3 = 0 then (some (-1 : Int32)) else rd town_hair 60 (((x1 * (6 : Int32)) + x2) - (20 : Int32)) fun v4 => some v4) else (f_X9_pinsOfKind town_told town_pins x1 (x2 - (10 : Int32))).bind fun u5 => some u5
theorem dX11_womanIs_0 : decode cX11_womanIs 0 = .ok (.aload_n 0, 1) := by decide +kernel
theorem dX11_womanIs_1 : decode cX11_womanIs 1 = .ok (.getfield 51, 3) := by decide +kernel
theorem dX11_womanIs_4 : decode cX11_womanIs 4 = .ok (.iload_n 1, 1) := by decide +kernel
theorem dX11_womanIs_5 : decode cX11_womanIs 5 = .ok (.invokevirtual 134, 3) := by decide +kernel
theorem dX11_womanIs_8 : decode cX11_womanIs 8 = .ok (.ifCond .ne 5, 3) := by decide +kernel
theorem dX11_womanIs_11 : decode cX11_womanIs 11 = .ok (.iconst (-1), 1) := by decide +kernel
theorem dX11_womanIs_12 : decode cX11_womanIs 12 = .ok (.ireturn, 1) := by decide +kernel
theorem dX11_womanIs_13 : decode cX11_womanIs 13 = .ok (.iload_n 2, 1) := by decide +kernel
theorem dX11_womanIs_14 : decode cX11_womanIs 14 = .ok (.ifCond .ne 12, 3) := by decide +kernel
theorem dX11_womanIs_17 : decode cX11_womanIs 17 = .ok (.aload_n 0, 1) := by decide +kernel
theorem dX11_womanIs_18 : decode cX11_womanIs 18 = .ok (.getfield 51, 3) := by decide +kernel
theorem dX11_womanIs_21 : decode cX11_womanIs 21 = .ok (.iload_n 1, 1) := by decide +kernel
theorem dX11_womanIs_22 : decode cX11_womanIs 22 = .ok (.invokevirtual 195, 3) := by decide +kernel
theorem dX11_womanIs_25 : decode cX11_womanIs 25 = .ok (.ireturn, 1) := by decide +kernel
theorem dX11_womanIs_26 : decode cX11_womanIs 26 = .ok (.iload_n 2, 1) := by decide +kernel
theorem dX11_womanIs_27 : decode cX11_womanIs 27 = .ok (.iconst 1, 1) := by decide +kernel
theorem dX11_womanIs_28 : decode cX11_womanIs 28 = .ok (.if_icmp .ne 12, 3) := by decide +kernel
theorem dX11_womanIs_31 : decode cX11_womanIs 31 = .ok (.aload_n 0, 1) := by decide +kernel
theorem dX11_womanIs_32 : decode cX11_womanIs 32 = .ok (.getfield 51, 3) := by decide +kernel
theorem dX11_womanIs_35 : decode cX11_womanIs 35 = .ok (.iload_n 1, 1) := by decide +kernel
theorem dX11_womanIs_36 : decode cX11_womanIs 36 = .ok (.invokevirtual 148, 3) := by decide +kernel
theorem dX11_womanIs_39 : decode cX11_womanIs 39 = .ok (.ireturn, 1) := by decide +kernel
theorem dX11_womanIs_40 : decode cX11_womanIs 40 = .ok (.iload_n 2, 1) := by decide +kernel
theorem dX11_womanIs_41 : decode cX11_womanIs 41 = .ok (.bipush 10, 2) := by decide +kernel
theorem dX11_womanIs_43 : decode cX11_womanIs 43 = .ok (.bipush 15, 2) := by decide +kernel
theorem dX11_womanIs_45 : decode cX11_womanIs 45 = .ok (.invokestatic 98, 3) := by decide +kernel
theorem dX11_womanIs_48 : decode cX11_womanIs 48 = .ok (.ifCond .eq 16, 3) := by decide +kernel
theorem dX11_womanIs_51 : decode cX11_womanIs 51 = .ok (.aload_n 0, 1) := by decide +kernel
theorem dX11_womanIs_52 : decode cX11_womanIs 52 = .ok (.getfield 51, 3) := by decide +kernel
theorem dX11_womanIs_55 : decode cX11_womanIs 55 = .ok (.iload_n 1, 1) := by decide +kernel
theorem dX11_womanIs_56 : decode cX11_womanIs 56 = .ok (.iload_n 2, 1) := by decide +kernel
theorem dX11_womanIs_57 : decode cX11_womanIs 57 = .ok (.bipush 10, 2) := by decide +kernel
theorem dX11_womanIs_59 : decode cX11_womanIs 59 = .ok (.isub, 1) := by decide +kernel
theorem dX11_womanIs_60 : decode cX11_womanIs 60 = .ok (.invokevirtual 198, 3) := by decide +kernel
theorem dX11_womanIs_63 : decode cX11_womanIs 63 = .ok (.ireturn, 1) := by decide +kernel
theorem dX11_womanIs_64 : decode cX11_womanIs 64 = .ok (.iload_n 2, 1) := by decide +kernel
theorem dX11_womanIs_65 : decode cX11_womanIs 65 = .ok (.bipush 20, 2) := by decide +kernel
theorem dX11_womanIs_67 : decode cX11_womanIs 67 = .ok (.bipush 25, 2) := by decide +kernel
theorem dX11_womanIs_69 : decode cX11_womanIs 69 = .ok (.invokestatic 98, 3) := by decide +kernel
theorem dX11_womanIs_72 : decode cX11_womanIs 72 = .ok (.ifCond .eq 21, 3) := by decide +kernel
theorem dX11_womanIs_75 : decode cX11_womanIs 75 = .ok (.aload_n 0, 1) := by decide +kernel
theorem dX11_womanIs_76 : decode cX11_womanIs 76 = .ok (.getfield 51, 3) := by decide +kernel
theorem dX11_womanIs_79 : decode cX11_womanIs 79 = .ok (.getfield 175, 3) := by decide +kernel
theorem dX11_womanIs_82 : decode cX11_womanIs 82 = .ok (.iload_n 1, 1) := by decide +kernel
theorem dX11_womanIs_83 : decode cX11_womanIs 83 = .ok (.bipush 6, 2) := by decide +kernel
theorem dX11_womanIs_85 : decode cX11_womanIs 85 = .ok (.imul, 1) := by decide +kernel
theorem dX11_womanIs_86 : decode cX11_womanIs 86 = .ok (.iload_n 2, 1) := by decide +kernel
theorem dX11_womanIs_87 : decode cX11_womanIs 87 = .ok (.iadd, 1) := by decide +kernel
theorem dX11_womanIs_88 : decode cX11_womanIs 88 = .ok (.bipush 20, 2) := by decide +kernel
theorem dX11_womanIs_90 : decode cX11_womanIs 90 = .ok (.isub, 1) := by decide +kernel
theorem dX11_womanIs_91 : decode cX11_womanIs 91 = .ok (.iaload, 1) := by decide +kernel
theorem dX11_womanIs_92 : decode cX11_womanIs 92 = .ok (.ireturn, 1) := by decide +kernel
theorem dX11_womanIs_93 : decode cX11_womanIs 93 = .ok (.iconst (-1), 1) := by decide +kernel
theorem dX11_womanIs_94 : decode cX11_womanIs 94 = .ok (.ireturn, 1) := by decide +kernel
set_option maxHeartbeats 4000000 in
set_option maxRecDepth 100000 in
theorem c_X11_womanIs (l : Launch) (E : GE) (o_t : Nat) (r_t_tape : Nat) (r_t_script : Nat) (r_t_hairReader : Nat) (r_t_ordersReader : Nat) (r_t_lawReader : Nat) (r_t_doors : Nat) (r_t_town : Nat) (r_t_kept : Nat) (r_t_trial : Nat) (r_t_walk : Nat) (r_t_reach : Nat) (r_t_lawNow : Nat) (r_t_lawSpare : Nat) (a_town : Nat → Nat) (t_isKept : Int32) (town_told : Int32) (town_round : Int32) (town_x : Int32) (town_rooms : (Nat → Int32)) (town_hair : (Nat → Int32)) (town_pins : (Nat → Int32)) (x1 : Int32) (x2 : Int32) (r : Int32) (h : f_X11_womanIs town_told town_rooms town_hair town_pins x1 x2 = some r) : Cn l E yX11_womanIs cX11_womanIs 3 (some .int) 3 0 0 [.ref o_t, .int x1, .int x2] (W_X11_womanIs E o_t r_t_tape r_t_script r_t_hairReader r_t_ordersReader r_t_lawReader r_t_doors r_t_town r_t_kept r_t_trial r_t_walk r_t_reach r_t_lawNow r_t_lawSpare r_t_town a_town t_isKept town_told town_round town_x town_rooms town_hair town_pins) (fun w => w = (W_X11_womanIs E o_t r_t_tape r_t_script r_t_hairReader r_t_ordersReader r_t_lawReader r_t_doors r_t_town r_t_kept r_t_trial r_t_walk r_t_reach r_t_lawNow r_t_lawSpare r_t_town a_town t_isKept town_told town_round town_x town_rooms town_hair town_pins)) (some (.int r)) := by
  refine Cn.ofI (by decide +kernel) (Nat.le_of_ble_eq_true rfl) (fun X hX hR C hret => ?_)
  subst hX
  show Gx X E 0 0 (W_X11_womanIs E o_t r_t_tape r_t_script r_t_hairReader r_t_ordersReader r_t_lawReader r_t_doors r_t_town r_t_kept r_t_trial r_t_walk r_t_reach r_t_lawNow r_t_lawSpare r_t_town a_town t_isKept town_told town_round town_x town_rooms town_hair town_pins) 0 [(0, .ref o_t), (1, .int x1), (2, .int x2)] []
  unfold f_X11_womanIs at h
  refine g_aload_n (pc := 0) C dX11_womanIs_0 rfl 0 rfl ?_
  refine g_get (pc := 1) C fl_X11_51 dX11_womanIs_1 0 rfl rfl ?_
  refine g_iload_n (pc := 4) C dX11_womanIs_4 rfl 1 rfl ?_
  obtain ⟨u1, hu1, h⟩ := bs h
  refine g_callV (pc := 5) (st := []) (st1 := [.int u1]) (ws' := (W_X11_womanIs E o_t r_t_tape r_t_script r_t_hairReader r_t_ordersReader r_t_lawReader r_t_doors r_t_town r_t_kept r_t_trial r_t_walk r_t_reach r_t_lawNow r_t_lawSpare r_t_town a_town t_isKept town_told town_round town_x town_rooms town_hair town_pins)) C mv_X9_isTold mi_X9_isTold ml_X11_134 (c_X9_isTold X.2.1 E r_t_town a_town town_told town_round town_x x1 u1 hu1) dX11_womanIs_5 (by decide) rfl (Nat.le_of_ble_eq_true rfl) 1 8 rfl rfl [1] rfl (by decide) rfl rfl rfl rfl ?_
  refine g_if_ne (pc := 8) (tgt := 13) C dX11_womanIs_8 (by decide) h (fun h => ?_) (fun h => ?_)
  · refine g_iload_n (pc := 13) C dX11_womanIs_13 rfl 2 rfl ?_
    refine g_if_ne (pc := 14) (tgt := 26) C dX11_womanIs_14 (by decide) h (fun h => ?_) (fun h => ?_)
    · refine g_iload_n (pc := 26) C dX11_womanIs_26 rfl 2 rfl ?_
      refine g_iconst (pc := 27) (v := 1) C dX11_womanIs_27 (by decide) ?_
      refine g_icmp_ne (pc := 28) (tgt := 40) C dX11_womanIs_28 (by decide) h (fun h => ?_) (fun h => ?_)
      · refine g_iload_n (pc := 40) C dX11_womanIs_40 rfl 2 rfl ?_
        refine g_bipush (pc := 41) (v := 10) C dX11_womanIs_41 (by decide) ?_
        refine g_bipush (pc := 43) (v := 15) C dX11_womanIs_43 (by decide) ?_
        obtain ⟨u2, hu2, h⟩ := bs h
        refine g_callS (pc := 45) (st := []) (st1 := [.int u2]) (ws' := (W_X11_womanIs E o_t r_t_tape r_t_script r_t_hairReader r_t_ordersReader r_t_lawReader r_t_doors r_t_town r_t_kept r_t_trial r_t_walk r_t_reach r_t_lawNow r_t_lawSpare r_t_town a_town t_isKept town_told town_round town_x town_rooms town_hair town_pins)) C mv_X11_isWithin ms_X11_isWithin ml_X11_98 (c_X11_isWithin X.2.1 E x2 (10 : Int32) (15 : Int32) u2 hu2) dX11_womanIs_45 (by decide) rfl (Nat.le_of_ble_eq_true rfl) [] rfl (by decide) rfl rfl rfl rfl ?_
        refine g_if_eq (pc := 48) (tgt := 64) C dX11_womanIs_48 (by decide) h (fun h => ?_) (fun h => ?_)
        · refine g_iload_n (pc := 64) C dX11_womanIs_64 rfl 2 rfl ?_
          refine g_bipush (pc := 65) (v := 20) C dX11_womanIs_65 (by decide) ?_
          refine g_bipush (pc := 67) (v := 25) C dX11_womanIs_67 (by decide) ?_
          obtain ⟨u3, hu3, h⟩ := bs h
          refine g_callS (pc := 69) (st := []) (st1 := [.int u3]) (ws' := (W_X11_womanIs E o_t r_t_tape r_t_script r_t_hairReader r_t_ordersReader r_t_lawReader r_t_doors r_t_town r_t_kept r_t_trial r_t_walk r_t_reach r_t_lawNow r_t_lawSpare r_t_town a_town t_isKept town_told town_round town_x town_rooms town_hair town_pins)) C mv_X11_isWithin ms_X11_isWithin ml_X11_98 (c_X11_isWithin X.2.1 E x2 (20 : Int32) (25 : Int32) u3 hu3) dX11_womanIs_69 (by decide) rfl (Nat.le_of_ble_eq_true rfl) [] rfl (by decide) rfl rfl rfl rfl ?_
          refine g_if_eq (pc := 72) (tgt := 93) C dX11_womanIs_72 (by decide) h (fun h => ?_) (fun h => ?_)
          · refine g_iconst (pc := 93) (v := -1) C dX11_womanIs_93 (by decide) ?_
            cases h
            exact hret _ _ _ dX11_womanIs_94 rfl rfl
          · refine g_aload_n (pc := 75) C dX11_womanIs_75 rfl 0 rfl ?_
            refine g_get (pc := 76) C fl_X11_51 dX11_womanIs_76 0 rfl rfl ?_
            refine g_get (pc := 79) C fl_X11_175 dX11_womanIs_79 1 rfl rfl ?_
            refine g_iload_n (pc := 82) C dX11_womanIs_82 rfl 1 rfl ?_
            refine g_bipush (pc := 83) (v := 6) C dX11_womanIs_83 (by decide) ?_
            refine g_imul (pc := 85) C dX11_womanIs_85 ?_
            refine g_iload_n (pc := 86) C dX11_womanIs_86 rfl 2 rfl ?_
            refine g_iadd (pc := 87) C dX11_womanIs_87 ?_
            refine g_bipush (pc := 88) (v := 20) C dX11_womanIs_88 (by decide) ?_
            refine g_isub (pc := 90) C dX11_womanIs_90 ?_
            refine g_iald (pc := 91) C dX11_womanIs_91 3 rfl h (fun v4 h => ?_)
            cases h
            exact hret _ _ _ dX11_womanIs_92 rfl rfl
        · refine g_aload_n (pc := 51) C dX11_womanIs_51 rfl 0 rfl ?_
          refine g_get (pc := 52) C fl_X11_51 dX11_womanIs_52 0 rfl rfl ?_
          refine g_iload_n (pc := 55) C dX11_womanIs_55 rfl 1 rfl ?_
          refine g_iload_n (pc := 56) C dX11_womanIs_56 rfl 2 rfl ?_
          refine g_bipush (pc := 57) (v := 10) C dX11_womanIs_57 (by decide) ?_
          refine g_isub (pc := 59) C dX11_womanIs_59 ?_
          obtain ⟨u5, hu5, h⟩ := bs h
          refine g_callV (pc := 60) (st := []) (st1 := [.int u5]) (ws' := (W_X11_womanIs E o_t r_t_tape r_t_script r_t_hairReader r_t_ordersReader r_t_lawReader r_t_doors r_t_town r_t_kept r_t_trial r_t_walk r_t_reach r_t_lawNow r_t_lawSpare r_t_town a_town t_isKept town_told town_round town_x town_rooms town_hair town_pins)) C mv_X9_pinsOfKind mi_X9_pinsOfKind ml_X11_198 (c_X9_pinsOfKind X.2.1 E r_t_town a_town town_told town_round town_x town_pins x1 (x2 - (10 : Int32)) u5 hu5) dX11_womanIs_60 (by decide) rfl (Nat.le_of_ble_eq_true rfl) 1 8 rfl rfl [1, 4] rfl (by decide) rfl rfl rfl rfl ?_
          cases h
          exact hret _ _ _ dX11_womanIs_63 rfl rfl
      · refine g_aload_n (pc := 31) C dX11_womanIs_31 rfl 0 rfl ?_
        refine g_get (pc := 32) C fl_X11_51 dX11_womanIs_32 0 rfl rfl ?_
        refine g_iload_n (pc := 35) C dX11_womanIs_35 rfl 1 rfl ?_
        obtain ⟨u6, hu6, h⟩ := bs h
        refine g_callV (pc := 36) (st := []) (st1 := [.int u6]) (ws' := (W_X11_womanIs E o_t r_t_tape r_t_script r_t_hairReader r_t_ordersReader r_t_lawReader r_t_doors r_t_town r_t_kept r_t_trial r_t_walk r_t_reach r_t_lawNow r_t_lawSpare r_t_town a_town t_isKept town_told town_round town_x town_rooms town_hair town_pins)) C mv_X9_pinsOf mi_X9_pinsOf ml_X11_148 (c_X9_pinsOf X.2.1 E r_t_town a_town town_told town_round town_x town_pins x1 u6 hu6) dX11_womanIs_36 (by decide) rfl (Nat.le_of_ble_eq_true rfl) 1 8 rfl rfl [1, 4] rfl (by decide) rfl rfl rfl rfl ?_
        cases h
        exact hret _ _ _ dX11_womanIs_39 rfl rfl
    · refine g_aload_n (pc := 17) C dX11_womanIs_17 rfl 0 rfl ?_
      refine g_get (pc := 18) C fl_X11_51 dX11_womanIs_18 0 rfl rfl ?_
      refine g_iload_n (pc := 21) C dX11_womanIs_21 rfl 1 rfl ?_
      obtain ⟨u7, hu7, h⟩ := bs h
      refine g_callV (pc := 22) (st := []) (st1 := [.int u7]) (ws' := (W_X11_womanIs E o_t r_t_tape r_t_script r_t_hairReader r_t_ordersReader r_t_lawReader r_t_doors r_t_town r_t_kept r_t_trial r_t_walk r_t_reach r_t_lawNow r_t_lawSpare r_t_town a_town t_isKept town_told town_round town_x town_rooms town_hair town_pins)) C mv_X9_roomOf mi_X9_roomOf ml_X11_195 (c_X9_roomOf X.2.1 E r_t_town a_town town_told town_round town_x town_rooms x1 u7 hu7) dX11_womanIs_22 (by decide) rfl (Nat.le_of_ble_eq_true rfl) 1 8 rfl rfl [1, 2] rfl (by decide) rfl rfl rfl rfl ?_
      cases h
      exact hret _ _ _ dX11_womanIs_25 rfl rfl
  · refine g_iconst (pc := 11) (v := -1) C dX11_womanIs_11 (by decide) ?_
    cases h
    exact hret _ _ _ dX11_womanIs_12 rfl rfl
abbrev W_X11_atOnce (E : GE) (O_t : Nat) (r_t_tape : Nat) (r_t_script : Nat) (r_t_hairReader : Nat) (r_t_ordersReader : Nat) (r_t_lawReader : Nat) (r_t_doors : Nat) (r_t_town : Nat) (r_t_kept : Nat) (r_t_trial : Nat) (r_t_walk : Nat) (r_t_reach : Nat) (r_t_lawNow : Nat) (r_t_lawSpare : Nat) (O_doors : Nat) (a_doors : Nat → Nat) (O_town : Nat) (a_town : Nat → Nat) (t_isKept : Int32) (doors_told : Int32) (doors_barred : Int32) (doors_one : (Nat → Int32)) (doors_other : (Nat → Int32)) (doors_fits : (Nat → Int32)) (town_told : Int32) (town_round : Int32) (town_x : Int32) (town_rooms : (Nat → Int32)) (town_pins : (Nat → Int32)) : va_W := [(O_t, ob_X11 r_t_tape r_t_script r_t_hairReader r_t_ordersReader r_t_lawReader r_t_doors r_t_town r_t_kept r_t_trial r_t_walk r_t_reach r_t_lawNow r_t_lawSpare t_isKept), (O_doors, ob_X0 a_doors doors_told doors_barred), (a_doors 0, .inl (E.2.1, 24, .inl doors_one)), (a_doors 1, .inl (E.2.1, 24, .inl doors_other)), (a_doors 3, .inl (E.2.1, 24, .inl doors_fits)), (O_town, ob_X9 a_town town_told town_round town_x), (a_town 1, .inl (E.2.1, 10, .inl town_rooms)), (a_town 3, .inl (E.2.1, 60, .inl town_pins))]
def f_X11_atOnce (doors_told : Int32) (doors_barred : Int32) (doors_one : (Nat → Int32)) (doors_other : (Nat → Int32)) (doors_fits : (Nat → Int32)) (town_told : Int32) (town_rooms : (Nat → Int32)) (town_pins : (Nat → Int32)) (x1 : Int32) (x2 : Int32) : Option (Int32) := (f_X9_isTold town_told x1).bind fun u1 => if u1 = 0 then (some (-1 : Int32)) else (f_X11_isWithin x2 (0 : Int32) (1 : Int32)).bind fun u2 => if u2 = 0 then (some (-1 : Int32)) else (f_X0_unbarred doors_told doors_barred).bind fun u3 => jn (fun s4 : Int32 => (f_X11_mostOpened doors_fits town_told town_pins x1 s4).bind fun u5 => some u5) fun j53 => if x2 = (1 : Int32) then ((f_X9_roomOf town_told town_rooms x1).bind fun u6 => (f_X0_ofRoom doors_told doors_one doors_other u6).bind fun u7 => nm (u3 &&& u7) fun v8 => j53 v8) else j53 u3
theorem dX11_atOnce_0 : decode cX11_atOnce 0 = .ok (.aload_n 0, 1) := by decide +kernel
theorem dX11_atOnce_1 : decode cX11_atOnce 1 = .ok (.getfield 51, 3) := by decide +kernel
theorem dX11_atOnce_4 : decode cX11_atOnce 4 = .ok (.iload_n 1, 1) := by decide +kernel
theorem dX11_atOnce_5 : decode cX11_atOnce 5 = .ok (.invokevirtual 134, 3) := by decide +kernel
theorem dX11_atOnce_8 : decode cX11_atOnce 8 = .ok (.ifCond .eq 12, 3) := by decide +kernel
theorem dX11_atOnce_11 : decode cX11_atOnce 11 = .ok (.iload_n 2, 1) := by decide +kernel
theorem dX11_atOnce_12 : decode cX11_atOnce 12 = .ok (.iconst 0, 1) := by decide +kernel
theorem dX11_atOnce_13 : decode cX11_atOnce 13 = .ok (.iconst 1, 1) := by decide +kernel
theorem dX11_atOnce_14 : decode cX11_atOnce 14 = .ok (.invokestatic 98, 3) := by decide +kernel
theorem dX11_atOnce_17 : decode cX11_atOnce 17 = .ok (.ifCond .ne 5, 3) := by decide +kernel
theorem dX11_atOnce_20 : decode cX11_atOnce 20 = .ok (.iconst (-1), 1) := by decide +kernel
theorem dX11_atOnce_21 : decode cX11_atOnce 21 = .ok (.ireturn, 1) := by decide +kernel
theorem dX11_atOnce_22 : decode cX11_atOnce 22 = .ok (.aload_n 0, 1) := by decide +kernel
theorem dX11_atOnce_23 : decode cX11_atOnce 23 = .ok (.getfield 44, 3) := by decide +kernel
theorem dX11_atOnce_26 : decode cX11_atOnce 26 = .ok (.invokevirtual 238, 3) := by decide +kernel
theorem dX11_atOnce_29 : decode cX11_atOnce 29 = .ok (.istore_n 3, 1) := by decide +kernel
theorem dX11_atOnce_30 : decode cX11_atOnce 30 = .ok (.iload_n 2, 1) := by decide +kernel
theorem dX11_atOnce_31 : decode cX11_atOnce 31 = .ok (.iconst 1, 1) := by decide +kernel
theorem dX11_atOnce_32 : decode cX11_atOnce 32 = .ok (.if_icmp .ne 21, 3) := by decide +kernel
theorem dX11_atOnce_35 : decode cX11_atOnce 35 = .ok (.iload_n 3, 1) := by decide +kernel
theorem dX11_atOnce_36 : decode cX11_atOnce 36 = .ok (.aload_n 0, 1) := by decide +kernel
theorem dX11_atOnce_37 : decode cX11_atOnce 37 = .ok (.getfield 44, 3) := by decide +kernel
theorem dX11_atOnce_40 : decode cX11_atOnce 40 = .ok (.aload_n 0, 1) := by decide +kernel
theorem dX11_atOnce_41 : decode cX11_atOnce 41 = .ok (.getfield 51, 3) := by decide +kernel
theorem dX11_atOnce_44 : decode cX11_atOnce 44 = .ok (.iload_n 1, 1) := by decide +kernel
theorem dX11_atOnce_45 : decode cX11_atOnce 45 = .ok (.invokevirtual 195, 3) := by decide +kernel
theorem dX11_atOnce_48 : decode cX11_atOnce 48 = .ok (.invokevirtual 241, 3) := by decide +kernel
theorem dX11_atOnce_51 : decode cX11_atOnce 51 = .ok (.iand, 1) := by decide +kernel
theorem dX11_atOnce_52 : decode cX11_atOnce 52 = .ok (.istore_n 3, 1) := by decide +kernel
theorem dX11_atOnce_53 : decode cX11_atOnce 53 = .ok (.aload_n 0, 1) := by decide +kernel
theorem dX11_atOnce_54 : decode cX11_atOnce 54 = .ok (.iload_n 1, 1) := by decide +kernel
theorem dX11_atOnce_55 : decode cX11_atOnce 55 = .ok (.iload_n 3, 1) := by decide +kernel
theorem dX11_atOnce_56 : decode cX11_atOnce 56 = .ok (.invokevirtual 244, 3) := by decide +kernel
theorem dX11_atOnce_59 : decode cX11_atOnce 59 = .ok (.ireturn, 1) := by decide +kernel
set_option maxHeartbeats 4000000 in
set_option maxRecDepth 100000 in
theorem c_X11_atOnce (l : Launch) (E : GE) (o_t : Nat) (r_t_tape : Nat) (r_t_script : Nat) (r_t_hairReader : Nat) (r_t_ordersReader : Nat) (r_t_lawReader : Nat) (r_t_doors : Nat) (r_t_town : Nat) (r_t_kept : Nat) (r_t_trial : Nat) (r_t_walk : Nat) (r_t_reach : Nat) (r_t_lawNow : Nat) (r_t_lawSpare : Nat) (a_doors : Nat → Nat) (a_town : Nat → Nat) (t_isKept : Int32) (doors_told : Int32) (doors_barred : Int32) (doors_one : (Nat → Int32)) (doors_other : (Nat → Int32)) (doors_fits : (Nat → Int32)) (town_told : Int32) (town_round : Int32) (town_x : Int32) (town_rooms : (Nat → Int32)) (town_pins : (Nat → Int32)) (x1 : Int32) (x2 : Int32) (r : Int32) (h : f_X11_atOnce doors_told doors_barred doors_one doors_other doors_fits town_told town_rooms town_pins x1 x2 = some r) : Cn l E yX11_atOnce cX11_atOnce 4 (some .int) 4 0 0 [.ref o_t, .int x1, .int x2] (W_X11_atOnce E o_t r_t_tape r_t_script r_t_hairReader r_t_ordersReader r_t_lawReader r_t_doors r_t_town r_t_kept r_t_trial r_t_walk r_t_reach r_t_lawNow r_t_lawSpare r_t_doors a_doors r_t_town a_town t_isKept doors_told doors_barred doors_one doors_other doors_fits town_told town_round town_x town_rooms town_pins) (fun w => w = (W_X11_atOnce E o_t r_t_tape r_t_script r_t_hairReader r_t_ordersReader r_t_lawReader r_t_doors r_t_town r_t_kept r_t_trial r_t_walk r_t_reach r_t_lawNow r_t_lawSpare r_t_doors a_doors r_t_town a_town t_isKept doors_told doors_barred doors_one doors_other doors_fits town_told town_round town_x town_rooms town_pins)) (some (.int r)) := by
  refine Cn.ofI (by decide +kernel) (Nat.le_of_ble_eq_true rfl) (fun X hX hR C hret => ?_)
  subst hX
  show Gx X E 0 0 (W_X11_atOnce E o_t r_t_tape r_t_script r_t_hairReader r_t_ordersReader r_t_lawReader r_t_doors r_t_town r_t_kept r_t_trial r_t_walk r_t_reach r_t_lawNow r_t_lawSpare r_t_doors a_doors r_t_town a_town t_isKept doors_told doors_barred doors_one doors_other doors_fits town_told town_round town_x town_rooms town_pins) 0 [(0, .ref o_t), (1, .int x1), (2, .int x2)] []
  unfold f_X11_atOnce at h
  refine g_aload_n (pc := 0) C dX11_atOnce_0 rfl 0 rfl ?_
  refine g_get (pc := 1) C fl_X11_51 dX11_atOnce_1 0 rfl rfl ?_
  refine g_iload_n (pc := 4) C dX11_atOnce_4 rfl 1 rfl ?_
  obtain ⟨u1, hu1, h⟩ := bs h
  refine g_callV (pc := 5) (st := []) (st1 := [.int u1]) (ws' := (W_X11_atOnce E o_t r_t_tape r_t_script r_t_hairReader r_t_ordersReader r_t_lawReader r_t_doors r_t_town r_t_kept r_t_trial r_t_walk r_t_reach r_t_lawNow r_t_lawSpare r_t_doors a_doors r_t_town a_town t_isKept doors_told doors_barred doors_one doors_other doors_fits town_told town_round town_x town_rooms town_pins)) C mv_X9_isTold mi_X9_isTold ml_X11_134 (c_X9_isTold X.2.1 E r_t_town a_town town_told town_round town_x x1 u1 hu1) dX11_atOnce_5 (by decide) rfl (Nat.le_of_ble_eq_true rfl) 5 8 rfl rfl [5] rfl (by decide) rfl rfl rfl rfl ?_
  refine g_if_eq (pc := 8) (tgt := 20) C dX11_atOnce_8 (by decide) h (fun h => ?_) (fun h => ?_)
  · refine g_iconst (pc := 20) (v := -1) C dX11_atOnce_20 (by decide) ?_
    cases h
    exact hret _ _ _ dX11_atOnce_21 rfl rfl
  · refine g_iload_n (pc := 11) C dX11_atOnce_11 rfl 2 rfl ?_
    refine g_iconst (pc := 12) (v := 0) C dX11_atOnce_12 (by decide) ?_
    refine g_iconst (pc := 13) (v := 1) C dX11_atOnce_13 (by decide) ?_
    obtain ⟨u2, hu2, h⟩ := bs h
    refine g_callS (pc := 14) (st := []) (st1 := [.int u2]) (ws' := (W_X11_atOnce E o_t r_t_tape r_t_script r_t_hairReader r_t_ordersReader r_t_lawReader r_t_doors r_t_town r_t_kept r_t_trial r_t_walk r_t_reach r_t_lawNow r_t_lawSpare r_t_doors a_doors r_t_town a_town t_isKept doors_told doors_barred doors_one doors_other doors_fits town_told town_round town_x town_rooms town_pins)) C mv_X11_isWithin ms_X11_isWithin ml_X11_98 (c_X11_isWithin X.2.1 E x2 (0 : Int32) (1 : Int32) u2 hu2) dX11_atOnce_14 (by decide) rfl (Nat.le_of_ble_eq_true rfl) [] rfl (by decide) rfl rfl rfl rfl ?_
    refine g_if_ne (pc := 17) (tgt := 22) C dX11_atOnce_17 (by decide) h (fun h => ?_) (fun h => ?_)
    · refine g_aload_n (pc := 22) C dX11_atOnce_22 rfl 0 rfl ?_
      refine g_get (pc := 23) C fl_X11_44 dX11_atOnce_23 0 rfl rfl ?_
      obtain ⟨u3, hu3, h⟩ := bs h
      refine g_callV (pc := 26) (st := []) (st1 := [.int u3]) (ws' := (W_X11_atOnce E o_t r_t_tape r_t_script r_t_hairReader r_t_ordersReader r_t_lawReader r_t_doors r_t_town r_t_kept r_t_trial r_t_walk r_t_reach r_t_lawNow r_t_lawSpare r_t_doors a_doors r_t_town a_town t_isKept doors_told doors_barred doors_one doors_other doors_fits town_told town_round town_x town_rooms town_pins)) C mv_X0_unbarred mi_X0_unbarred ml_X11_238 (c_X0_unbarred X.2.1 E r_t_doors a_doors doors_told doors_barred u3 hu3) dX11_atOnce_26 (by decide) rfl (Nat.le_of_ble_eq_true rfl) 1 0 rfl rfl [1] rfl (by decide) rfl rfl rfl rfl ?_
      refine g_istore_n (pc := 29) (lv' := [(3, .int u3), (0, .ref o_t), (1, .int x1), (2, .int x2)]) C dX11_atOnce_29 rfl (by decide) rfl ?_
      refine g_iload_n (pc := 30) C dX11_atOnce_30 rfl 3 rfl ?_
      refine g_iconst (pc := 31) (v := 1) C dX11_atOnce_31 (by decide) ?_
      refine g_jn (fun s4 : Int32 => Gx X E 0 0 (W_X11_atOnce E o_t r_t_tape r_t_script r_t_hairReader r_t_ordersReader r_t_lawReader r_t_doors r_t_town r_t_kept r_t_trial r_t_walk r_t_reach r_t_lawNow r_t_lawSpare r_t_doors a_doors r_t_town a_town t_isKept doors_told doors_barred doors_one doors_other doors_fits town_told town_round town_x town_rooms town_pins) 53 [(0, .ref o_t), (1, .int x1), (3, .int s4)] []) h (fun s4 h => ?_) (fun j53 hj53 h => ?_)
      · refine g_aload_n (pc := 53) C dX11_atOnce_53 rfl 0 rfl ?_
        refine g_iload_n (pc := 54) C dX11_atOnce_54 rfl 1 rfl ?_
        refine g_iload_n (pc := 55) C dX11_atOnce_55 rfl 2 rfl ?_
        obtain ⟨u5, hu5, h⟩ := bs h
        refine g_callV (pc := 56) (st := []) (st1 := [.int u5]) (ws' := (W_X11_atOnce E o_t r_t_tape r_t_script r_t_hairReader r_t_ordersReader r_t_lawReader r_t_doors r_t_town r_t_kept r_t_trial r_t_walk r_t_reach r_t_lawNow r_t_lawSpare r_t_doors a_doors r_t_town a_town t_isKept doors_told doors_barred doors_one doors_other doors_fits town_told town_round town_x town_rooms town_pins)) C mv_X11_mostOpened mi_X11_mostOpened ml_X11_244 (c_X11_mostOpened X.2.1 E o_t r_t_tape r_t_script r_t_hairReader r_t_ordersReader r_t_lawReader r_t_doors r_t_town r_t_kept r_t_trial r_t_walk r_t_reach r_t_lawNow r_t_lawSpare a_doors a_town t_isKept doors_told doors_barred doors_fits town_told town_round town_x town_pins x1 s4 u5 hu5) dX11_atOnce_56 (by decide) rfl (Nat.le_of_ble_eq_true rfl) 0 10 rfl rfl [0, 1, 4, 5, 7] rfl (by decide) rfl rfl rfl rfl ?_
        cases h
        exact hret _ _ _ dX11_atOnce_59 rfl rfl
      refine g_icmp_ne (pc := 32) (tgt := 53) C dX11_atOnce_32 (by decide) h (fun h => ?_) (fun h => ?_)
      · refine g_sub [1, 2, 0] rfl ?_
        exact hj53 _ h
      · refine g_iload_n (pc := 35) C dX11_atOnce_35 rfl 0 rfl ?_
        refine g_aload_n (pc := 36) C dX11_atOnce_36 rfl 1 rfl ?_
        refine g_get (pc := 37) C fl_X11_44 dX11_atOnce_37 0 rfl rfl ?_
        refine g_aload_n (pc := 40) C dX11_atOnce_40 rfl 1 rfl ?_
        refine g_get (pc := 41) C fl_X11_51 dX11_atOnce_41 0 rfl rfl ?_
        refine g_iload_n (pc := 44) C dX11_atOnce_44 rfl 2 rfl ?_
        obtain ⟨u6, hu6, h⟩ := bs h
        refine g_callV (pc := 45) (st := [.ref r_t_doors, .int u3]) (st1 := [.int u6, .ref r_t_doors, .int u3]) (ws' := (W_X11_atOnce E o_t r_t_tape r_t_script r_t_hairReader r_t_ordersReader r_t_lawReader r_t_doors r_t_town r_t_kept r_t_trial r_t_walk r_t_reach r_t_lawNow r_t_lawSpare r_t_doors a_doors r_t_town a_town t_isKept doors_told doors_barred doors_one doors_other doors_fits town_told town_round town_x town_rooms town_pins)) C mv_X9_roomOf mi_X9_roomOf ml_X11_195 (c_X9_roomOf X.2.1 E r_t_town a_town town_told town_round town_x town_rooms x1 u6 hu6) dX11_atOnce_45 (by decide) rfl (Nat.le_of_ble_eq_true rfl) 5 8 rfl rfl [5, 6] rfl (by decide) rfl rfl rfl rfl ?_
        obtain ⟨u7, hu7, h⟩ := bs h
        refine g_callV (pc := 48) (st := [.int u3]) (st1 := [.int u7, .int u3]) (ws' := (W_X11_atOnce E o_t r_t_tape r_t_script r_t_hairReader r_t_ordersReader r_t_lawReader r_t_doors r_t_town r_t_kept r_t_trial r_t_walk r_t_reach r_t_lawNow r_t_lawSpare r_t_doors a_doors r_t_town a_town t_isKept doors_told doors_barred doors_one doors_other doors_fits town_told town_round town_x town_rooms town_pins)) C mv_X0_ofRoom mi_X0_ofRoom ml_X11_241 (c_X0_ofRoom X.2.1 E r_t_doors a_doors doors_told doors_barred doors_one doors_other u6 u7 hu7) dX11_atOnce_48 (by decide) rfl (Nat.le_of_ble_eq_true rfl) 1 0 rfl rfl [1, 2, 3] rfl (by decide) rfl rfl rfl rfl ?_
        refine g_iand (pc := 51) C dX11_atOnce_51 ?_
        refine g_nm h (fun v8 h => ?_)
        refine g_istore_n (pc := 52) (lv' := [(3, .int v8), (0, .ref o_t), (1, .int x1), (2, .int x2)]) C dX11_atOnce_52 rfl (by decide) rfl ?_
        refine g_sub [1, 2, 0] rfl ?_
        exact hj53 _ h
    · refine g_iconst (pc := 20) (v := -1) C dX11_atOnce_20 (by decide) ?_
      cases h
      exact hret _ _ _ dX11_atOnce_21 rfl rfl
abbrev W_X11_bent (E : GE) (O_t : Nat) (r_t_tape : Nat) (r_t_script : Nat) (r_t_hairReader : Nat) (r_t_ordersReader : Nat) (r_t_lawReader : Nat) (r_t_doors : Nat) (r_t_town : Nat) (r_t_kept : Nat) (r_t_trial : Nat) (r_t_walk : Nat) (r_t_reach : Nat) (r_t_lawNow : Nat) (r_t_lawSpare : Nat) (O_tape : Nat) (a_tape : Nat → Nat) (O_doors : Nat) (a_doors : Nat → Nat) (O_town : Nat) (a_town : Nat → Nat) (t_isKept : Int32) (tape_size : Int32) (tape_bytes : (Nat → Int32)) (doors_told : Int32) (doors_barred : Int32) (doors_fits : (Nat → Int32)) (town_told : Int32) (town_round : Int32) (town_x : Int32) (town_hair : (Nat → Int32)) : va_W := [(O_t, ob_X11 r_t_tape r_t_script r_t_hairReader r_t_ordersReader r_t_lawReader r_t_doors r_t_town r_t_kept r_t_trial r_t_walk r_t_reach r_t_lawNow r_t_lawSpare t_isKept), (O_tape, ob_X8 a_tape tape_size), (a_tape 0, .inl (E.2.1, 260, .inl tape_bytes)), (O_doors, ob_X0 a_doors doors_told doors_barred), (a_doors 3, .inl (E.2.1, 24, .inl doors_fits)), (O_town, ob_X9 a_town town_told town_round town_x), (a_town 2, .inl (E.2.1, 60, .inl town_hair))]
def f_X11_bent (tape_size : Int32) (tape_bytes : (Nat → Int32)) (doors_told : Int32) (doors_fits : (Nat → Int32)) (town_told : Int32) (town_hair : (Nat → Int32)) (x1 : Int32) : Option (Int32 × Int32) := (f_X11_isWithin x1 (1 : Int32) (12 : Int32)).bind fun u1 => if u1 = 0 then (some ((-1 : Int32), tape_size)) else if ((2 : Int32) * x1) ≤ tape_size then ((f_X11_areDoorsWithKinds tape_size tape_bytes doors_told x1).bind fun u2 => jn (fun s3 : Int32 => (f_X8_clear tape_size).bind fun u4 => some (s3, u4)) fun j43 => if u2 = 0 then (j43 (-2 : Int32)) else (f_X11_whoBent tape_size tape_bytes doors_told doors_fits town_told town_hair x1).bind fun u5 => j43 u5) else some ((-1 : Int32), tape_size)
theorem dX11_bent_0 : decode cX11_bent 0 = .ok (.iload_n 1, 1) := by decide +kernel
theorem dX11_bent_1 : decode cX11_bent 1 = .ok (.iconst 1, 1) := by decide +kernel
theorem dX11_bent_2 : decode cX11_bent 2 = .ok (.bipush 12, 2) := by decide +kernel
theorem dX11_bent_4 : decode cX11_bent 4 = .ok (.invokestatic 98, 3) := by decide +kernel
theorem dX11_bent_7 : decode cX11_bent 7 = .ok (.ifCond .eq 16, 3) := by decide +kernel
theorem dX11_bent_10 : decode cX11_bent 10 = .ok (.aload_n 0, 1) := by decide +kernel
theorem dX11_bent_11 : decode cX11_bent 11 = .ok (.getfield 10, 3) := by decide +kernel
theorem dX11_bent_14 : decode cX11_bent 14 = .ok (.getfield 106, 3) := by decide +kernel
theorem dX11_bent_17 : decode cX11_bent 17 = .ok (.iconst 2, 1) := by decide +kernel
theorem dX11_bent_18 : decode cX11_bent 18 = .ok (.iload_n 1, 1) := by decide +kernel
theorem dX11_bent_19 : decode cX11_bent 19 = .ok (.imul, 1) := by decide +kernel
theorem dX11_bent_20 : decode cX11_bent 20 = .ok (.if_icmp .ge 5, 3) := by decide +kernel
theorem dX11_bent_23 : decode cX11_bent 23 = .ok (.iconst (-1), 1) := by decide +kernel
theorem dX11_bent_24 : decode cX11_bent 24 = .ok (.ireturn, 1) := by decide +kernel
theorem dX11_bent_25 : decode cX11_bent 25 = .ok (.aload_n 0, 1) := by decide +kernel
theorem dX11_bent_26 : decode cX11_bent 26 = .ok (.iload_n 1, 1) := by decide +kernel
theorem dX11_bent_27 : decode cX11_bent 27 = .ok (.invokevirtual 255, 3) := by decide +kernel
theorem dX11_bent_30 : decode cX11_bent 30 = .ok (.ifCond .eq 11, 3) := by decide +kernel
theorem dX11_bent_33 : decode cX11_bent 33 = .ok (.aload_n 0, 1) := by decide +kernel
theorem dX11_bent_34 : decode cX11_bent 34 = .ok (.iload_n 1, 1) := by decide +kernel
theorem dX11_bent_35 : decode cX11_bent 35 = .ok (.invokevirtual 258, 3) := by decide +kernel
theorem dX11_bent_38 : decode cX11_bent 38 = .ok (.goto 5, 3) := by decide +kernel
theorem dX11_bent_41 : decode cX11_bent 41 = .ok (.bipush (-2), 2) := by decide +kernel
theorem dX11_bent_43 : decode cX11_bent 43 = .ok (.istore_n 2, 1) := by decide +kernel
theorem dX11_bent_44 : decode cX11_bent 44 = .ok (.aload_n 0, 1) := by decide +kernel
theorem dX11_bent_45 : decode cX11_bent 45 = .ok (.getfield 10, 3) := by decide +kernel
theorem dX11_bent_48 : decode cX11_bent 48 = .ok (.invokevirtual 121, 3) := by decide +kernel
theorem dX11_bent_51 : decode cX11_bent 51 = .ok (.iload_n 2, 1) := by decide +kernel
theorem dX11_bent_52 : decode cX11_bent 52 = .ok (.ireturn, 1) := by decide +kernel
set_option maxHeartbeats 4000000 in
set_option maxRecDepth 100000 in
theorem c_X11_bent (l : Launch) (E : GE) (o_t : Nat) (r_t_tape : Nat) (r_t_script : Nat) (r_t_hairReader : Nat) (r_t_ordersReader : Nat) (r_t_lawReader : Nat) (r_t_doors : Nat) (r_t_town : Nat) (r_t_kept : Nat) (r_t_trial : Nat) (r_t_walk : Nat) (r_t_reach : Nat) (r_t_lawNow : Nat) (r_t_lawSpare : Nat) (a_tape : Nat → Nat) (a_doors : Nat → Nat) (a_town : Nat → Nat) (t_isKept : Int32) (tape_size : Int32) (tape_bytes : (Nat → Int32)) (doors_told : Int32) (doors_barred : Int32) (doors_fits : (Nat → Int32)) (town_told : Int32) (town_round : Int32) (town_x : Int32) (town_hair : (Nat → Int32)) (x1 : Int32) (r : Int32 × Int32) (h : f_X11_bent tape_size tape_bytes doors_told doors_fits town_told town_hair x1 = some r) : Cn l E yX11_bent cX11_bent 3 (some .int) 4 0 0 [.ref o_t, .int x1] (W_X11_bent E o_t r_t_tape r_t_script r_t_hairReader r_t_ordersReader r_t_lawReader r_t_doors r_t_town r_t_kept r_t_trial r_t_walk r_t_reach r_t_lawNow r_t_lawSpare r_t_tape a_tape r_t_doors a_doors r_t_town a_town t_isKept tape_size tape_bytes doors_told doors_barred doors_fits town_told town_round town_x town_hair) (fun w => w = (W_X11_bent E o_t r_t_tape r_t_script r_t_hairReader r_t_ordersReader r_t_lawReader r_t_doors r_t_town r_t_kept r_t_trial r_t_walk r_t_reach r_t_lawNow r_t_lawSpare r_t_tape a_tape r_t_doors a_doors r_t_town a_town t_isKept r.2 tape_bytes doors_told doors_barred doors_fits town_told town_round town_x town_hair)) (some (.int r.1)) := by
  refine Cn.ofI (by decide +kernel) (Nat.le_of_ble_eq_true rfl) (fun X hX hR C hret => ?_)
  subst hX
  show Gx X E 0 0 (W_X11_bent E o_t r_t_tape r_t_script r_t_hairReader r_t_ordersReader r_t_lawReader r_t_doors r_t_town r_t_kept r_t_trial r_t_walk r_t_reach r_t_lawNow r_t_lawSpare r_t_tape a_tape r_t_doors a_doors r_t_town a_town t_isKept tape_size tape_bytes doors_told doors_barred doors_fits town_told town_round town_x town_hair) 0 [(0, .ref o_t), (1, .int x1)] []
  unfold f_X11_bent at h
  refine g_iload_n (pc := 0) C dX11_bent_0 rfl 1 rfl ?_
  refine g_iconst (pc := 1) (v := 1) C dX11_bent_1 (by decide) ?_
  refine g_bipush (pc := 2) (v := 12) C dX11_bent_2 (by decide) ?_
  obtain ⟨u1, hu1, h⟩ := bs h
  refine g_callS (pc := 4) (st := []) (st1 := [.int u1]) (ws' := (W_X11_bent E o_t r_t_tape r_t_script r_t_hairReader r_t_ordersReader r_t_lawReader r_t_doors r_t_town r_t_kept r_t_trial r_t_walk r_t_reach r_t_lawNow r_t_lawSpare r_t_tape a_tape r_t_doors a_doors r_t_town a_town t_isKept tape_size tape_bytes doors_told doors_barred doors_fits town_told town_round town_x town_hair)) C mv_X11_isWithin ms_X11_isWithin ml_X11_98 (c_X11_isWithin X.2.1 E x1 (1 : Int32) (12 : Int32) u1 hu1) dX11_bent_4 (by decide) rfl (Nat.le_of_ble_eq_true rfl) [] rfl (by decide) rfl rfl rfl rfl ?_
  refine g_if_eq (pc := 7) (tgt := 23) C dX11_bent_7 (by decide) h (fun h => ?_) (fun h => ?_)
  · refine g_iconst (pc := 23) (v := -1) C dX11_bent_23 (by decide) ?_
    cases h
    exact hret _ _ _ dX11_bent_24 rfl rfl
  · refine g_aload_n (pc := 10) C dX11_bent_10 rfl 0 rfl ?_
    refine g_get (pc := 11) C fl_X11_10 dX11_bent_11 0 rfl rfl ?_
    refine g_get (pc := 14) C fl_X11_106 dX11_bent_14 1 rfl rfl ?_
    refine g_iconst (pc := 17) (v := 2) C dX11_bent_17 (by decide) ?_
    refine g_iload_n (pc := 18) C dX11_bent_18 rfl 1 rfl ?_
    refine g_imul (pc := 19) C dX11_bent_19 ?_
    refine g_icmp_ge (pc := 20) (tgt := 25) C dX11_bent_20 (by decide) h (fun h => ?_) (fun h => ?_)
    · refine g_aload_n (pc := 25) C dX11_bent_25 rfl 0 rfl ?_
      refine g_iload_n (pc := 26) C dX11_bent_26 rfl 1 rfl ?_
      obtain ⟨u2, hu2, h⟩ := bs h
      refine g_callV (pc := 27) (st := []) (st1 := [.int u2]) (ws' := (W_X11_bent E o_t r_t_tape r_t_script r_t_hairReader r_t_ordersReader r_t_lawReader r_t_doors r_t_town r_t_kept r_t_trial r_t_walk r_t_reach r_t_lawNow r_t_lawSpare r_t_tape a_tape r_t_doors a_doors r_t_town a_town t_isKept tape_size tape_bytes doors_told doors_barred doors_fits town_told town_round town_x town_hair)) C mv_X11_areDoorsWithKinds mi_X11_areDoorsWithKinds ml_X11_255 (c_X11_areDoorsWithKinds X.2.1 E o_t r_t_tape r_t_script r_t_hairReader r_t_ordersReader r_t_lawReader r_t_doors r_t_town r_t_kept r_t_trial r_t_walk r_t_reach r_t_lawNow r_t_lawSpare a_tape a_doors t_isKept tape_size tape_bytes doors_told doors_barred x1 u2 hu2) dX11_bent_27 (by decide) rfl (Nat.le_of_ble_eq_true rfl) 0 10 rfl rfl [0, 1, 2, 3] rfl (by decide) rfl rfl rfl rfl ?_
      refine g_jn (fun s3 : Int32 => Gx X E 0 0 (W_X11_bent E o_t r_t_tape r_t_script r_t_hairReader r_t_ordersReader r_t_lawReader r_t_doors r_t_town r_t_kept r_t_trial r_t_walk r_t_reach r_t_lawNow r_t_lawSpare r_t_tape a_tape r_t_doors a_doors r_t_town a_town t_isKept tape_size tape_bytes doors_told doors_barred doors_fits town_told town_round town_x town_hair) 43 [(0, .ref o_t)] [.int s3]) h (fun s3 h => ?_) (fun j43 hj43 h => ?_)
      · refine g_istore_n (pc := 43) (lv' := [(2, .int s3), (0, .ref o_t)]) C dX11_bent_43 rfl (by decide) rfl ?_
        refine g_aload_n (pc := 44) C dX11_bent_44 rfl 1 rfl ?_
        refine g_get (pc := 45) C fl_X11_10 dX11_bent_45 0 rfl rfl ?_
        obtain ⟨u4, hu4, h⟩ := bs h
        refine g_callV (pc := 48) (st := []) (st1 := []) (ws' := (W_X11_bent E o_t r_t_tape r_t_script r_t_hairReader r_t_ordersReader r_t_lawReader r_t_doors r_t_town r_t_kept r_t_trial r_t_walk r_t_reach r_t_lawNow r_t_lawSpare r_t_tape a_tape r_t_doors a_doors r_t_town a_town t_isKept u4 tape_bytes doors_told doors_barred doors_fits town_told town_round town_x town_hair)) C mv_X8_clear mi_X8_clear ml_X11_121 (c_X8_clear X.2.1 E r_t_tape a_tape tape_size u4 hu4) dX11_bent_48 (by decide) rfl (Nat.le_of_ble_eq_true rfl) 1 7 rfl rfl [1] rfl (by decide) rfl rfl rfl rfl ?_
        refine g_iload_n (pc := 51) C dX11_bent_51 rfl 0 rfl ?_
        cases h
        exact hret _ _ _ dX11_bent_52 rfl rfl
      refine g_if_eq (pc := 30) (tgt := 41) C dX11_bent_30 (by decide) h (fun h => ?_) (fun h => ?_)
      · refine g_bipush (pc := 41) (v := -2) C dX11_bent_41 (by decide) ?_
        refine g_sub [0] rfl ?_
        exact hj43 _ h
      · refine g_aload_n (pc := 33) C dX11_bent_33 rfl 0 rfl ?_
        refine g_iload_n (pc := 34) C dX11_bent_34 rfl 1 rfl ?_
        obtain ⟨u5, hu5, h⟩ := bs h
        refine g_callV (pc := 35) (st := []) (st1 := [.int u5]) (ws' := (W_X11_bent E o_t r_t_tape r_t_script r_t_hairReader r_t_ordersReader r_t_lawReader r_t_doors r_t_town r_t_kept r_t_trial r_t_walk r_t_reach r_t_lawNow r_t_lawSpare r_t_tape a_tape r_t_doors a_doors r_t_town a_town t_isKept tape_size tape_bytes doors_told doors_barred doors_fits town_told town_round town_x town_hair)) C mv_X11_whoBent mi_X11_whoBent ml_X11_258 (c_X11_whoBent X.2.1 E o_t r_t_tape r_t_script r_t_hairReader r_t_ordersReader r_t_lawReader r_t_doors r_t_town r_t_kept r_t_trial r_t_walk r_t_reach r_t_lawNow r_t_lawSpare a_tape a_doors a_town t_isKept tape_size tape_bytes doors_told doors_barred doors_fits town_told town_round town_x town_hair x1 u5 hu5) dX11_bent_35 (by decide) rfl (Nat.le_of_ble_eq_true rfl) 0 10 rfl rfl [0, 1, 2, 3, 4, 5, 6] rfl (by decide) rfl rfl rfl rfl ?_
        refine g_goto (pc := 38) (tgt := 43) C dX11_bent_38 (by decide) ?_
        refine g_sub [0] rfl ?_
        exact hj43 _ h
    · refine g_iconst (pc := 23) (v := -1) C dX11_bent_23 (by decide) ?_
      cases h
      exact hret _ _ _ dX11_bent_24 rfl rfl
abbrev W_X11_dials (E : GE) (O_t : Nat) (r_t_tape : Nat) (r_t_script : Nat) (r_t_hairReader : Nat) (r_t_ordersReader : Nat) (r_t_lawReader : Nat) (r_t_doors : Nat) (r_t_town : Nat) (r_t_kept : Nat) (r_t_trial : Nat) (r_t_walk : Nat) (r_t_reach : Nat) (r_t_lawNow : Nat) (r_t_lawSpare : Nat) (O_tape : Nat) (a_tape : Nat → Nat) (t_isKept : Int32) (tape_size : Int32) (tape_bytes : (Nat → Int32)) : va_W := [(O_t, ob_X11 r_t_tape r_t_script r_t_hairReader r_t_ordersReader r_t_lawReader r_t_doors r_t_town r_t_kept r_t_trial r_t_walk r_t_reach r_t_lawNow r_t_lawSpare t_isKept), (O_tape, ob_X8 a_tape tape_size), (a_tape 0, .inl (E.2.1, 260, .inl tape_bytes))]
def f_X11_dials (tape_size : Int32) (tape_bytes : (Nat → Int32)) (x1 : Int32) : Option (Int32 × Int32) := (f_X11_isWithin x1 (2 : Int32) (5 : Int32)).bind fun u1 => if u1 = 0 then (some ((-1 : Int32), tape_size)) else if x1 ≤ tape_size then ((f_X5_areDials tape_size tape_bytes x1).bind fun u2 => jn (fun s3 : Int32 => (f_X8_clear tape_size).bind fun u4 => some (s3, u4)) fun j46 => if u2 = 0 then (j46 (-3 : Int32)) else (f_X5_dialTurns tape_size tape_bytes x1).bind fun u5 => j46 u5) else some ((-1 : Int32), tape_size)
theorem dX11_dials_0 : decode cX11_dials 0 = .ok (.iload_n 1, 1) := by decide +kernel
theorem dX11_dials_1 : decode cX11_dials 1 = .ok (.iconst 2, 1) := by decide +kernel
theorem dX11_dials_2 : decode cX11_dials 2 = .ok (.iconst 5, 1) := by decide +kernel
theorem dX11_dials_3 : decode cX11_dials 3 = .ok (.invokestatic 98, 3) := by decide +kernel
theorem dX11_dials_6 : decode cX11_dials 6 = .ok (.ifCond .eq 14, 3) := by decide +kernel
theorem dX11_dials_9 : decode cX11_dials 9 = .ok (.aload_n 0, 1) := by decide +kernel
theorem dX11_dials_10 : decode cX11_dials 10 = .ok (.getfield 10, 3) := by decide +kernel
theorem dX11_dials_13 : decode cX11_dials 13 = .ok (.getfield 106, 3) := by decide +kernel
theorem dX11_dials_16 : decode cX11_dials 16 = .ok (.iload_n 1, 1) := by decide +kernel
theorem dX11_dials_17 : decode cX11_dials 17 = .ok (.if_icmp .ge 5, 3) := by decide +kernel
theorem dX11_dials_20 : decode cX11_dials 20 = .ok (.iconst (-1), 1) := by decide +kernel
theorem dX11_dials_21 : decode cX11_dials 21 = .ok (.ireturn, 1) := by decide +kernel
theorem dX11_dials_22 : decode cX11_dials 22 = .ok (.aload_n 0, 1) := by decide +kernel
theorem dX11_dials_23 : decode cX11_dials 23 = .ok (.getfield 10, 3) := by decide +kernel
theorem dX11_dials_26 : decode cX11_dials 26 = .ok (.iload_n 1, 1) := by decide +kernel
theorem dX11_dials_27 : decode cX11_dials 27 = .ok (.invokestatic 289, 3) := by decide +kernel
theorem dX11_dials_30 : decode cX11_dials 30 = .ok (.ifCond .eq 14, 3) := by decide +kernel
theorem dX11_dials_33 : decode cX11_dials 33 = .ok (.aload_n 0, 1) := by decide +kernel
theorem dX11_dials_34 : decode cX11_dials 34 = .ok (.getfield 10, 3) := by decide +kernel
theorem dX11_dials_37 : decode cX11_dials 37 = .ok (.iload_n 1, 1) := by decide +kernel
theorem dX11_dials_38 : decode cX11_dials 38 = .ok (.invokestatic 292, 3) := by decide +kernel
theorem dX11_dials_41 : decode cX11_dials 41 = .ok (.goto 5, 3) := by decide +kernel
theorem dX11_dials_44 : decode cX11_dials 44 = .ok (.bipush (-3), 2) := by decide +kernel
theorem dX11_dials_46 : decode cX11_dials 46 = .ok (.istore_n 2, 1) := by decide +kernel
theorem dX11_dials_47 : decode cX11_dials 47 = .ok (.aload_n 0, 1) := by decide +kernel
theorem dX11_dials_48 : decode cX11_dials 48 = .ok (.getfield 10, 3) := by decide +kernel
theorem dX11_dials_51 : decode cX11_dials 51 = .ok (.invokevirtual 121, 3) := by decide +kernel
theorem dX11_dials_54 : decode cX11_dials 54 = .ok (.iload_n 2, 1) := by decide +kernel
theorem dX11_dials_55 : decode cX11_dials 55 = .ok (.ireturn, 1) := by decide +kernel
set_option maxHeartbeats 4000000 in
set_option maxRecDepth 100000 in
theorem c_X11_dials (l : Launch) (E : GE) (o_t : Nat) (r_t_tape : Nat) (r_t_script : Nat) (r_t_hairReader : Nat) (r_t_ordersReader : Nat) (r_t_lawReader : Nat) (r_t_doors : Nat) (r_t_town : Nat) (r_t_kept : Nat) (r_t_trial : Nat) (r_t_walk : Nat) (r_t_reach : Nat) (r_t_lawNow : Nat) (r_t_lawSpare : Nat) (a_tape : Nat → Nat) (t_isKept : Int32) (tape_size : Int32) (tape_bytes : (Nat → Int32)) (x1 : Int32) (r : Int32 × Int32) (h : f_X11_dials tape_size tape_bytes x1 = some r) : Cn l E yX11_dials cX11_dials 3 (some .int) 4 0 0 [.ref o_t, .int x1] (W_X11_dials E o_t r_t_tape r_t_script r_t_hairReader r_t_ordersReader r_t_lawReader r_t_doors r_t_town r_t_kept r_t_trial r_t_walk r_t_reach r_t_lawNow r_t_lawSpare r_t_tape a_tape t_isKept tape_size tape_bytes) (fun w => w = (W_X11_dials E o_t r_t_tape r_t_script r_t_hairReader r_t_ordersReader r_t_lawReader r_t_doors r_t_town r_t_kept r_t_trial r_t_walk r_t_reach r_t_lawNow r_t_lawSpare r_t_tape a_tape t_isKept r.2 tape_bytes)) (some (.int r.1)) := by
  refine Cn.ofI (by decide +kernel) (Nat.le_of_ble_eq_true rfl) (fun X hX hR C hret => ?_)
  subst hX
  show Gx X E 0 0 (W_X11_dials E o_t r_t_tape r_t_script r_t_hairReader r_t_ordersReader r_t_lawReader r_t_doors r_t_town r_t_kept r_t_trial r_t_walk r_t_reach r_t_lawNow r_t_lawSpare r_t_tape a_tape t_isKept tape_size tape_bytes) 0 [(0, .ref o_t), (1, .int x1)] []
  unfold f_X11_dials at h
  refine g_iload_n (pc := 0) C dX11_dials_0 rfl 1 rfl ?_
  refine g_iconst (pc := 1) (v := 2) C dX11_dials_1 (by decide) ?_
  refine g_iconst (pc := 2) (v := 5) C dX11_dials_2 (by decide) ?_
  obtain ⟨u1, hu1, h⟩ := bs h
  refine g_callS (pc := 3) (st := []) (st1 := [.int u1]) (ws' := (W_X11_dials E o_t r_t_tape r_t_script r_t_hairReader r_t_ordersReader r_t_lawReader r_t_doors r_t_town r_t_kept r_t_trial r_t_walk r_t_reach r_t_lawNow r_t_lawSpare r_t_tape a_tape t_isKept tape_size tape_bytes)) C mv_X11_isWithin ms_X11_isWithin ml_X11_98 (c_X11_isWithin X.2.1 E x1 (2 : Int32) (5 : Int32) u1 hu1) dX11_dials_3 (by decide) rfl (Nat.le_of_ble_eq_true rfl) [] rfl (by decide) rfl rfl rfl rfl ?_
  refine g_if_eq (pc := 6) (tgt := 20) C dX11_dials_6 (by decide) h (fun h => ?_) (fun h => ?_)
  · refine g_iconst (pc := 20) (v := -1) C dX11_dials_20 (by decide) ?_
    cases h
    exact hret _ _ _ dX11_dials_21 rfl rfl
  · refine g_aload_n (pc := 9) C dX11_dials_9 rfl 0 rfl ?_
    refine g_get (pc := 10) C fl_X11_10 dX11_dials_10 0 rfl rfl ?_
    refine g_get (pc := 13) C fl_X11_106 dX11_dials_13 1 rfl rfl ?_
    refine g_iload_n (pc := 16) C dX11_dials_16 rfl 1 rfl ?_
    refine g_icmp_ge (pc := 17) (tgt := 22) C dX11_dials_17 (by decide) h (fun h => ?_) (fun h => ?_)
    · refine g_aload_n (pc := 22) C dX11_dials_22 rfl 0 rfl ?_
      refine g_get (pc := 23) C fl_X11_10 dX11_dials_23 0 rfl rfl ?_
      refine g_iload_n (pc := 26) C dX11_dials_26 rfl 1 rfl ?_
      obtain ⟨u2, hu2, h⟩ := bs h
      refine g_callS (pc := 27) (st := []) (st1 := [.int u2]) (ws' := (W_X11_dials E o_t r_t_tape r_t_script r_t_hairReader r_t_ordersReader r_t_lawReader r_t_doors r_t_town r_t_kept r_t_trial r_t_walk r_t_reach r_t_lawNow r_t_lawSpare r_t_tape a_tape t_isKept tape_size tape_bytes)) C mv_X5_areDials ms_X5_areDials ml_X11_289 (c_X5_areDials X.2.1 E r_t_tape a_tape tape_size tape_bytes x1 u2 hu2) dX11_dials_27 (by decide) rfl (Nat.le_of_ble_eq_true rfl) [1, 2] rfl (by decide) rfl rfl rfl rfl ?_
      refine g_jn (fun s3 : Int32 => Gx X E 0 0 (W_X11_dials E o_t r_t_tape r_t_script r_t_hairReader r_t_ordersReader r_t_lawReader r_t_doors r_t_town r_t_kept r_t_trial r_t_walk r_t_reach r_t_lawNow r_t_lawSpare r_t_tape a_tape t_isKept tape_size tape_bytes) 46 [(0, .ref o_t)] [.int s3]) h (fun s3 h => ?_) (fun j46 hj46 h => ?_)
      · refine g_istore_n (pc := 46) (lv' := [(2, .int s3), (0, .ref o_t)]) C dX11_dials_46 rfl (by decide) rfl ?_
        refine g_aload_n (pc := 47) C dX11_dials_47 rfl 1 rfl ?_
        refine g_get (pc := 48) C fl_X11_10 dX11_dials_48 0 rfl rfl ?_
        obtain ⟨u4, hu4, h⟩ := bs h
        refine g_callV (pc := 51) (st := []) (st1 := []) (ws' := (W_X11_dials E o_t r_t_tape r_t_script r_t_hairReader r_t_ordersReader r_t_lawReader r_t_doors r_t_town r_t_kept r_t_trial r_t_walk r_t_reach r_t_lawNow r_t_lawSpare r_t_tape a_tape t_isKept u4 tape_bytes)) C mv_X8_clear mi_X8_clear ml_X11_121 (c_X8_clear X.2.1 E r_t_tape a_tape tape_size u4 hu4) dX11_dials_51 (by decide) rfl (Nat.le_of_ble_eq_true rfl) 1 7 rfl rfl [1] rfl (by decide) rfl rfl rfl rfl ?_
        refine g_iload_n (pc := 54) C dX11_dials_54 rfl 0 rfl ?_
        cases h
        exact hret _ _ _ dX11_dials_55 rfl rfl
      refine g_if_eq (pc := 30) (tgt := 44) C dX11_dials_30 (by decide) h (fun h => ?_) (fun h => ?_)
      · refine g_bipush (pc := 44) (v := -3) C dX11_dials_44 (by decide) ?_
        refine g_sub [0] rfl ?_
        exact hj46 _ h
      · refine g_aload_n (pc := 33) C dX11_dials_33 rfl 0 rfl ?_
        refine g_get (pc := 34) C fl_X11_10 dX11_dials_34 0 rfl rfl ?_
        refine g_iload_n (pc := 37) C dX11_dials_37 rfl 1 rfl ?_
        obtain ⟨u5, hu5, h⟩ := bs h
        refine g_callS (pc := 38) (st := []) (st1 := [.int u5]) (ws' := (W_X11_dials E o_t r_t_tape r_t_script r_t_hairReader r_t_ordersReader r_t_lawReader r_t_doors r_t_town r_t_kept r_t_trial r_t_walk r_t_reach r_t_lawNow r_t_lawSpare r_t_tape a_tape t_isKept tape_size tape_bytes)) C mv_X5_dialTurns ms_X5_dialTurns ml_X11_292 (c_X5_dialTurns X.2.1 E r_t_tape a_tape tape_size tape_bytes x1 u5 hu5) dX11_dials_38 (by decide) rfl (Nat.le_of_ble_eq_true rfl) [1, 2] rfl (by decide) rfl rfl rfl rfl ?_
        refine g_goto (pc := 41) (tgt := 46) C dX11_dials_41 (by decide) ?_
        refine g_sub [0] rfl ?_
        exact hj46 _ h
    · refine g_iconst (pc := 20) (v := -1) C dX11_dials_20 (by decide) ?_
      cases h
      exact hret _ _ _ dX11_dials_21 rfl rfl
abbrev W_X11_dish (E : GE) (O_t : Nat) (r_t_tape : Nat) (r_t_script : Nat) (r_t_hairReader : Nat) (r_t_ordersReader : Nat) (r_t_lawReader : Nat) (r_t_doors : Nat) (r_t_town : Nat) (r_t_kept : Nat) (r_t_trial : Nat) (r_t_walk : Nat) (r_t_reach : Nat) (r_t_lawNow : Nat) (r_t_lawSpare : Nat) (O_tape : Nat) (a_tape : Nat → Nat) (t_isKept : Int32) (tape_size : Int32) (tape_bytes : (Nat → Int32)) : va_W := [(O_t, ob_X11 r_t_tape r_t_script r_t_hairReader r_t_ordersReader r_t_lawReader r_t_doors r_t_town r_t_kept r_t_trial r_t_walk r_t_reach r_t_lawNow r_t_lawSpare t_isKept), (O_tape, ob_X8 a_tape tape_size), (a_tape 0, .inl (E.2.1, 260, .inl tape_bytes))]
def f_X11_dish (tape_size : Int32) (tape_bytes : (Nat → Int32)) (x1 : Int32) (x2 : Int32) : Option (Int32 × Int32) := (f_X11_isWithin x1 (1 : Int32) (12 : Int32)).bind fun u1 => if u1 = 0 then (some ((-1 : Int32), tape_size)) else (f_X11_isWithin x2 (0 : Int32) (2 : Int32)).bind fun u2 => if u2 = 0 then (some ((-1 : Int32), tape_size)) else if x1 ≤ tape_size then ((f_X5_mostWeight tape_size tape_bytes x1).bind fun u3 => jn (fun s4 : Int32 => (f_X8_clear tape_size).bind fun u5 => some (s4, u5)) fun j78 => if x2 = 0 then ((f_X5_howManyWeigh tape_size tape_bytes x1 u3).bind fun u7 => j78 u7) else if x2 = (2 : Int32) then ((f_X5_firstOfAnother tape_size tape_bytes x1 u3).bind fun u6 => j78 u6) else j78 u3) else some ((-1 : Int32), tape_size)
theorem dX11_dish_0 : decode cX11_dish 0 = .ok (.iload_n 1, 1) := by decide +kernel
theorem dX11_dish_1 : decode cX11_dish 1 = .ok (.iconst 1, 1) := by decide +kernel
theorem dX11_dish_2 : decode cX11_dish 2 = .ok (.bipush 12, 2) := by decide +kernel
theorem dX11_dish_4 : decode cX11_dish 4 = .ok (.invokestatic 98, 3) := by decide +kernel
theorem dX11_dish_7 : decode cX11_dish 7 = .ok (.ifCond .eq 23, 3) := by decide +kernel
theorem dX11_dish_10 : decode cX11_dish 10 = .ok (.iload_n 2, 1) := by decide +kernel
theorem dX11_dish_11 : decode cX11_dish 11 = .ok (.iconst 0, 1) := by decide +kernel
theorem dX11_dish_12 : decode cX11_dish 12 = .ok (.iconst 2, 1) := by decide +kernel
theorem dX11_dish_13 : decode cX11_dish 13 = .ok (.invokestatic 98, 3) := by decide +kernel
theorem dX11_dish_16 : decode cX11_dish 16 = .ok (.ifCond .eq 14, 3) := by decide +kernel
theorem dX11_dish_19 : decode cX11_dish 19 = .ok (.aload_n 0, 1) := by decide +kernel
theorem dX11_dish_20 : decode cX11_dish 20 = .ok (.getfield 10, 3) := by decide +kernel
theorem dX11_dish_23 : decode cX11_dish 23 = .ok (.getfield 106, 3) := by decide +kernel
theorem dX11_dish_26 : decode cX11_dish 26 = .ok (.iload_n 1, 1) := by decide +kernel
theorem dX11_dish_27 : decode cX11_dish 27 = .ok (.if_icmp .ge 5, 3) := by decide +kernel
theorem dX11_dish_30 : decode cX11_dish 30 = .ok (.iconst (-1), 1) := by decide +kernel
theorem dX11_dish_31 : decode cX11_dish 31 = .ok (.ireturn, 1) := by decide +kernel
theorem dX11_dish_32 : decode cX11_dish 32 = .ok (.aload_n 0, 1) := by decide +kernel
theorem dX11_dish_33 : decode cX11_dish 33 = .ok (.getfield 10, 3) := by decide +kernel
theorem dX11_dish_36 : decode cX11_dish 36 = .ok (.iload_n 1, 1) := by decide +kernel
theorem dX11_dish_37 : decode cX11_dish 37 = .ok (.invokestatic 295, 3) := by decide +kernel
theorem dX11_dish_40 : decode cX11_dish 40 = .ok (.istore_n 3, 1) := by decide +kernel
theorem dX11_dish_41 : decode cX11_dish 41 = .ok (.iload_n 3, 1) := by decide +kernel
theorem dX11_dish_42 : decode cX11_dish 42 = .ok (.istore 4, 2) := by decide +kernel
theorem dX11_dish_44 : decode cX11_dish 44 = .ok (.iload_n 2, 1) := by decide +kernel
theorem dX11_dish_45 : decode cX11_dish 45 = .ok (.ifCond .ne 17, 3) := by decide +kernel
theorem dX11_dish_48 : decode cX11_dish 48 = .ok (.aload_n 0, 1) := by decide +kernel
theorem dX11_dish_49 : decode cX11_dish 49 = .ok (.getfield 10, 3) := by decide +kernel
theorem dX11_dish_52 : decode cX11_dish 52 = .ok (.iload_n 1, 1) := by decide +kernel
theorem dX11_dish_53 : decode cX11_dish 53 = .ok (.iload_n 3, 1) := by decide +kernel
theorem dX11_dish_54 : decode cX11_dish 54 = .ok (.invokestatic 298, 3) := by decide +kernel
theorem dX11_dish_57 : decode cX11_dish 57 = .ok (.istore 4, 2) := by decide +kernel
theorem dX11_dish_59 : decode cX11_dish 59 = .ok (.goto 19, 3) := by decide +kernel
theorem dX11_dish_62 : decode cX11_dish 62 = .ok (.iload_n 2, 1) := by decide +kernel
theorem dX11_dish_63 : decode cX11_dish 63 = .ok (.iconst 2, 1) := by decide +kernel
theorem dX11_dish_64 : decode cX11_dish 64 = .ok (.if_icmp .ne 14, 3) := by decide +kernel
theorem dX11_dish_67 : decode cX11_dish 67 = .ok (.aload_n 0, 1) := by decide +kernel
theorem dX11_dish_68 : decode cX11_dish 68 = .ok (.getfield 10, 3) := by decide +kernel
theorem dX11_dish_71 : decode cX11_dish 71 = .ok (.iload_n 1, 1) := by decide +kernel
theorem dX11_dish_72 : decode cX11_dish 72 = .ok (.iload_n 3, 1) := by decide +kernel
theorem dX11_dish_73 : decode cX11_dish 73 = .ok (.invokestatic 302, 3) := by decide +kernel
theorem dX11_dish_76 : decode cX11_dish 76 = .ok (.istore 4, 2) := by decide +kernel
theorem dX11_dish_78 : decode cX11_dish 78 = .ok (.aload_n 0, 1) := by decide +kernel
theorem dX11_dish_79 : decode cX11_dish 79 = .ok (.getfield 10, 3) := by decide +kernel
theorem dX11_dish_82 : decode cX11_dish 82 = .ok (.invokevirtual 121, 3) := by decide +kernel
theorem dX11_dish_85 : decode cX11_dish 85 = .ok (.iload 4, 2) := by decide +kernel
theorem dX11_dish_87 : decode cX11_dish 87 = .ok (.ireturn, 1) := by decide +kernel
set_option maxHeartbeats 4000000 in
set_option maxRecDepth 100000 in
theorem c_X11_dish (l : Launch) (E : GE) (o_t : Nat) (r_t_tape : Nat) (r_t_script : Nat) (r_t_hairReader : Nat) (r_t_ordersReader : Nat) (r_t_lawReader : Nat) (r_t_doors : Nat) (r_t_town : Nat) (r_t_kept : Nat) (r_t_trial : Nat) (r_t_walk : Nat) (r_t_reach : Nat) (r_t_lawNow : Nat) (r_t_lawSpare : Nat) (a_tape : Nat → Nat) (t_isKept : Int32) (tape_size : Int32) (tape_bytes : (Nat → Int32)) (x1 : Int32) (x2 : Int32) (r : Int32 × Int32) (h : f_X11_dish tape_size tape_bytes x1 x2 = some r) : Cn l E yX11_dish cX11_dish 5 (some .int) 4 0 0 [.ref o_t, .int x1, .int x2] (W_X11_dish E o_t r_t_tape r_t_script r_t_hairReader r_t_ordersReader r_t_lawReader r_t_doors r_t_town r_t_kept r_t_trial r_t_walk r_t_reach r_t_lawNow r_t_lawSpare r_t_tape a_tape t_isKept tape_size tape_bytes) (fun w => w = (W_X11_dish E o_t r_t_tape r_t_script r_t_hairReader r_t_ordersReader r_t_lawReader r_t_doors r_t_town r_t_kept r_t_trial r_t_walk r_t_reach r_t_lawNow r_t_lawSpare r_t_tape a_tape t_isKept r.2 tape_bytes)) (some (.int r.1)) := by
  refine Cn.ofI (by decide +kernel) (Nat.le_of_ble_eq_true rfl) (fun X hX hR C hret => ?_)
  subst hX
  show Gx X E 0 0 (W_X11_dish E o_t r_t_tape r_t_script r_t_hairReader r_t_ordersReader r_t_lawReader r_t_doors r_t_town r_t_kept r_t_trial r_t_walk r_t_reach r_t_lawNow r_t_lawSpare r_t_tape a_tape t_isKept tape_size tape_bytes) 0 [(0, .ref o_t), (1, .int x1), (2, .int x2)] []
  unfold f_X11_dish at h
  refine g_iload_n (pc := 0) C dX11_dish_0 rfl 1 rfl ?_
  refine g_iconst (pc := 1) (v := 1) C dX11_dish_1 (by decide) ?_
  refine g_bipush (pc := 2) (v := 12) C dX11_dish_2 (by decide) ?_
  obtain ⟨u1, hu1, h⟩ := bs h
  refine g_callS (pc := 4) (st := []) (st1 := [.int u1]) (ws' := (W_X11_dish E o_t r_t_tape r_t_script r_t_hairReader r_t_ordersReader r_t_lawReader r_t_doors r_t_town r_t_kept r_t_trial r_t_walk r_t_reach r_t_lawNow r_t_lawSpare r_t_tape a_tape t_isKept tape_size tape_bytes)) C mv_X11_isWithin ms_X11_isWithin ml_X11_98 (c_X11_isWithin X.2.1 E x1 (1 : Int32) (12 : Int32) u1 hu1) dX11_dish_4 (by decide) rfl (Nat.le_of_ble_eq_true rfl) [] rfl (by decide) rfl rfl rfl rfl ?_
  refine g_if_eq (pc := 7) (tgt := 30) C dX11_dish_7 (by decide) h (fun h => ?_) (fun h => ?_)
  · refine g_iconst (pc := 30) (v := -1) C dX11_dish_30 (by decide) ?_
    cases h
    exact hret _ _ _ dX11_dish_31 rfl rfl
  · refine g_iload_n (pc := 10) C dX11_dish_10 rfl 2 rfl ?_
    refine g_iconst (pc := 11) (v := 0) C dX11_dish_11 (by decide) ?_
    refine g_iconst (pc := 12) (v := 2) C dX11_dish_12 (by decide) ?_
    obtain ⟨u2, hu2, h⟩ := bs h
    refine g_callS (pc := 13) (st := []) (st1 := [.int u2]) (ws' := (W_X11_dish E o_t r_t_tape r_t_script r_t_hairReader r_t_ordersReader r_t_lawReader r_t_doors r_t_town r_t_kept r_t_trial r_t_walk r_t_reach r_t_lawNow r_t_lawSpare r_t_tape a_tape t_isKept tape_size tape_bytes)) C mv_X11_isWithin ms_X11_isWithin ml_X11_98 (c_X11_isWithin X.2.1 E x2 (0 : Int32) (2 : Int32) u2 hu2) dX11_dish_13 (by decide) rfl (Nat.le_of_ble_eq_true rfl) [] rfl (by decide) rfl rfl rfl rfl ?_
    refine g_if_eq (pc := 16) (tgt := 30) C dX11_dish_16 (by decide) h (fun h => ?_) (fun h => ?_)
    · refine g_iconst (pc := 30) (v := -1) C dX11_dish_30 (by decide) ?_
      cases h
      exact hret _ _ _ dX11_dish_31 rfl rfl
    · refine g_aload_n (pc := 19) C dX11_dish_19 rfl 0 rfl ?_
      refine g_get (pc := 20) C fl_X11_10 dX11_dish_20 0 rfl rfl ?_
      refine g_get (pc := 23) C fl_X11_106 dX11_dish_23 1 rfl rfl ?_
      refine g_iload_n (pc := 26) C dX11_dish_26 rfl 1 rfl ?_
      refine g_icmp_ge (pc := 27) (tgt := 32) C dX11_dish_27 (by decide) h (fun h => ?_) (fun h => ?_)
      · refine g_aload_n (pc := 32) C dX11_dish_32 rfl 0 rfl ?_
        refine g_get (pc := 33) C fl_X11_10 dX11_dish_33 0 rfl rfl ?_
        refine g_iload_n (pc := 36) C dX11_dish_36 rfl 1 rfl ?_
        obtain ⟨u3, hu3, h⟩ := bs h
        refine g_callS (pc := 37) (st := []) (st1 := [.int u3]) (ws' := (W_X11_dish E o_t r_t_tape r_t_script r_t_hairReader r_t_ordersReader r_t_lawReader r_t_doors r_t_town r_t_kept r_t_trial r_t_walk r_t_reach r_t_lawNow r_t_lawSpare r_t_tape a_tape t_isKept tape_size tape_bytes)) C mv_X5_mostWeight ms_X5_mostWeight ml_X11_295 (c_X5_mostWeight X.2.1 E r_t_tape a_tape tape_size tape_bytes x1 u3 hu3) dX11_dish_37 (by decide) rfl (Nat.le_of_ble_eq_true rfl) [1, 2] rfl (by decide) rfl rfl rfl rfl ?_
        refine g_istore_n (pc := 40) (lv' := [(3, .int u3), (0, .ref o_t), (1, .int x1), (2, .int x2)]) C dX11_dish_40 rfl (by decide) rfl ?_
        refine g_iload_n (pc := 41) C dX11_dish_41 rfl 0 rfl ?_
        refine g_istore (pc := 42) (lv' := [(4, .int u3), (3, .int u3), (0, .ref o_t), (1, .int x1), (2, .int x2)]) C dX11_dish_42 (by decide) rfl ?_
        refine g_iload_n (pc := 44) C dX11_dish_44 rfl 4 rfl ?_
        refine g_jn (fun s4 : Int32 => Gx X E 0 0 (W_X11_dish E o_t r_t_tape r_t_script r_t_hairReader r_t_ordersReader r_t_lawReader r_t_doors r_t_town r_t_kept r_t_trial r_t_walk r_t_reach r_t_lawNow r_t_lawSpare r_t_tape a_tape t_isKept tape_size tape_bytes) 78 [(0, .ref o_t), (4, .int s4)] []) h (fun s4 h => ?_) (fun j78 hj78 h => ?_)
        · refine g_aload_n (pc := 78) C dX11_dish_78 rfl 0 rfl ?_
          refine g_get (pc := 79) C fl_X11_10 dX11_dish_79 0 rfl rfl ?_
          obtain ⟨u5, hu5, h⟩ := bs h
          refine g_callV (pc := 82) (st := []) (st1 := []) (ws' := (W_X11_dish E o_t r_t_tape r_t_script r_t_hairReader r_t_ordersReader r_t_lawReader r_t_doors r_t_town r_t_kept r_t_trial r_t_walk r_t_reach r_t_lawNow r_t_lawSpare r_t_tape a_tape t_isKept u5 tape_bytes)) C mv_X8_clear mi_X8_clear ml_X11_121 (c_X8_clear X.2.1 E r_t_tape a_tape tape_size u5 hu5) dX11_dish_82 (by decide) rfl (Nat.le_of_ble_eq_true rfl) 1 7 rfl rfl [1] rfl (by decide) rfl rfl rfl rfl ?_
          refine g_iload (pc := 85) C dX11_dish_85 1 rfl ?_
          cases h
          exact hret _ _ _ dX11_dish_87 rfl rfl
        refine g_if_ne (pc := 45) (tgt := 62) C dX11_dish_45 (by decide) h (fun h => ?_) (fun h => ?_)
        · refine g_iload_n (pc := 62) C dX11_dish_62 rfl 4 rfl ?_
          refine g_iconst (pc := 63) (v := 2) C dX11_dish_63 (by decide) ?_
          refine g_icmp_ne (pc := 64) (tgt := 78) C dX11_dish_64 (by decide) h (fun h => ?_) (fun h => ?_)
          · refine g_sub [2, 0] rfl ?_
            exact hj78 _ h
          · refine g_aload_n (pc := 67) C dX11_dish_67 rfl 2 rfl ?_
            refine g_get (pc := 68) C fl_X11_10 dX11_dish_68 0 rfl rfl ?_
            refine g_iload_n (pc := 71) C dX11_dish_71 rfl 3 rfl ?_
            refine g_iload_n (pc := 72) C dX11_dish_72 rfl 1 rfl ?_
            obtain ⟨u6, hu6, h⟩ := bs h
            refine g_callS (pc := 73) (st := []) (st1 := [.int u6]) (ws' := (W_X11_dish E o_t r_t_tape r_t_script r_t_hairReader r_t_ordersReader r_t_lawReader r_t_doors r_t_town r_t_kept r_t_trial r_t_walk r_t_reach r_t_lawNow r_t_lawSpare r_t_tape a_tape t_isKept tape_size tape_bytes)) C mv_X5_firstOfAnother ms_X5_firstOfAnother ml_X11_302 (c_X5_firstOfAnother X.2.1 E r_t_tape a_tape tape_size tape_bytes x1 u3 u6 hu6) dX11_dish_73 (by decide) rfl (Nat.le_of_ble_eq_true rfl) [1, 2] rfl (by decide) rfl rfl rfl rfl ?_
            refine g_istore (pc := 76) (lv' := [(4, .int u6), (3, .int u3), (0, .ref o_t), (1, .int x1), (2, .int x2)]) C dX11_dish_76 (by decide) rfl ?_
            refine g_sub [2, 0] rfl ?_
            exact hj78 _ h
        · refine g_aload_n (pc := 48) C dX11_dish_48 rfl 2 rfl ?_
          refine g_get (pc := 49) C fl_X11_10 dX11_dish_49 0 rfl rfl ?_
          refine g_iload_n (pc := 52) C dX11_dish_52 rfl 3 rfl ?_
          refine g_iload_n (pc := 53) C dX11_dish_53 rfl 1 rfl ?_
          obtain ⟨u7, hu7, h⟩ := bs h
          refine g_callS (pc := 54) (st := []) (st1 := [.int u7]) (ws' := (W_X11_dish E o_t r_t_tape r_t_script r_t_hairReader r_t_ordersReader r_t_lawReader r_t_doors r_t_town r_t_kept r_t_trial r_t_walk r_t_reach r_t_lawNow r_t_lawSpare r_t_tape a_tape t_isKept tape_size tape_bytes)) C mv_X5_howManyWeigh ms_X5_howManyWeigh ml_X11_298 (c_X5_howManyWeigh X.2.1 E r_t_tape a_tape tape_size tape_bytes x1 u3 u7 hu7) dX11_dish_54 (by decide) rfl (Nat.le_of_ble_eq_true rfl) [1, 2] rfl (by decide) rfl rfl rfl rfl ?_
          refine g_istore (pc := 57) (lv' := [(4, .int u7), (3, .int u3), (0, .ref o_t), (1, .int x1), (2, .int x2)]) C dX11_dish_57 (by decide) rfl ?_
          refine g_goto (pc := 59) (tgt := 78) C dX11_dish_59 (by decide) ?_
          refine g_sub [2, 0] rfl ?_
          exact hj78 _ h
      · refine g_iconst (pc := 30) (v := -1) C dX11_dish_30 (by decide) ?_
        cases h
        exact hret _ _ _ dX11_dish_31 rfl rfl
abbrev W_X11_enough (E : GE) (O_t : Nat) (r_t_tape : Nat) (r_t_script : Nat) (r_t_hairReader : Nat) (r_t_ordersReader : Nat) (r_t_lawReader : Nat) (r_t_doors : Nat) (r_t_town : Nat) (r_t_kept : Nat) (r_t_trial : Nat) (r_t_walk : Nat) (r_t_reach : Nat) (r_t_lawNow : Nat) (r_t_lawSpare : Nat) (O_doors : Nat) (a_doors : Nat → Nat) (t_isKept : Int32) (doors_told : Int32) (doors_barred : Int32) (doors_fits : (Nat → Int32)) : va_W := [(O_t, ob_X11 r_t_tape r_t_script r_t_hairReader r_t_ordersReader r_t_lawReader r_t_doors r_t_town r_t_kept r_t_trial r_t_walk r_t_reach r_t_lawNow r_t_lawSpare t_isKept), (O_doors, ob_X0 a_doors doors_told doors_barred), (a_doors 3, .inl (E.2.1, 24, .inl doors_fits))]
def f_X11_enough (doors_told : Int32) (doors_fits : (Nat → Int32)) (x1 : Int32) : Option (Int32) := (f_X11_isWithin x1 (0 : Int32) (1 : Int32)).bind fun u1 => if u1 = 0 then (some (-1 : Int32)) else (f_X0_fewestKinds doors_told doors_fits).bind fun u2 => if u2 = (-1 : Int32) then (some (-2 : Int32)) else if x1 = 0 then ((f_J6_bitCount_0f7a4 u2).bind fun u3 => some u3) else some u2
theorem dX11_enough_0 : decode cX11_enough 0 = .ok (.iload_n 1, 1) := by decide +kernel
theorem dX11_enough_1 : decode cX11_enough 1 = .ok (.iconst 0, 1) := by decide +kernel
theorem dX11_enough_2 : decode cX11_enough 2 = .ok (.iconst 1, 1) := by decide +kernel
theorem dX11_enough_3 : decode cX11_enough 3 = .ok (.invokestatic 98, 3) := by decide +kernel
theorem dX11_enough_6 : decode cX11_enough 6 = .ok (.ifCond .ne 5, 3) := by decide +kernel
theorem dX11_enough_9 : decode cX11_enough 9 = .ok (.iconst (-1), 1) := by decide +kernel
theorem dX11_enough_10 : decode cX11_enough 10 = .ok (.ireturn, 1) := by decide +kernel
theorem dX11_enough_11 : decode cX11_enough 11 = .ok (.aload_n 0, 1) := by decide +kernel
theorem dX11_enough_12 : decode cX11_enough 12 = .ok (.getfield 44, 3) := by decide +kernel
theorem dX11_enough_15 : decode cX11_enough 15 = .ok (.invokevirtual 247, 3) := by decide +kernel
theorem dX11_enough_18 : decode cX11_enough 18 = .ok (.istore_n 2, 1) := by decide +kernel
theorem dX11_enough_19 : decode cX11_enough 19 = .ok (.iload_n 2, 1) := by decide +kernel
theorem dX11_enough_20 : decode cX11_enough 20 = .ok (.iconst (-1), 1) := by decide +kernel
theorem dX11_enough_21 : decode cX11_enough 21 = .ok (.if_icmp .ne 6, 3) := by decide +kernel
theorem dX11_enough_24 : decode cX11_enough 24 = .ok (.bipush (-2), 2) := by decide +kernel
theorem dX11_enough_26 : decode cX11_enough 26 = .ok (.ireturn, 1) := by decide +kernel
theorem dX11_enough_27 : decode cX11_enough 27 = .ok (.iload_n 1, 1) := by decide +kernel
theorem dX11_enough_28 : decode cX11_enough 28 = .ok (.ifCond .ne 10, 3) := by decide +kernel
theorem dX11_enough_31 : decode cX11_enough 31 = .ok (.iload_n 2, 1) := by decide +kernel
theorem dX11_enough_32 : decode cX11_enough 32 = .ok (.invokestatic 250, 3) := by decide +kernel
theorem dX11_enough_35 : decode cX11_enough 35 = .ok (.goto 4, 3) := by decide +kernel
theorem dX11_enough_38 : decode cX11_enough 38 = .ok (.iload_n 2, 1) := by decide +kernel
theorem dX11_enough_39 : decode cX11_enough 39 = .ok (.ireturn, 1) := by decide +kernel
set_option maxHeartbeats 4000000 in
set_option maxRecDepth 100000 in
theorem c_X11_enough (l : Launch) (E : GE) (o_t : Nat) (r_t_tape : Nat) (r_t_script : Nat) (r_t_hairReader : Nat) (r_t_ordersReader : Nat) (r_t_lawReader : Nat) (r_t_doors : Nat) (r_t_town : Nat) (r_t_kept : Nat) (r_t_trial : Nat) (r_t_walk : Nat) (r_t_reach : Nat) (r_t_lawNow : Nat) (r_t_lawSpare : Nat) (a_doors : Nat → Nat) (t_isKept : Int32) (doors_told : Int32) (doors_barred : Int32) (doors_fits : (Nat → Int32)) (x1 : Int32) (r : Int32) (h : f_X11_enough doors_told doors_fits x1 = some r) : Cn l E yX11_enough cX11_enough 3 (some .int) 4 0 0 [.ref o_t, .int x1] (W_X11_enough E o_t r_t_tape r_t_script r_t_hairReader r_t_ordersReader r_t_lawReader r_t_doors r_t_town r_t_kept r_t_trial r_t_walk r_t_reach r_t_lawNow r_t_lawSpare r_t_doors a_doors t_isKept doors_told doors_barred doors_fits) (fun w => w = (W_X11_enough E o_t r_t_tape r_t_script r_t_hairReader r_t_ordersReader r_t_lawReader r_t_doors r_t_town r_t_kept r_t_trial r_t_walk r_t_reach r_t_lawNow r_t_lawSpare r_t_doors a_doors t_isKept doors_told doors_barred doors_fits)) (some (.int r)) := by
  refine Cn.ofI (by decide +kernel) (Nat.le_of_ble_eq_true rfl) (fun X hX hR C hret => ?_)
  subst hX
  show Gx X E 0 0 (W_X11_enough E o_t r_t_tape r_t_script r_t_hairReader r_t_ordersReader r_t_lawReader r_t_doors r_t_town r_t_kept r_t_trial r_t_walk r_t_reach r_t_lawNow r_t_lawSpare r_t_doors a_doors t_isKept doors_told doors_barred doors_fits) 0 [(0, .ref o_t), (1, .int x1)] []
  unfold f_X11_enough at h
  refine g_iload_n (pc := 0) C dX11_enough_0 rfl 1 rfl ?_
  refine g_iconst (pc := 1) (v := 0) C dX11_enough_1 (by decide) ?_
  refine g_iconst (pc := 2) (v := 1) C dX11_enough_2 (by decide) ?_
  obtain ⟨u1, hu1, h⟩ := bs h
  refine g_callS (pc := 3) (st := []) (st1 := [.int u1]) (ws' := (W_X11_enough E o_t r_t_tape r_t_script r_t_hairReader r_t_ordersReader r_t_lawReader r_t_doors r_t_town r_t_kept r_t_trial r_t_walk r_t_reach r_t_lawNow r_t_lawSpare r_t_doors a_doors t_isKept doors_told doors_barred doors_fits)) C mv_X11_isWithin ms_X11_isWithin ml_X11_98 (c_X11_isWithin X.2.1 E x1 (0 : Int32) (1 : Int32) u1 hu1) dX11_enough_3 (by decide) rfl (Nat.le_of_ble_eq_true rfl) [] rfl (by decide) rfl rfl rfl rfl ?_
  refine g_if_ne (pc := 6) (tgt := 11) C dX11_enough_6 (by decide) h (fun h => ?_) (fun h => ?_)
  · refine g_aload_n (pc := 11) C dX11_enough_11 rfl 0 rfl ?_
    refine g_get (pc := 12) C fl_X11_44 dX11_enough_12 0 rfl rfl ?_
    obtain ⟨u2, hu2, h⟩ := bs h
    refine g_callV (pc := 15) (st := []) (st1 := [.int u2]) (ws' := (W_X11_enough E o_t r_t_tape r_t_script r_t_hairReader r_t_ordersReader r_t_lawReader r_t_doors r_t_town r_t_kept r_t_trial r_t_walk r_t_reach r_t_lawNow r_t_lawSpare r_t_doors a_doors t_isKept doors_told doors_barred doors_fits)) C mv_X0_fewestKinds mi_X0_fewestKinds ml_X11_247 (c_X0_fewestKinds X.2.1 E r_t_doors a_doors doors_told doors_barred doors_fits u2 hu2) dX11_enough_15 (by decide) rfl (Nat.le_of_ble_eq_true rfl) 1 0 rfl rfl [1, 2] rfl (by decide) rfl rfl rfl rfl ?_
    refine g_istore_n (pc := 18) (lv' := [(2, .int u2), (0, .ref o_t), (1, .int x1)]) C dX11_enough_18 rfl (by decide) rfl ?_
    refine g_iload_n (pc := 19) C dX11_enough_19 rfl 0 rfl ?_
    refine g_iconst (pc := 20) (v := -1) C dX11_enough_20 (by decide) ?_
    refine g_icmp_ne (pc := 21) (tgt := 27) C dX11_enough_21 (by decide) h (fun h => ?_) (fun h => ?_)
    · refine g_iload_n (pc := 27) C dX11_enough_27 rfl 2 rfl ?_
      refine g_if_ne (pc := 28) (tgt := 38) C dX11_enough_28 (by decide) h (fun h => ?_) (fun h => ?_)
      · refine g_iload_n (pc := 38) C dX11_enough_38 rfl 0 rfl ?_
        cases h
        exact hret _ _ _ dX11_enough_39 rfl rfl
      · refine g_iload_n (pc := 31) C dX11_enough_31 rfl 0 rfl ?_
        obtain ⟨u3, hu3, h⟩ := bs h
        refine g_callS (pc := 32) (st := []) (st1 := [.int u3]) (ws' := (W_X11_enough E o_t r_t_tape r_t_script r_t_hairReader r_t_ordersReader r_t_lawReader r_t_doors r_t_town r_t_kept r_t_trial r_t_walk r_t_reach r_t_lawNow r_t_lawSpare r_t_doors a_doors t_isKept doors_told doors_barred doors_fits)) C mv_J6_bitCount_0f7a4 ms_J6_bitCount_0f7a4 ml_X11_250 (c_J6_bitCount_0f7a4 X.2.1 E u2 u3 hu3) dX11_enough_32 (by decide) rfl (Nat.le_of_ble_eq_true rfl) [] rfl (by decide) rfl rfl rfl rfl ?_
        refine g_goto (pc := 35) (tgt := 39) C dX11_enough_35 (by decide) ?_
        cases h
        exact hret _ _ _ dX11_enough_39 rfl rfl
    · refine g_bipush (pc := 24) (v := -2) C dX11_enough_24 (by decide) ?_
      cases h
      exact hret _ _ _ dX11_enough_26 rfl rfl
  · refine g_iconst (pc := 9) (v := -1) C dX11_enough_9 (by decide) ?_
    cases h
    exact hret _ _ _ dX11_enough_10 rfl rfl
abbrev W_X11_near (E : GE) (O_t : Nat) (r_t_tape : Nat) (r_t_script : Nat) (r_t_hairReader : Nat) (r_t_ordersReader : Nat) (r_t_lawReader : Nat) (r_t_doors : Nat) (r_t_town : Nat) (r_t_kept : Nat) (r_t_trial : Nat) (r_t_walk : Nat) (r_t_reach : Nat) (r_t_lawNow : Nat) (r_t_lawSpare : Nat) (O_doors : Nat) (a_doors : Nat → Nat) (O_town : Nat) (a_town : Nat → Nat) (O_reach : Nat) (a_reach : Nat → Nat) (t_isKept : Int32) (doors_told : Int32) (doors_barred : Int32) (doors_one : (Nat → Int32)) (doors_other : (Nat → Int32)) (doors_fits : (Nat → Int32)) (town_told : Int32) (town_round : Int32) (town_x : Int32) (town_rooms : (Nat → Int32)) (town_pins : (Nat → Int32)) (reach_size : Int32) (reach_next : (Nat → Int32)) (reach_left : (Nat → Int32)) (reach_used : (Nat → Int32)) (reach_rooms : (Nat → Int32)) : va_W := [(O_t, ob_X11 r_t_tape r_t_script r_t_hairReader r_t_ordersReader r_t_lawReader r_t_doors r_t_town r_t_kept r_t_trial r_t_walk r_t_reach r_t_lawNow r_t_lawSpare t_isKept), (O_doors, ob_X0 a_doors doors_told doors_barred), (a_doors 0, .inl (E.2.1, 24, .inl doors_one)), (a_doors 1, .inl (E.2.1, 24, .inl doors_other)), (a_doors 3, .inl (E.2.1, 24, .inl doors_fits)), (O_town, ob_X9 a_town town_told town_round town_x), (a_town 1, .inl (E.2.1, 10, .inl town_rooms)), (a_town 3, .inl (E.2.1, 60, .inl town_pins)), (O_reach, ob_X6 a_reach reach_size), (a_reach 0, .inl (E.2.1, 96, .inl reach_next)), (a_reach 1, .inl (E.2.1, 6, .inl reach_left)), (a_reach 2, .inl (E.2.1, 924, .inl reach_used)), (a_reach 3, .inl (E.2.1, 924, .inl reach_rooms))]
def f_X11_near (doors_told : Int32) (doors_barred : Int32) (doors_one : (Nat → Int32)) (doors_other : (Nat → Int32)) (doors_fits : (Nat → Int32)) (town_told : Int32) (town_rooms : (Nat → Int32)) (town_pins : (Nat → Int32)) (reach_size : Int32) (reach_next : (Nat → Int32)) (reach_left : (Nat → Int32)) (reach_used : (Nat → Int32)) (reach_rooms : (Nat → Int32)) (x1 : Int32) : Option (Int32 × Int32 × (Nat → Int32) × (Nat → Int32) × (Nat → Int32) × (Nat → Int32)) := (f_X9_isTold town_told x1).bind fun u1 => if u1 = 0 then (some ((-1 : Int32), reach_size, reach_next, reach_left, reach_used, reach_rooms)) else (f_X9_roomOf town_told town_rooms x1).bind fun u2 => (f_X6_spread reach_size reach_next reach_left reach_used reach_rooms doors_told doors_barred doors_one doors_other doors_fits town_told town_pins x1 u2).bind fun u3 => (f_X6_allRooms u3.2.2.2.2).bind fun u4 => some (u4, u3.1, u3.2.1, u3.2.2.1, u3.2.2.2.1, u3.2.2.2.2)
theorem dX11_near_0 : decode cX11_near 0 = .ok (.aload_n 0, 1) := by decide +kernel
theorem dX11_near_1 : decode cX11_near 1 = .ok (.getfield 51, 3) := by decide +kernel
theorem dX11_near_4 : decode cX11_near 4 = .ok (.iload_n 1, 1) := by decide +kernel
theorem dX11_near_5 : decode cX11_near 5 = .ok (.invokevirtual 134, 3) := by decide +kernel
theorem dX11_near_8 : decode cX11_near 8 = .ok (.ifCond .ne 5, 3) := by decide +kernel
theorem dX11_near_11 : decode cX11_near 11 = .ok (.iconst (-1), 1) := by decide +kernel
theorem dX11_near_12 : decode cX11_near 12 = .ok (.ireturn, 1) := by decide +kernel
theorem dX11_near_13 : decode cX11_near 13 = .ok (.aload_n 0, 1) := by decide +kernel
theorem dX11_near_14 : decode cX11_near 14 = .ok (.getfield 71, 3) := by decide +kernel
theorem dX11_near_17 : decode cX11_near 17 = .ok (.aload_n 0, 1) := by decide +kernel
theorem dX11_near_18 : decode cX11_near 18 = .ok (.getfield 44, 3) := by decide +kernel
theorem dX11_near_21 : decode cX11_near 21 = .ok (.aload_n 0, 1) := by decide +kernel
theorem dX11_near_22 : decode cX11_near 22 = .ok (.getfield 51, 3) := by decide +kernel
theorem dX11_near_25 : decode cX11_near 25 = .ok (.iload_n 1, 1) := by decide +kernel
theorem dX11_near_26 : decode cX11_near 26 = .ok (.aload_n 0, 1) := by decide +kernel
theorem dX11_near_27 : decode cX11_near 27 = .ok (.getfield 51, 3) := by decide +kernel
theorem dX11_near_30 : decode cX11_near 30 = .ok (.iload_n 1, 1) := by decide +kernel
theorem dX11_near_31 : decode cX11_near 31 = .ok (.invokevirtual 195, 3) := by decide +kernel
theorem dX11_near_34 : decode cX11_near 34 = .ok (.invokevirtual 224, 3) := by decide +kernel
theorem dX11_near_37 : decode cX11_near 37 = .ok (.aload_n 0, 1) := by decide +kernel
theorem dX11_near_38 : decode cX11_near 38 = .ok (.getfield 71, 3) := by decide +kernel
theorem dX11_near_41 : decode cX11_near 41 = .ok (.invokevirtual 235, 3) := by decide +kernel
theorem dX11_near_44 : decode cX11_near 44 = .ok (.ireturn, 1) := by decide +kernel
set_option maxHeartbeats 4000000 in
set_option maxRecDepth 100000 in
theorem c_X11_near (l : Launch) (E : GE) (o_t : Nat) (r_t_tape : Nat) (r_t_script : Nat) (r_t_hairReader : Nat) (r_t_ordersReader : Nat) (r_t_lawReader : Nat) (r_t_doors : Nat) (r_t_town : Nat) (r_t_kept : Nat) (r_t_trial : Nat) (r_t_walk : Nat) (r_t_reach : Nat) (r_t_lawNow : Nat) (r_t_lawSpare : Nat) (a_doors : Nat → Nat) (a_town : Nat → Nat) (a_reach : Nat → Nat) (t_isKept : Int32) (doors_told : Int32) (doors_barred : Int32) (doors_one : (Nat → Int32)) (doors_other : (Nat → Int32)) (doors_fits : (Nat → Int32)) (town_told : Int32) (town_round : Int32) (town_x : Int32) (town_rooms : (Nat → Int32)) (town_pins : (Nat → Int32)) (reach_size : Int32) (reach_next : (Nat → Int32)) (reach_left : (Nat → Int32)) (reach_used : (Nat → Int32)) (reach_rooms : (Nat → Int32)) (x1 : Int32) (r : Int32 × Int32 × (Nat → Int32) × (Nat → Int32) × (Nat → Int32) × (Nat → Int32)) (h : f_X11_near doors_told doors_barred doors_one doors_other doors_fits town_told town_rooms town_pins reach_size reach_next reach_left reach_used reach_rooms x1 = some r) : Cn l E yX11_near cX11_near 2 (some .int) 4 0 0 [.ref o_t, .int x1] (W_X11_near E o_t r_t_tape r_t_script r_t_hairReader r_t_ordersReader r_t_lawReader r_t_doors r_t_town r_t_kept r_t_trial r_t_walk r_t_reach r_t_lawNow r_t_lawSpare r_t_doors a_doors r_t_town a_town r_t_reach a_reach t_isKept doors_told doors_barred doors_one doors_other doors_fits town_told town_round town_x town_rooms town_pins reach_size reach_next reach_left reach_used reach_rooms) (fun w => w = (W_X11_near E o_t r_t_tape r_t_script r_t_hairReader r_t_ordersReader r_t_lawReader r_t_doors r_t_town r_t_kept r_t_trial r_t_walk r_t_reach r_t_lawNow r_t_lawSpare r_t_doors a_doors r_t_town a_town r_t_reach a_reach t_isKept doors_told doors_barred doors_one doors_other doors_fits town_told town_round town_x town_rooms town_pins r.2.1 r.2.2.1 r.2.2.2.1 r.2.2.2.2.1 r.2.2.2.2.2)) (some (.int r.1)) := by
  refine Cn.ofI (by decide +kernel) (Nat.le_of_ble_eq_true rfl) (fun X hX hR C hret => ?_)
  subst hX
  show Gx X E 0 0 (W_X11_near E o_t r_t_tape r_t_script r_t_hairReader r_t_ordersReader r_t_lawReader r_t_doors r_t_town r_t_kept r_t_trial r_t_walk r_t_reach r_t_lawNow r_t_lawSpare r_t_doors a_doors r_t_town a_town r_t_reach a_reach t_isKept doors_told doors_barred doors_one doors_other doors_fits town_told town_round town_x town_rooms town_pins reach_size reach_next reach_left reach_used reach_rooms) 0 [(0, .ref o_t), (1, .int x1)] []
  unfold f_X11_near at h
  refine g_aload_n (pc := 0) C dX11_near_0 rfl 0 rfl ?_
  refine g_get (pc := 1) C fl_X11_51 dX11_near_1 0 rfl rfl ?_
  refine g_iload_n (pc := 4) C dX11_near_4 rfl 1 rfl ?_
  obtain ⟨u1, hu1, h⟩ := bs h
  refine g_callV (pc := 5) (st := []) (st1 := [.int u1]) (ws' := (W_X11_near E o_t r_t_tape r_t_script r_t_hairReader r_t_ordersReader r_t_lawReader r_t_doors r_t_town r_t_kept r_t_trial r_t_walk r_t_reach r_t_lawNow r_t_lawSpare r_t_doors a_doors r_t_town a_town r_t_reach a_reach t_isKept doors_told doors_barred doors_one doors_other doors_fits town_told town_round town_x town_rooms town_pins reach_size reach_next reach_left reach_used reach_rooms)) C mv_X9_isTold mi_X9_isTold ml_X11_134 (c_X9_isTold X.2.1 E r_t_town a_town town_told town_round town_x x1 u1 hu1) dX11_near_5 (by decide) rfl (Nat.le_of_ble_eq_true rfl) 5 8 rfl rfl [5] rfl (by decide) rfl rfl rfl rfl ?_
  refine g_if_ne (pc := 8) (tgt := 13) C dX11_near_8 (by decide) h (fun h => ?_) (fun h => ?_)
  · refine g_aload_n (pc := 13) C dX11_near_13 rfl 0 rfl ?_
    refine g_get (pc := 14) C fl_X11_71 dX11_near_14 0 rfl rfl ?_
    refine g_aload_n (pc := 17) C dX11_near_17 rfl 0 rfl ?_
    refine g_get (pc := 18) C fl_X11_44 dX11_near_18 0 rfl rfl ?_
    refine g_aload_n (pc := 21) C dX11_near_21 rfl 0 rfl ?_
    refine g_get (pc := 22) C fl_X11_51 dX11_near_22 0 rfl rfl ?_
    refine g_iload_n (pc := 25) C dX11_near_25 rfl 1 rfl ?_
    refine g_aload_n (pc := 26) C dX11_near_26 rfl 0 rfl ?_
    refine g_get (pc := 27) C fl_X11_51 dX11_near_27 0 rfl rfl ?_
    refine g_iload_n (pc := 30) C dX11_near_30 rfl 1 rfl ?_
    obtain ⟨u2, hu2, h⟩ := bs h
    refine g_callV (pc := 31) (st := [.int x1, .ref r_t_town, .ref r_t_doors, .ref r_t_reach]) (st1 := [.int u2, .int x1, .ref r_t_town, .ref r_t_doors, .ref r_t_reach]) (ws' := (W_X11_near E o_t r_t_tape r_t_script r_t_hairReader r_t_ordersReader r_t_lawReader r_t_doors r_t_town r_t_kept r_t_trial r_t_walk r_t_reach r_t_lawNow r_t_lawSpare r_t_doors a_doors r_t_town a_town r_t_reach a_reach t_isKept doors_told doors_barred doors_one doors_other doors_fits town_told town_round town_x town_rooms town_pins reach_size reach_next reach_left reach_used reach_rooms)) C mv_X9_roomOf mi_X9_roomOf ml_X11_195 (c_X9_roomOf X.2.1 E r_t_town a_town town_told town_round town_x town_rooms x1 u2 hu2) dX11_near_31 (by decide) rfl (Nat.le_of_ble_eq_true rfl) 5 8 rfl rfl [5, 6] rfl (by decide) rfl rfl rfl rfl ?_
    obtain ⟨u3, hu3, h⟩ := bs h
    refine g_callV (pc := 34) (st := []) (st1 := []) (ws' := (W_X11_near E o_t r_t_tape r_t_script r_t_hairReader r_t_ordersReader r_t_lawReader r_t_doors r_t_town r_t_kept r_t_trial r_t_walk r_t_reach r_t_lawNow r_t_lawSpare r_t_doors a_doors r_t_town a_town r_t_reach a_reach t_isKept doors_told doors_barred doors_one doors_other doors_fits town_told town_round town_x town_rooms town_pins u3.1 u3.2.1 u3.2.2.1 u3.2.2.2.1 u3.2.2.2.2)) C mv_X6_spread mi_X6_spread ml_X11_224 (c_X6_spread X.2.1 E r_t_reach a_reach r_t_doors a_doors r_t_town a_town reach_size reach_next reach_left reach_used reach_rooms doors_told doors_barred doors_one doors_other doors_fits town_told town_round town_x town_pins x1 u2 u3 hu3) dX11_near_34 (by decide) rfl (Nat.le_of_ble_eq_true rfl) 8 5 rfl rfl [8, 9, 10, 11, 12, 1, 2, 3, 4, 5, 7] rfl (by decide) rfl rfl rfl rfl ?_
    refine g_aload_n (pc := 37) C dX11_near_37 rfl 0 rfl ?_
    refine g_get (pc := 38) C fl_X11_71 dX11_near_38 0 rfl rfl ?_
    obtain ⟨u4, hu4, h⟩ := bs h
    refine g_callV (pc := 41) (st := []) (st1 := [.int u4]) (ws' := (W_X11_near E o_t r_t_tape r_t_script r_t_hairReader r_t_ordersReader r_t_lawReader r_t_doors r_t_town r_t_kept r_t_trial r_t_walk r_t_reach r_t_lawNow r_t_lawSpare r_t_doors a_doors r_t_town a_town r_t_reach a_reach t_isKept doors_told doors_barred doors_one doors_other doors_fits town_told town_round town_x town_rooms town_pins u3.1 u3.2.1 u3.2.2.1 u3.2.2.2.1 u3.2.2.2.2)) C mv_X6_allRooms mi_X6_allRooms ml_X11_235 (c_X6_allRooms X.2.1 E r_t_reach a_reach u3.1 u3.2.2.2.2 u4 hu4) dX11_near_41 (by decide) rfl (Nat.le_of_ble_eq_true rfl) 8 5 rfl rfl [8, 12] rfl (by decide) rfl rfl rfl rfl ?_
    cases h
    exact hret _ _ _ dX11_near_44 rfl rfl
  · refine g_iconst (pc := 11) (v := -1) C dX11_near_11 (by decide) ?_
    cases h
    exact hret _ _ _ dX11_near_12 rfl rfl
abbrev W_X11_thursday (E : GE) (O_t : Nat) (r_t_tape : Nat) (r_t_script : Nat) (r_t_hairReader : Nat) (r_t_ordersReader : Nat) (r_t_lawReader : Nat) (r_t_doors : Nat) (r_t_town : Nat) (r_t_kept : Nat) (r_t_trial : Nat) (r_t_walk : Nat) (r_t_reach : Nat) (r_t_lawNow : Nat) (r_t_lawSpare : Nat) (O_tape : Nat) (a_tape : Nat → Nat) (t_isKept : Int32) (tape_size : Int32) (tape_bytes : (Nat → Int32)) : va_W := [(O_t, ob_X11 r_t_tape r_t_script r_t_hairReader r_t_ordersReader r_t_lawReader r_t_doors r_t_town r_t_kept r_t_trial r_t_walk r_t_reach r_t_lawNow r_t_lawSpare t_isKept), (O_tape, ob_X8 a_tape tape_size), (a_tape 0, .inl (E.2.1, 260, .inl tape_bytes))]
def f_X11_thursday (tape_size : Int32) (tape_bytes : (Nat → Int32)) : Option (Int32 × Int32) := if (7 : Int32) ≤ tape_size then ((f_X5_weekSteps tape_size tape_bytes).bind fun u1 => (f_X8_clear tape_size).bind fun u2 => some (u1, u2)) else some ((-1 : Int32), tape_size)
theorem dX11_thursday_0 : decode cX11_thursday 0 = .ok (.aload_n 0, 1) := by decide +kernel
theorem dX11_thursday_1 : decode cX11_thursday 1 = .ok (.getfield 10, 3) := by decide +kernel
theorem dX11_thursday_4 : decode cX11_thursday 4 = .ok (.getfield 106, 3) := by decide +kernel
theorem dX11_thursday_7 : decode cX11_thursday 7 = .ok (.bipush 7, 2) := by decide +kernel
theorem dX11_thursday_9 : decode cX11_thursday 9 = .ok (.if_icmp .ge 5, 3) := by decide +kernel
theorem dX11_thursday_12 : decode cX11_thursday 12 = .ok (.iconst (-1), 1) := by decide +kernel
theorem dX11_thursday_13 : decode cX11_thursday 13 = .ok (.ireturn, 1) := by decide +kernel
theorem dX11_thursday_14 : decode cX11_thursday 14 = .ok (.aload_n 0, 1) := by decide +kernel
theorem dX11_thursday_15 : decode cX11_thursday 15 = .ok (.getfield 10, 3) := by decide +kernel
theorem dX11_thursday_18 : decode cX11_thursday 18 = .ok (.invokestatic 305, 3) := by decide +kernel
theorem dX11_thursday_21 : decode cX11_thursday 21 = .ok (.istore_n 1, 1) := by decide +kernel
theorem dX11_thursday_22 : decode cX11_thursday 22 = .ok (.aload_n 0, 1) := by decide +kernel
theorem dX11_thursday_23 : decode cX11_thursday 23 = .ok (.getfield 10, 3) := by decide +kernel
theorem dX11_thursday_26 : decode cX11_thursday 26 = .ok (.invokevirtual 121, 3) := by decide +kernel
theorem dX11_thursday_29 : decode cX11_thursday 29 = .ok (.iload_n 1, 1) := by decide +kernel
theorem dX11_thursday_30 : decode cX11_thursday 30 = .ok (.ireturn, 1) := by decide +kernel
set_option maxHeartbeats 4000000 in
set_option maxRecDepth 100000 in
theorem c_X11_thursday (l : Launch) (E : GE) (o_t : Nat) (r_t_tape : Nat) (r_t_script : Nat) (r_t_hairReader : Nat) (r_t_ordersReader : Nat) (r_t_lawReader : Nat) (r_t_doors : Nat) (r_t_town : Nat) (r_t_kept : Nat) (r_t_trial : Nat) (r_t_walk : Nat) (r_t_reach : Nat) (r_t_lawNow : Nat) (r_t_lawSpare : Nat) (a_tape : Nat → Nat) (t_isKept : Int32) (tape_size : Int32) (tape_bytes : (Nat → Int32)) (r : Int32 × Int32) (h : f_X11_thursday tape_size tape_bytes = some r) : Cn l E yX11_thursday cX11_thursday 2 (some .int) 4 0 0 [.ref o_t] (W_X11_thursday E o_t r_t_tape r_t_script r_t_hairReader r_t_ordersReader r_t_lawReader r_t_doors r_t_town r_t_kept r_t_trial r_t_walk r_t_reach r_t_lawNow r_t_lawSpare r_t_tape a_tape t_isKept tape_size tape_bytes) (fun w => w = (W_X11_thursday E o_t r_t_tape r_t_script r_t_hairReader r_t_ordersReader r_t_lawReader r_t_doors r_t_town r_t_kept r_t_trial r_t_walk r_t_reach r_t_lawNow r_t_lawSpare r_t_tape a_tape t_isKept r.2 tape_bytes)) (some (.int r.1)) := by
  refine Cn.ofI (by decide +kernel) (Nat.le_of_ble_eq_true rfl) (fun X hX hR C hret => ?_)
  subst hX
  show Gx X E 0 0 (W_X11_thursday E o_t r_t_tape r_t_script r_t_hairReader r_t_ordersReader r_t_lawReader r_t_doors r_t_town r_t_kept r_t_trial r_t_walk r_t_reach r_t_lawNow r_t_lawSpare r_t_tape a_tape t_isKept tape_size tape_bytes) 0 [(0, .ref o_t)] []
  unfold f_X11_thursday at h
  refine g_aload_n (pc := 0) C dX11_thursday_0 rfl 0 rfl ?_
  refine g_get (pc := 1) C fl_X11_10 dX11_thursday_1 0 rfl rfl ?_
  refine g_get (pc := 4) C fl_X11_106 dX11_thursday_4 1 rfl rfl ?_
  refine g_bipush (pc := 7) (v := 7) C dX11_thursday_7 (by decide) ?_
  refine g_icmp_ge (pc := 9) (tgt := 14) C dX11_thursday_9 (by decide) h (fun h => ?_) (fun h => ?_)
  · refine g_aload_n (pc := 14) C dX11_thursday_14 rfl 0 rfl ?_
    refine g_get (pc := 15) C fl_X11_10 dX11_thursday_15 0 rfl rfl ?_
    obtain ⟨u1, hu1, h⟩ := bs h
    refine g_callS (pc := 18) (st := []) (st1 := [.int u1]) (ws' := (W_X11_thursday E o_t r_t_tape r_t_script r_t_hairReader r_t_ordersReader r_t_lawReader r_t_doors r_t_town r_t_kept r_t_trial r_t_walk r_t_reach r_t_lawNow r_t_lawSpare r_t_tape a_tape t_isKept tape_size tape_bytes)) C mv_X5_weekSteps ms_X5_weekSteps ml_X11_305 (c_X5_weekSteps X.2.1 E r_t_tape a_tape tape_size tape_bytes u1 hu1) dX11_thursday_18 (by decide) rfl (Nat.le_of_ble_eq_true rfl) [1, 2] rfl (by decide) rfl rfl rfl rfl ?_
    refine g_istore_n (pc := 21) (lv' := [(1, .int u1), (0, .ref o_t)]) C dX11_thursday_21 rfl (by decide) rfl ?_
    refine g_aload_n (pc := 22) C dX11_thursday_22 rfl 1 rfl ?_
    refine g_get (pc := 23) C fl_X11_10 dX11_thursday_23 0 rfl rfl ?_
    obtain ⟨u2, hu2, h⟩ := bs h
    refine g_callV (pc := 26) (st := []) (st1 := []) (ws' := (W_X11_thursday E o_t r_t_tape r_t_script r_t_hairReader r_t_ordersReader r_t_lawReader r_t_doors r_t_town r_t_kept r_t_trial r_t_walk r_t_reach r_t_lawNow r_t_lawSpare r_t_tape a_tape t_isKept u2 tape_bytes)) C mv_X8_clear mi_X8_clear ml_X11_121 (c_X8_clear X.2.1 E r_t_tape a_tape tape_size u2 hu2) dX11_thursday_26 (by decide) rfl (Nat.le_of_ble_eq_true rfl) 1 7 rfl rfl [1] rfl (by decide) rfl rfl rfl rfl ?_
    refine g_iload_n (pc := 29) C dX11_thursday_29 rfl 0 rfl ?_
    cases h
    exact hret _ _ _ dX11_thursday_30 rfl rfl
  · refine g_iconst (pc := 12) (v := -1) C dX11_thursday_12 (by decide) ?_
    cases h
    exact hret _ _ _ dX11_thursday_13 rfl rfl
abbrev W_X11_curls (E : GE) (O_t : Nat) (r_t_tape : Nat) (r_t_script : Nat) (r_t_hairReader : Nat) (r_t_ordersReader : Nat) (r_t_lawReader : Nat) (r_t_doors : Nat) (r_t_town : Nat) (r_t_kept : Nat) (r_t_trial : Nat) (r_t_walk : Nat) (r_t_reach : Nat) (r_t_lawNow : Nat) (r_t_lawSpare : Nat) (O_tape : Nat) (a_tape : Nat → Nat) (t_isKept : Int32) (tape_size : Int32) (tape_bytes : (Nat → Int32)) : va_W := [(O_t, ob_X11 r_t_tape r_t_script r_t_hairReader r_t_ordersReader r_t_lawReader r_t_doors r_t_town r_t_kept r_t_trial r_t_walk r_t_reach r_t_lawNow r_t_lawSpare t_isKept), (O_tape, ob_X8 a_tape tape_size), (a_tape 0, .inl (E.2.1, 260, .inl tape_bytes))]
def f_X11_curls (tape_size : Int32) (tape_bytes : (Nat → Int32)) (x1 : Int32) (x2 : Int32) : Option (Int32 × Int32) := (f_X11_isWithin x1 (0 : Int32) (8 : Int32)).bind fun u1 => if u1 = 0 then (some ((-1 : Int32), tape_size)) else (f_X11_isWithin x2 (0 : Int32) (1 : Int32)).bind fun u2 => if u2 = 0 then (some ((-1 : Int32), tape_size)) else if ((6 : Int32) * x1) ≤ tape_size then ((f_X5_areColours tape_size tape_bytes x1).bind fun u3 => jn (fun s4 : Int32 => (f_X8_clear tape_size).bind fun u5 => some (s4, u5)) fun j76 => if u3 = 0 then (j76 (-3 : Int32)) else if x2 = 0 then ((f_X5_howManyCurls tape_size tape_bytes x1).bind fun u7 => j76 u7) else (f_X5_leastCurls tape_size tape_bytes x1).bind fun u6 => j76 u6) else some ((-1 : Int32), tape_size)
theorem dX11_curls_0 : decode cX11_curls 0 = .ok (.iload_n 1, 1) := by decide +kernel
theorem dX11_curls_1 : decode cX11_curls 1 = .ok (.iconst 0, 1) := by decide +kernel
theorem dX11_curls_2 : decode cX11_curls 2 = .ok (.bipush 8, 2) := by decide +kernel
theorem dX11_curls_4 : decode cX11_curls 4 = .ok (.invokestatic 98, 3) := by decide +kernel
theorem dX11_curls_7 : decode cX11_curls 7 = .ok (.ifCond .eq 26, 3) := by decide +kernel
theorem dX11_curls_10 : decode cX11_curls 10 = .ok (.iload_n 2, 1) := by decide +kernel
theorem dX11_curls_11 : decode cX11_curls 11 = .ok (.iconst 0, 1) := by decide +kernel
theorem dX11_curls_12 : decode cX11_curls 12 = .ok (.iconst 1, 1) := by decide +kernel
theorem dX11_curls_13 : decode cX11_curls 13 = .ok (.invokestatic 98, 3) := by decide +kernel
theorem dX11_curls_16 : decode cX11_curls 16 = .ok (.ifCond .eq 17, 3) := by decide +kernel
theorem dX11_curls_19 : decode cX11_curls 19 = .ok (.aload_n 0, 1) := by decide +kernel
theorem dX11_curls_20 : decode cX11_curls 20 = .ok (.getfield 10, 3) := by decide +kernel
theorem dX11_curls_23 : decode cX11_curls 23 = .ok (.getfield 106, 3) := by decide +kernel
theorem dX11_curls_26 : decode cX11_curls 26 = .ok (.bipush 6, 2) := by decide +kernel
theorem dX11_curls_28 : decode cX11_curls 28 = .ok (.iload_n 1, 1) := by decide +kernel
theorem dX11_curls_29 : decode cX11_curls 29 = .ok (.imul, 1) := by decide +kernel
theorem dX11_curls_30 : decode cX11_curls 30 = .ok (.if_icmp .ge 5, 3) := by decide +kernel
theorem dX11_curls_33 : decode cX11_curls 33 = .ok (.iconst (-1), 1) := by decide +kernel
theorem dX11_curls_34 : decode cX11_curls 34 = .ok (.ireturn, 1) := by decide +kernel
theorem dX11_curls_35 : decode cX11_curls 35 = .ok (.aload_n 0, 1) := by decide +kernel
theorem dX11_curls_36 : decode cX11_curls 36 = .ok (.getfield 10, 3) := by decide +kernel
theorem dX11_curls_39 : decode cX11_curls 39 = .ok (.iload_n 1, 1) := by decide +kernel
theorem dX11_curls_40 : decode cX11_curls 40 = .ok (.invokestatic 273, 3) := by decide +kernel
theorem dX11_curls_43 : decode cX11_curls 43 = .ok (.ifCond .ne 9, 3) := by decide +kernel
theorem dX11_curls_46 : decode cX11_curls 46 = .ok (.bipush (-3), 2) := by decide +kernel
theorem dX11_curls_48 : decode cX11_curls 48 = .ok (.istore_n 3, 1) := by decide +kernel
theorem dX11_curls_49 : decode cX11_curls 49 = .ok (.goto 27, 3) := by decide +kernel
theorem dX11_curls_52 : decode cX11_curls 52 = .ok (.iload_n 2, 1) := by decide +kernel
theorem dX11_curls_53 : decode cX11_curls 53 = .ok (.ifCond .ne 14, 3) := by decide +kernel
theorem dX11_curls_56 : decode cX11_curls 56 = .ok (.aload_n 0, 1) := by decide +kernel
theorem dX11_curls_57 : decode cX11_curls 57 = .ok (.getfield 10, 3) := by decide +kernel
theorem dX11_curls_60 : decode cX11_curls 60 = .ok (.iload_n 1, 1) := by decide +kernel
theorem dX11_curls_61 : decode cX11_curls 61 = .ok (.invokestatic 279, 3) := by decide +kernel
theorem dX11_curls_64 : decode cX11_curls 64 = .ok (.goto 11, 3) := by decide +kernel
theorem dX11_curls_67 : decode cX11_curls 67 = .ok (.aload_n 0, 1) := by decide +kernel
theorem dX11_curls_68 : decode cX11_curls 68 = .ok (.getfield 10, 3) := by decide +kernel
theorem dX11_curls_71 : decode cX11_curls 71 = .ok (.iload_n 1, 1) := by decide +kernel
theorem dX11_curls_72 : decode cX11_curls 72 = .ok (.invokestatic 283, 3) := by decide +kernel
theorem dX11_curls_75 : decode cX11_curls 75 = .ok (.istore_n 3, 1) := by decide +kernel
theorem dX11_curls_76 : decode cX11_curls 76 = .ok (.aload_n 0, 1) := by decide +kernel
theorem dX11_curls_77 : decode cX11_curls 77 = .ok (.getfield 10, 3) := by decide +kernel
theorem dX11_curls_80 : decode cX11_curls 80 = .ok (.invokevirtual 121, 3) := by decide +kernel
theorem dX11_curls_83 : decode cX11_curls 83 = .ok (.iload_n 3, 1) := by decide +kernel
theorem dX11_curls_84 : decode cX11_curls 84 = .ok (.ireturn, 1) := by decide +kernel
set_option maxHeartbeats 4000000 in
set_option maxRecDepth 100000 in
theorem c_X11_curls (l : Launch) (E : GE) (o_t : Nat) (r_t_tape : Nat) (r_t_script : Nat) (r_t_hairReader : Nat) (r_t_ordersReader : Nat) (r_t_lawReader : Nat) (r_t_doors : Nat) (r_t_town : Nat) (r_t_kept : Nat) (r_t_trial : Nat) (r_t_walk : Nat) (r_t_reach : Nat) (r_t_lawNow : Nat) (r_t_lawSpare : Nat) (a_tape : Nat → Nat) (t_isKept : Int32) (tape_size : Int32) (tape_bytes : (Nat → Int32)) (x1 : Int32) (x2 : Int32) (r : Int32 × Int32) (h : f_X11_curls tape_size tape_bytes x1 x2 = some r) : Cn l E yX11_curls cX11_curls 4 (some .int) 5 0 0 [.ref o_t, .int x1, .int x2] (W_X11_curls E o_t r_t_tape r_t_script r_t_hairReader r_t_ordersReader r_t_lawReader r_t_doors r_t_town r_t_kept r_t_trial r_t_walk r_t_reach r_t_lawNow r_t_lawSpare r_t_tape a_tape t_isKept tape_size tape_bytes) (fun w => w = (W_X11_curls E o_t r_t_tape r_t_script r_t_hairReader r_t_ordersReader r_t_lawReader r_t_doors r_t_town r_t_kept r_t_trial r_t_walk r_t_reach r_t_lawNow r_t_lawSpare r_t_tape a_tape t_isKept r.2 tape_bytes)) (some (.int r.1)) := by
  refine Cn.ofI (by decide +kernel) (Nat.le_of_ble_eq_true rfl) (fun X hX hR C hret => ?_)
  subst hX
  show Gx X E 0 0 (W_X11_curls E o_t r_t_tape r_t_script r_t_hairReader r_t_ordersReader r_t_lawReader r_t_doors r_t_town r_t_kept r_t_trial r_t_walk r_t_reach r_t_lawNow r_t_lawSpare r_t_tape a_tape t_isKept tape_size tape_bytes) 0 [(0, .ref o_t), (1, .int x1), (2, .int x2)] []
  unfold f_X11_curls at h
  refine g_iload_n (pc := 0) C dX11_curls_0 rfl 1 rfl ?_
  refine g_iconst (pc := 1) (v := 0) C dX11_curls_1 (by decide) ?_
  refine g_bipush (pc := 2) (v := 8) C dX11_curls_2 (by decide) ?_
  obtain ⟨u1, hu1, h⟩ := bs h
  refine g_callS (pc := 4) (st := []) (st1 := [.int u1]) (ws' := (W_X11_curls E o_t r_t_tape r_t_script r_t_hairReader r_t_ordersReader r_t_lawReader r_t_doors r_t_town r_t_kept r_t_trial r_t_walk r_t_reach r_t_lawNow r_t_lawSpare r_t_tape a_tape t_isKept tape_size tape_bytes)) C mv_X11_isWithin ms_X11_isWithin ml_X11_98 (c_X11_isWithin X.2.1 E x1 (0 : Int32) (8 : Int32) u1 hu1) dX11_curls_4 (by decide) rfl (Nat.le_of_ble_eq_true rfl) [] rfl (by decide) rfl rfl rfl rfl ?_
  refine g_if_eq (pc := 7) (tgt := 33) C dX11_curls_7 (by decide) h (fun h => ?_) (fun h => ?_)
  · refine g_iconst (pc := 33) (v := -1) C dX11_curls_33 (by decide) ?_
    cases h
    exact hret _ _ _ dX11_curls_34 rfl rfl
  · refine g_iload_n (pc := 10) C dX11_curls_10 rfl 2 rfl ?_
    refine g_iconst (pc := 11) (v := 0) C dX11_curls_11 (by decide) ?_
    refine g_iconst (pc := 12) (v := 1) C dX11_curls_12 (by decide) ?_
    obtain ⟨u2, hu2, h⟩ := bs h
    refine g_callS (pc := 13) (st := []) (st1 := [.int u2]) (ws' := (W_X11_curls E o_t r_t_tape r_t_script r_t_hairReader r_t_ordersReader r_t_lawReader r_t_doors r_t_town r_t_kept r_t_trial r_t_walk r_t_reach r_t_lawNow r_t_lawSpare r_t_tape a_tape t_isKept tape_size tape_bytes)) C mv_X11_isWithin ms_X11_isWithin ml_X11_98 (c_X11_isWithin X.2.1 E x2 (0 : Int32) (1 : Int32) u2 hu2) dX11_curls_13 (by decide) rfl (Nat.le_of_ble_eq_true rfl) [] rfl (by decide) rfl rfl rfl rfl ?_
    refine g_if_eq (pc := 16) (tgt := 33) C dX11_curls_16 (by decide) h (fun h => ?_) (fun h => ?_)
    · refine g_iconst (pc := 33) (v := -1) C dX11_curls_33 (by decide) ?_
      cases h
      exact hret _ _ _ dX11_curls_34 rfl rfl
    · refine g_aload_n (pc := 19) C dX11_curls_19 rfl 0 rfl ?_
      refine g_get (pc := 20) C fl_X11_10 dX11_curls_20 0 rfl rfl ?_
      refine g_get (pc := 23) C fl_X11_106 dX11_curls_23 1 rfl rfl ?_
      refine g_bipush (pc := 26) (v := 6) C dX11_curls_26 (by decide) ?_
      refine g_iload_n (pc := 28) C dX11_curls_28 rfl 1 rfl ?_
      refine g_imul (pc := 29) C dX11_curls_29 ?_
      refine g_icmp_ge (pc := 30) (tgt := 35) C dX11_curls_30 (by decide) h (fun h => ?_) (fun h => ?_)
      · refine g_aload_n (pc := 35) C dX11_curls_35 rfl 0 rfl ?_
        refine g_get (pc := 36) C fl_X11_10 dX11_curls_36 0 rfl rfl ?_
        refine g_iload_n (pc := 39) C dX11_curls_39 rfl 1 rfl ?_
        obtain ⟨u3, hu3, h⟩ := bs h
        refine g_callS (pc := 40) (st := []) (st1 := [.int u3]) (ws' := (W_X11_curls E o_t r_t_tape r_t_script r_t_hairReader r_t_ordersReader r_t_lawReader r_t_doors r_t_town r_t_kept r_t_trial r_t_walk r_t_reach r_t_lawNow r_t_lawSpare r_t_tape a_tape t_isKept tape_size tape_bytes)) C mv_X5_areColours ms_X5_areColours ml_X11_273 (c_X5_areColours X.2.1 E r_t_tape a_tape tape_size tape_bytes x1 u3 hu3) dX11_curls_40 (by decide) rfl (Nat.le_of_ble_eq_true rfl) [1, 2] rfl (by decide) rfl rfl rfl rfl ?_
        refine g_jn (fun s4 : Int32 => Gx X E 0 0 (W_X11_curls E o_t r_t_tape r_t_script r_t_hairReader r_t_ordersReader r_t_lawReader r_t_doors r_t_town r_t_kept r_t_trial r_t_walk r_t_reach r_t_lawNow r_t_lawSpare r_t_tape a_tape t_isKept tape_size tape_bytes) 76 [(0, .ref o_t), (3, .int s4)] []) h (fun s4 h => ?_) (fun j76 hj76 h => ?_)
        · refine g_aload_n (pc := 76) C dX11_curls_76 rfl 0 rfl ?_
          refine g_get (pc := 77) C fl_X11_10 dX11_curls_77 0 rfl rfl ?_
          obtain ⟨u5, hu5, h⟩ := bs h
          refine g_callV (pc := 80) (st := []) (st1 := []) (ws' := (W_X11_curls E o_t r_t_tape r_t_script r_t_hairReader r_t_ordersReader r_t_lawReader r_t_doors r_t_town r_t_kept r_t_trial r_t_walk r_t_reach r_t_lawNow r_t_lawSpare r_t_tape a_tape t_isKept u5 tape_bytes)) C mv_X8_clear mi_X8_clear ml_X11_121 (c_X8_clear X.2.1 E r_t_tape a_tape tape_size u5 hu5) dX11_curls_80 (by decide) rfl (Nat.le_of_ble_eq_true rfl) 1 7 rfl rfl [1] rfl (by decide) rfl rfl rfl rfl ?_
          refine g_iload_n (pc := 83) C dX11_curls_83 rfl 1 rfl ?_
          cases h
          exact hret _ _ _ dX11_curls_84 rfl rfl
        refine g_if_ne (pc := 43) (tgt := 52) C dX11_curls_43 (by decide) h (fun h => ?_) (fun h => ?_)
        · refine g_iload_n (pc := 52) C dX11_curls_52 rfl 2 rfl ?_
          refine g_if_ne (pc := 53) (tgt := 67) C dX11_curls_53 (by decide) h (fun h => ?_) (fun h => ?_)
          · refine g_aload_n (pc := 67) C dX11_curls_67 rfl 0 rfl ?_
            refine g_get (pc := 68) C fl_X11_10 dX11_curls_68 0 rfl rfl ?_
            refine g_iload_n (pc := 71) C dX11_curls_71 rfl 1 rfl ?_
            obtain ⟨u6, hu6, h⟩ := bs h
            refine g_callS (pc := 72) (st := []) (st1 := [.int u6]) (ws' := (W_X11_curls E o_t r_t_tape r_t_script r_t_hairReader r_t_ordersReader r_t_lawReader r_t_doors r_t_town r_t_kept r_t_trial r_t_walk r_t_reach r_t_lawNow r_t_lawSpare r_t_tape a_tape t_isKept tape_size tape_bytes)) C mv_X5_leastCurls ms_X5_leastCurls ml_X11_283 (c_X5_leastCurls X.2.1 E r_t_tape a_tape tape_size tape_bytes x1 u6 hu6) dX11_curls_72 (by decide) rfl (Nat.le_of_ble_eq_true rfl) [1, 2] rfl (by decide) rfl rfl rfl rfl ?_
            refine g_istore_n (pc := 75) (lv' := [(3, .int u6), (0, .ref o_t), (1, .int x1), (2, .int x2)]) C dX11_curls_75 rfl (by decide) rfl ?_
            refine g_sub [1, 0] rfl ?_
            exact hj76 _ h
          · refine g_aload_n (pc := 56) C dX11_curls_56 rfl 0 rfl ?_
            refine g_get (pc := 57) C fl_X11_10 dX11_curls_57 0 rfl rfl ?_
            refine g_iload_n (pc := 60) C dX11_curls_60 rfl 1 rfl ?_
            obtain ⟨u7, hu7, h⟩ := bs h
            refine g_callS (pc := 61) (st := []) (st1 := [.int u7]) (ws' := (W_X11_curls E o_t r_t_tape r_t_script r_t_hairReader r_t_ordersReader r_t_lawReader r_t_doors r_t_town r_t_kept r_t_trial r_t_walk r_t_reach r_t_lawNow r_t_lawSpare r_t_tape a_tape t_isKept tape_size tape_bytes)) C mv_X5_howManyCurls ms_X5_howManyCurls ml_X11_279 (c_X5_howManyCurls X.2.1 E r_t_tape a_tape tape_size tape_bytes x1 u7 hu7) dX11_curls_61 (by decide) rfl (Nat.le_of_ble_eq_true rfl) [1, 2] rfl (by decide) rfl rfl rfl rfl ?_
            refine g_goto (pc := 64) (tgt := 75) C dX11_curls_64 (by decide) ?_
            refine g_istore_n (pc := 75) (lv' := [(3, .int u7), (0, .ref o_t), (1, .int x1), (2, .int x2)]) C dX11_curls_75 rfl (by decide) rfl ?_
            refine g_sub [1, 0] rfl ?_
            exact hj76 _ h
        · refine g_bipush (pc := 46) (v := -3) C dX11_curls_46 (by decide) ?_
          refine g_istore_n (pc := 48) (lv' := [(3, .int (-3 : Int32)), (0, .ref o_t), (1, .int x1), (2, .int x2)]) C dX11_curls_48 rfl (by decide) rfl ?_
          refine g_goto (pc := 49) (tgt := 76) C dX11_curls_49 (by decide) ?_
          refine g_sub [1, 0] rfl ?_
          exact hj76 _ h
      · refine g_iconst (pc := 33) (v := -1) C dX11_curls_33 (by decide) ?_
        cases h
        exact hret _ _ _ dX11_curls_34 rfl rfl
abbrev W_X11_getsTo (E : GE) (O_t : Nat) (r_t_tape : Nat) (r_t_script : Nat) (r_t_hairReader : Nat) (r_t_ordersReader : Nat) (r_t_lawReader : Nat) (r_t_doors : Nat) (r_t_town : Nat) (r_t_kept : Nat) (r_t_trial : Nat) (r_t_walk : Nat) (r_t_reach : Nat) (r_t_lawNow : Nat) (r_t_lawSpare : Nat) (O_doors : Nat) (a_doors : Nat → Nat) (O_town : Nat) (a_town : Nat → Nat) (O_reach : Nat) (a_reach : Nat → Nat) (t_isKept : Int32) (doors_told : Int32) (doors_barred : Int32) (doors_one : (Nat → Int32)) (doors_other : (Nat → Int32)) (doors_fits : (Nat → Int32)) (town_told : Int32) (town_round : Int32) (town_x : Int32) (town_rooms : (Nat → Int32)) (town_pins : (Nat → Int32)) (reach_size : Int32) (reach_next : (Nat → Int32)) (reach_left : (Nat → Int32)) (reach_used : (Nat → Int32)) (reach_rooms : (Nat → Int32)) : va_W := [(O_t, ob_X11 r_t_tape r_t_script r_t_hairReader r_t_ordersReader r_t_lawReader r_t_doors r_t_town r_t_kept r_t_trial r_t_walk r_t_reach r_t_lawNow r_t_lawSpare t_isKept), (O_doors, ob_X0 a_doors doors_told doors_barred), (a_doors 0, .inl (E.2.1, 24, .inl doors_one)), (a_doors 1, .inl (E.2.1, 24, .inl doors_other)), (a_doors 3, .inl (E.2.1, 24, .inl doors_fits)), (O_town, ob_X9 a_town town_told town_round town_x), (a_town 1, .inl (E.2.1, 10, .inl town_rooms)), (a_town 3, .inl (E.2.1, 60, .inl town_pins)), (O_reach, ob_X6 a_reach reach_size), (a_reach 0, .inl (E.2.1, 96, .inl reach_next)), (a_reach 1, .inl (E.2.1, 6, .inl reach_left)), (a_reach 2, .inl (E.2.1, 924, .inl reach_used)), (a_reach 3, .inl (E.2.1, 924, .inl reach_rooms))]
def f_X11_getsTo (doors_told : Int32) (doors_barred : Int32) (doors_one : (Nat → Int32)) (doors_other : (Nat → Int32)) (doors_fits : (Nat → Int32)) (town_told : Int32) (town_rooms : (Nat → Int32)) (town_pins : (Nat → Int32)) (reach_size : Int32) (reach_next : (Nat → Int32)) (reach_left : (Nat → Int32)) (reach_used : (Nat → Int32)) (reach_rooms : (Nat → Int32)) (x1 : Int32) (x2 : Int32) (x3 : Int32) : Option (Int32 × Int32 × (Nat → Int32) × (Nat → Int32) × (Nat → Int32) × (Nat → Int32)) := (f_X9_isTold town_told x1).bind fun u1 => if u1 = 0 then (some ((-1 : Int32), reach_size, reach_next, reach_left, reach_used, reach_rooms)) else (f_X11_isWithin x2 (0 : Int32) (15 : Int32)).bind fun u2 => if u2 = 0 then (some ((-1 : Int32), reach_size, reach_next, reach_left, reach_used, reach_rooms)) else (f_X11_isWithin x3 (0 : Int32) (1 : Int32)).bind fun u3 => if u3 = 0 then (some ((-1 : Int32), reach_size, reach_next, reach_left, reach_used, reach_rooms)) else (f_X9_roomOf town_told town_rooms x1).bind fun u4 => if u4 = x2 then (if x3 = 0 then (some ((0 : Int32), reach_size, reach_next, reach_left, reach_used, reach_rooms)) else some ((-4 : Int32), reach_size, reach_next, reach_left, reach_used, reach_rooms)) else (f_X6_spread reach_size reach_next reach_left reach_used reach_rooms doors_told doors_barred doors_one doors_other doors_fits town_told town_pins x1 x2).bind fun u5 => (f_X6_fewestTo u5.1 u5.2.2.2.1 u5.2.2.2.2 u4).bind fun u6 => if u6 = (-1 : Int32) then (some ((-2 : Int32), u5.1, u5.2.1, u5.2.2.1, u5.2.2.2.1, u5.2.2.2.2)) else if x3 = 0 then (some (u6, u5.1, u5.2.1, u5.2.2.1, u5.2.2.2.1, u5.2.2.2.2)) else (f_X6_firstDoor u5.1 u5.2.2.1 u5.2.2.2.1 u5.2.2.2.2 doors_told doors_barred doors_one doors_other doors_fits u4 u6).bind fun u7 => some (u7, u5.1, u5.2.1, u5.2.2.1, u5.2.2.2.1, u5.2.2.2.2)
theorem dX11_getsTo_0 : decode cX11_getsTo 0 = .ok (.aload_n 0, 1) := by decide +kernel
theorem dX11_getsTo_1 : decode cX11_getsTo 1 = .ok (.getfield 51, 3) := by decide +kernel
theorem dX11_getsTo_4 : decode cX11_getsTo 4 = .ok (.iload_n 1, 1) := by decide +kernel
theorem dX11_getsTo_5 : decode cX11_getsTo 5 = .ok (.invokevirtual 134, 3) := by decide +kernel
theorem dX11_getsTo_8 : decode cX11_getsTo 8 = .ok (.ifCond .eq 22, 3) := by decide +kernel
theorem dX11_getsTo_11 : decode cX11_getsTo 11 = .ok (.iload_n 2, 1) := by decide +kernel
theorem dX11_getsTo_12 : decode cX11_getsTo 12 = .ok (.iconst 0, 1) := by decide +kernel
theorem dX11_getsTo_13 : decode cX11_getsTo 13 = .ok (.bipush 15, 2) := by decide +kernel
theorem dX11_getsTo_15 : decode cX11_getsTo 15 = .ok (.invokestatic 98, 3) := by decide +kernel
theorem dX11_getsTo_18 : decode cX11_getsTo 18 = .ok (.ifCond .eq 12, 3) := by decide +kernel
theorem dX11_getsTo_21 : decode cX11_getsTo 21 = .ok (.iload_n 3, 1) := by decide +kernel
theorem dX11_getsTo_22 : decode cX11_getsTo 22 = .ok (.iconst 0, 1) := by decide +kernel
theorem dX11_getsTo_23 : decode cX11_getsTo 23 = .ok (.iconst 1, 1) := by decide +kernel
theorem dX11_getsTo_24 : decode cX11_getsTo 24 = .ok (.invokestatic 98, 3) := by decide +kernel
theorem dX11_getsTo_27 : decode cX11_getsTo 27 = .ok (.ifCond .ne 5, 3) := by decide +kernel
theorem dX11_getsTo_30 : decode cX11_getsTo 30 = .ok (.iconst (-1), 1) := by decide +kernel
theorem dX11_getsTo_31 : decode cX11_getsTo 31 = .ok (.ireturn, 1) := by decide +kernel
theorem dX11_getsTo_32 : decode cX11_getsTo 32 = .ok (.aload_n 0, 1) := by decide +kernel
theorem dX11_getsTo_33 : decode cX11_getsTo 33 = .ok (.getfield 51, 3) := by decide +kernel
theorem dX11_getsTo_36 : decode cX11_getsTo 36 = .ok (.iload_n 1, 1) := by decide +kernel
theorem dX11_getsTo_37 : decode cX11_getsTo 37 = .ok (.invokevirtual 195, 3) := by decide +kernel
theorem dX11_getsTo_40 : decode cX11_getsTo 40 = .ok (.istore 4, 2) := by decide +kernel
theorem dX11_getsTo_42 : decode cX11_getsTo 42 = .ok (.iload 4, 2) := by decide +kernel
theorem dX11_getsTo_44 : decode cX11_getsTo 44 = .ok (.iload_n 2, 1) := by decide +kernel
theorem dX11_getsTo_45 : decode cX11_getsTo 45 = .ok (.if_icmp .ne 14, 3) := by decide +kernel
theorem dX11_getsTo_48 : decode cX11_getsTo 48 = .ok (.iload_n 3, 1) := by decide +kernel
theorem dX11_getsTo_49 : decode cX11_getsTo 49 = .ok (.ifCond .ne 7, 3) := by decide +kernel
theorem dX11_getsTo_52 : decode cX11_getsTo 52 = .ok (.iconst 0, 1) := by decide +kernel
theorem dX11_getsTo_53 : decode cX11_getsTo 53 = .ok (.goto 5, 3) := by decide +kernel
theorem dX11_getsTo_56 : decode cX11_getsTo 56 = .ok (.bipush (-4), 2) := by decide +kernel
theorem dX11_getsTo_58 : decode cX11_getsTo 58 = .ok (.ireturn, 1) := by decide +kernel
theorem dX11_getsTo_59 : decode cX11_getsTo 59 = .ok (.aload_n 0, 1) := by decide +kernel
theorem dX11_getsTo_60 : decode cX11_getsTo 60 = .ok (.getfield 71, 3) := by decide +kernel
theorem dX11_getsTo_63 : decode cX11_getsTo 63 = .ok (.aload_n 0, 1) := by decide +kernel
theorem dX11_getsTo_64 : decode cX11_getsTo 64 = .ok (.getfield 44, 3) := by decide +kernel
theorem dX11_getsTo_67 : decode cX11_getsTo 67 = .ok (.aload_n 0, 1) := by decide +kernel
theorem dX11_getsTo_68 : decode cX11_getsTo 68 = .ok (.getfield 51, 3) := by decide +kernel
theorem dX11_getsTo_71 : decode cX11_getsTo 71 = .ok (.iload_n 1, 1) := by decide +kernel
theorem dX11_getsTo_72 : decode cX11_getsTo 72 = .ok (.iload_n 2, 1) := by decide +kernel
theorem dX11_getsTo_73 : decode cX11_getsTo 73 = .ok (.invokevirtual 224, 3) := by decide +kernel
theorem dX11_getsTo_76 : decode cX11_getsTo 76 = .ok (.aload_n 0, 1) := by decide +kernel
theorem dX11_getsTo_77 : decode cX11_getsTo 77 = .ok (.getfield 71, 3) := by decide +kernel
theorem dX11_getsTo_80 : decode cX11_getsTo 80 = .ok (.iload 4, 2) := by decide +kernel
theorem dX11_getsTo_82 : decode cX11_getsTo 82 = .ok (.invokevirtual 228, 3) := by decide +kernel
theorem dX11_getsTo_85 : decode cX11_getsTo 85 = .ok (.istore 5, 2) := by decide +kernel
theorem dX11_getsTo_87 : decode cX11_getsTo 87 = .ok (.iload 5, 2) := by decide +kernel
theorem dX11_getsTo_89 : decode cX11_getsTo 89 = .ok (.iconst (-1), 1) := by decide +kernel
theorem dX11_getsTo_90 : decode cX11_getsTo 90 = .ok (.if_icmp .ne 6, 3) := by decide +kernel
theorem dX11_getsTo_93 : decode cX11_getsTo 93 = .ok (.bipush (-2), 2) := by decide +kernel
theorem dX11_getsTo_95 : decode cX11_getsTo 95 = .ok (.ireturn, 1) := by decide +kernel
theorem dX11_getsTo_96 : decode cX11_getsTo 96 = .ok (.iload_n 3, 1) := by decide +kernel
theorem dX11_getsTo_97 : decode cX11_getsTo 97 = .ok (.ifCond .ne 8, 3) := by decide +kernel
theorem dX11_getsTo_100 : decode cX11_getsTo 100 = .ok (.iload 5, 2) := by decide +kernel
theorem dX11_getsTo_102 : decode cX11_getsTo 102 = .ok (.goto 18, 3) := by decide +kernel
theorem dX11_getsTo_105 : decode cX11_getsTo 105 = .ok (.aload_n 0, 1) := by decide +kernel
theorem dX11_getsTo_106 : decode cX11_getsTo 106 = .ok (.getfield 71, 3) := by decide +kernel
theorem dX11_getsTo_109 : decode cX11_getsTo 109 = .ok (.aload_n 0, 1) := by decide +kernel
theorem dX11_getsTo_110 : decode cX11_getsTo 110 = .ok (.getfield 44, 3) := by decide +kernel
theorem dX11_getsTo_113 : decode cX11_getsTo 113 = .ok (.iload 4, 2) := by decide +kernel
theorem dX11_getsTo_115 : decode cX11_getsTo 115 = .ok (.iload 5, 2) := by decide +kernel
theorem dX11_getsTo_117 : decode cX11_getsTo 117 = .ok (.invokevirtual 231, 3) := by decide +kernel
theorem dX11_getsTo_120 : decode cX11_getsTo 120 = .ok (.ireturn, 1) := by decide +kernel
set_option maxHeartbeats 4000000 in
set_option maxRecDepth 100000 in
theorem c_X11_getsTo (l : Launch) (E : GE) (o_t : Nat) (r_t_tape : Nat) (r_t_script : Nat) (r_t_hairReader : Nat) (r_t_ordersReader : Nat) (r_t_lawReader : Nat) (r_t_doors : Nat) (r_t_town : Nat) (r_t_kept : Nat) (r_t_trial : Nat) (r_t_walk : Nat) (r_t_reach : Nat) (r_t_lawNow : Nat) (r_t_lawSpare : Nat) (a_doors : Nat → Nat) (a_town : Nat → Nat) (a_reach : Nat → Nat) (t_isKept : Int32) (doors_told : Int32) (doors_barred : Int32) (doors_one : (Nat → Int32)) (doors_other : (Nat → Int32)) (doors_fits : (Nat → Int32)) (town_told : Int32) (town_round : Int32) (town_x : Int32) (town_rooms : (Nat → Int32)) (town_pins : (Nat → Int32)) (reach_size : Int32) (reach_next : (Nat → Int32)) (reach_left : (Nat → Int32)) (reach_used : (Nat → Int32)) (reach_rooms : (Nat → Int32)) (x1 : Int32) (x2 : Int32) (x3 : Int32) (r : Int32 × Int32 × (Nat → Int32) × (Nat → Int32) × (Nat → Int32) × (Nat → Int32)) (h : f_X11_getsTo doors_told doors_barred doors_one doors_other doors_fits town_told town_rooms town_pins reach_size reach_next reach_left reach_used reach_rooms x1 x2 x3 = some r) : Cn l E yX11_getsTo cX11_getsTo 6 (some .int) 5 0 0 [.ref o_t, .int x1, .int x2, .int x3] (W_X11_getsTo E o_t r_t_tape r_t_script r_t_hairReader r_t_ordersReader r_t_lawReader r_t_doors r_t_town r_t_kept r_t_trial r_t_walk r_t_reach r_t_lawNow r_t_lawSpare r_t_doors a_doors r_t_town a_town r_t_reach a_reach t_isKept doors_told doors_barred doors_one doors_other doors_fits town_told town_round town_x town_rooms town_pins reach_size reach_next reach_left reach_used reach_rooms) (fun w => w = (W_X11_getsTo E o_t r_t_tape r_t_script r_t_hairReader r_t_ordersReader r_t_lawReader r_t_doors r_t_town r_t_kept r_t_trial r_t_walk r_t_reach r_t_lawNow r_t_lawSpare r_t_doors a_doors r_t_town a_town r_t_reach a_reach t_isKept doors_told doors_barred doors_one doors_other doors_fits town_told town_round town_x town_rooms town_pins r.2.1 r.2.2.1 r.2.2.2.1 r.2.2.2.2.1 r.2.2.2.2.2)) (some (.int r.1)) := by
  refine Cn.ofI (by decide +kernel) (Nat.le_of_ble_eq_true rfl) (fun X hX hR C hret => ?_)
  subst hX
  show Gx X E 0 0 (W_X11_getsTo E o_t r_t_tape r_t_script r_t_hairReader r_t_ordersReader r_t_lawReader r_t_doors r_t_town r_t_kept r_t_trial r_t_walk r_t_reach r_t_lawNow r_t_lawSpare r_t_doors a_doors r_t_town a_town r_t_reach a_reach t_isKept doors_told doors_barred doors_one doors_other doors_fits town_told town_round town_x town_rooms town_pins reach_size reach_next reach_left reach_used reach_rooms) 0 [(0, .ref o_t), (1, .int x1), (2, .int x2), (3, .int x3)] []
  unfold f_X11_getsTo at h
  refine g_aload_n (pc := 0) C dX11_getsTo_0 rfl 0 rfl ?_
  refine g_get (pc := 1) C fl_X11_51 dX11_getsTo_1 0 rfl rfl ?_
  refine g_iload_n (pc := 4) C dX11_getsTo_4 rfl 1 rfl ?_
  obtain ⟨u1, hu1, h⟩ := bs h
  refine g_callV (pc := 5) (st := []) (st1 := [.int u1]) (ws' := (W_X11_getsTo E o_t r_t_tape r_t_script r_t_hairReader r_t_ordersReader r_t_lawReader r_t_doors r_t_town r_t_kept r_t_trial r_t_walk r_t_reach r_t_lawNow r_t_lawSpare r_t_doors a_doors r_t_town a_town r_t_reach a_reach t_isKept doors_told doors_barred doors_one doors_other doors_fits town_told town_round town_x town_rooms town_pins reach_size reach_next reach_left reach_used reach_rooms)) C mv_X9_isTold mi_X9_isTold ml_X11_134 (c_X9_isTold X.2.1 E r_t_town a_town town_told town_round town_x x1 u1 hu1) dX11_getsTo_5 (by decide) rfl (Nat.le_of_ble_eq_true rfl) 5 8 rfl rfl [5] rfl (by decide) rfl rfl rfl rfl ?_
  refine g_if_eq (pc := 8) (tgt := 30) C dX11_getsTo_8 (by decide) h (fun h => ?_) (fun h => ?_)
  · refine g_iconst (pc := 30) (v := -1) C dX11_getsTo_30 (by decide) ?_
    cases h
    exact hret _ _ _ dX11_getsTo_31 rfl rfl
  · refine g_iload_n (pc := 11) C dX11_getsTo_11 rfl 2 rfl ?_
    refine g_iconst (pc := 12) (v := 0) C dX11_getsTo_12 (by decide) ?_
    refine g_bipush (pc := 13) (v := 15) C dX11_getsTo_13 (by decide) ?_
    obtain ⟨u2, hu2, h⟩ := bs h
    refine g_callS (pc := 15) (st := []) (st1 := [.int u2]) (ws' := (W_X11_getsTo E o_t r_t_tape r_t_script r_t_hairReader r_t_ordersReader r_t_lawReader r_t_doors r_t_town r_t_kept r_t_trial r_t_walk r_t_reach r_t_lawNow r_t_lawSpare r_t_doors a_doors r_t_town a_town r_t_reach a_reach t_isKept doors_told doors_barred doors_one doors_other doors_fits town_told town_round town_x town_rooms town_pins reach_size reach_next reach_left reach_used reach_rooms)) C mv_X11_isWithin ms_X11_isWithin ml_X11_98 (c_X11_isWithin X.2.1 E x2 (0 : Int32) (15 : Int32) u2 hu2) dX11_getsTo_15 (by decide) rfl (Nat.le_of_ble_eq_true rfl) [] rfl (by decide) rfl rfl rfl rfl ?_
    refine g_if_eq (pc := 18) (tgt := 30) C dX11_getsTo_18 (by decide) h (fun h => ?_) (fun h => ?_)
    · refine g_iconst (pc := 30) (v := -1) C dX11_getsTo_30 (by decide) ?_
      cases h
      exact hret _ _ _ dX11_getsTo_31 rfl rfl
    · refine g_iload_n (pc := 21) C dX11_getsTo_21 rfl 3 rfl ?_
      refine g_iconst (pc := 22) (v := 0) C dX11_getsTo_22 (by decide) ?_
      refine g_iconst (pc := 23) (v := 1) C dX11_getsTo_23 (by decide) ?_
      obtain ⟨u3, hu3, h⟩ := bs h
      refine g_callS (pc := 24) (st := []) (st1 := [.int u3]) (ws' := (W_X11_getsTo E o_t r_t_tape r_t_script r_t_hairReader r_t_ordersReader r_t_lawReader r_t_doors r_t_town r_t_kept r_t_trial r_t_walk r_t_reach r_t_lawNow r_t_lawSpare r_t_doors a_doors r_t_town a_town r_t_reach a_reach t_isKept doors_told doors_barred doors_one doors_other doors_fits town_told town_round town_x town_rooms town_pins reach_size reach_next reach_left reach_used reach_rooms)) C mv_X11_isWithin ms_X11_isWithin ml_X11_98 (c_X11_isWithin X.2.1 E x3 (0 : Int32) (1 : Int32) u3 hu3) dX11_getsTo_24 (by decide) rfl (Nat.le_of_ble_eq_true rfl) [] rfl (by decide) rfl rfl rfl rfl ?_
      refine g_if_ne (pc := 27) (tgt := 32) C dX11_getsTo_27 (by decide) h (fun h => ?_) (fun h => ?_)
      · refine g_aload_n (pc := 32) C dX11_getsTo_32 rfl 0 rfl ?_
        refine g_get (pc := 33) C fl_X11_51 dX11_getsTo_33 0 rfl rfl ?_
        refine g_iload_n (pc := 36) C dX11_getsTo_36 rfl 1 rfl ?_
        obtain ⟨u4, hu4, h⟩ := bs h
        refine g_callV (pc := 37) (st := []) (st1 := [.int u4]) (ws' := (W_X11_getsTo E o_t r_t_tape r_t_script r_t_hairReader r_t_ordersReader r_t_lawReader r_t_doors r_t_town r_t_kept r_t_trial r_t_walk r_t_reach r_t_lawNow r_t_lawSpare r_t_doors a_doors r_t_town a_town r_t_reach a_reach t_isKept doors_told doors_barred doors_one doors_other doors_fits town_told town_round town_x town_rooms town_pins reach_size reach_next reach_left reach_used reach_rooms)) C mv_X9_roomOf mi_X9_roomOf ml_X11_195 (c_X9_roomOf X.2.1 E r_t_town a_town town_told town_round town_x town_rooms x1 u4 hu4) dX11_getsTo_37 (by decide) rfl (Nat.le_of_ble_eq_true rfl) 5 8 rfl rfl [5, 6] rfl (by decide) rfl rfl rfl rfl ?_
        refine g_istore (pc := 40) (lv' := [(4, .int u4), (0, .ref o_t), (1, .int x1), (2, .int x2), (3, .int x3)]) C dX11_getsTo_40 (by decide) rfl ?_
        refine g_iload (pc := 42) C dX11_getsTo_42 0 rfl ?_
        refine g_iload_n (pc := 44) C dX11_getsTo_44 rfl 3 rfl ?_
        refine g_icmp_ne (pc := 45) (tgt := 59) C dX11_getsTo_45 (by decide) h (fun h => ?_) (fun h => ?_)
        · refine g_aload_n (pc := 59) C dX11_getsTo_59 rfl 1 rfl ?_
          refine g_get (pc := 60) C fl_X11_71 dX11_getsTo_60 0 rfl rfl ?_
          refine g_aload_n (pc := 63) C dX11_getsTo_63 rfl 1 rfl ?_
          refine g_get (pc := 64) C fl_X11_44 dX11_getsTo_64 0 rfl rfl ?_
          refine g_aload_n (pc := 67) C dX11_getsTo_67 rfl 1 rfl ?_
          refine g_get (pc := 68) C fl_X11_51 dX11_getsTo_68 0 rfl rfl ?_
          refine g_iload_n (pc := 71) C dX11_getsTo_71 rfl 2 rfl ?_
          refine g_iload_n (pc := 72) C dX11_getsTo_72 rfl 3 rfl ?_
          obtain ⟨u5, hu5, h⟩ := bs h
          refine g_callV (pc := 73) (st := []) (st1 := []) (ws' := (W_X11_getsTo E o_t r_t_tape r_t_script r_t_hairReader r_t_ordersReader r_t_lawReader r_t_doors r_t_town r_t_kept r_t_trial r_t_walk r_t_reach r_t_lawNow r_t_lawSpare r_t_doors a_doors r_t_town a_town r_t_reach a_reach t_isKept doors_told doors_barred doors_one doors_other doors_fits town_told town_round town_x town_rooms town_pins u5.1 u5.2.1 u5.2.2.1 u5.2.2.2.1 u5.2.2.2.2)) C mv_X6_spread mi_X6_spread ml_X11_224 (c_X6_spread X.2.1 E r_t_reach a_reach r_t_doors a_doors r_t_town a_town reach_size reach_next reach_left reach_used reach_rooms doors_told doors_barred doors_one doors_other doors_fits town_told town_round town_x town_pins x1 x2 u5 hu5) dX11_getsTo_73 (by decide) rfl (Nat.le_of_ble_eq_true rfl) 8 5 rfl rfl [8, 9, 10, 11, 12, 1, 2, 3, 4, 5, 7] rfl (by decide) rfl rfl rfl rfl ?_
          refine g_aload_n (pc := 76) C dX11_getsTo_76 rfl 1 rfl ?_
          refine g_get (pc := 77) C fl_X11_71 dX11_getsTo_77 0 rfl rfl ?_
          refine g_iload (pc := 80) C dX11_getsTo_80 0 rfl ?_
          obtain ⟨u6, hu6, h⟩ := bs h
          refine g_callV (pc := 82) (st := []) (st1 := [.int u6]) (ws' := (W_X11_getsTo E o_t r_t_tape r_t_script r_t_hairReader r_t_ordersReader r_t_lawReader r_t_doors r_t_town r_t_kept r_t_trial r_t_walk r_t_reach r_t_lawNow r_t_lawSpare r_t_doors a_doors r_t_town a_town r_t_reach a_reach t_isKept doors_told doors_barred doors_one doors_other doors_fits town_told town_round town_x town_rooms town_pins u5.1 u5.2.1 u5.2.2.1 u5.2.2.2.1 u5.2.2.2.2)) C mv_X6_fewestTo mi_X6_fewestTo ml_X11_228 (c_X6_fewestTo X.2.1 E r_t_reach a_reach u5.1 u5.2.2.2.1 u5.2.2.2.2 u4 u6 hu6) dX11_getsTo_82 (by decide) rfl (Nat.le_of_ble_eq_true rfl) 8 5 rfl rfl [8, 11, 12] rfl (by decide) rfl rfl rfl rfl ?_
          refine g_istore (pc := 85) (lv' := [(5, .int u6), (4, .int u4), (0, .ref o_t), (1, .int x1), (2, .int x2), (3, .int x3)]) C dX11_getsTo_85 (by decide) rfl ?_
          refine g_iload (pc := 87) C dX11_getsTo_87 0 rfl ?_
          refine g_iconst (pc := 89) (v := -1) C dX11_getsTo_89 (by decide) ?_
          refine g_icmp_ne (pc := 90) (tgt := 96) C dX11_getsTo_90 (by decide) h (fun h => ?_) (fun h => ?_)
          · refine g_iload_n (pc := 96) C dX11_getsTo_96 rfl 5 rfl ?_
            refine g_if_ne (pc := 97) (tgt := 105) C dX11_getsTo_97 (by decide) h (fun h => ?_) (fun h => ?_)
            · refine g_aload_n (pc := 105) C dX11_getsTo_105 rfl 2 rfl ?_
              refine g_get (pc := 106) C fl_X11_71 dX11_getsTo_106 0 rfl rfl ?_
              refine g_aload_n (pc := 109) C dX11_getsTo_109 rfl 2 rfl ?_
              refine g_get (pc := 110) C fl_X11_44 dX11_getsTo_110 0 rfl rfl ?_
              refine g_iload (pc := 113) C dX11_getsTo_113 1 rfl ?_
              refine g_iload (pc := 115) C dX11_getsTo_115 0 rfl ?_
              obtain ⟨u7, hu7, h⟩ := bs h
              refine g_callV (pc := 117) (st := []) (st1 := [.int u7]) (ws' := (W_X11_getsTo E o_t r_t_tape r_t_script r_t_hairReader r_t_ordersReader r_t_lawReader r_t_doors r_t_town r_t_kept r_t_trial r_t_walk r_t_reach r_t_lawNow r_t_lawSpare r_t_doors a_doors r_t_town a_town r_t_reach a_reach t_isKept doors_told doors_barred doors_one doors_other doors_fits town_told town_round town_x town_rooms town_pins u5.1 u5.2.1 u5.2.2.1 u5.2.2.2.1 u5.2.2.2.2)) C mv_X6_firstDoor mi_X6_firstDoor ml_X11_231 (c_X6_firstDoor X.2.1 E r_t_reach a_reach r_t_doors a_doors u5.1 u5.2.2.1 u5.2.2.2.1 u5.2.2.2.2 doors_told doors_barred doors_one doors_other doors_fits u4 u6 u7 hu7) dX11_getsTo_117 (by decide) rfl (Nat.le_of_ble_eq_true rfl) 8 5 rfl rfl [8, 10, 11, 12, 1, 2, 3, 4] rfl (by decide) rfl rfl rfl rfl ?_
              cases h
              exact hret _ _ _ dX11_getsTo_120 rfl rfl
            · refine g_iload (pc := 100) C dX11_getsTo_100 0 rfl ?_
              refine g_goto (pc := 102) (tgt := 120) C dX11_getsTo_102 (by decide) ?_
              cases h
              exact hret _ _ _ dX11_getsTo_120 rfl rfl
          · refine g_bipush (pc := 93) (v := -2) C dX11_getsTo_93 (by decide) ?_
            cases h
            exact hret _ _ _ dX11_getsTo_95 rfl rfl
        · refine g_iload_n (pc := 48) C dX11_getsTo_48 rfl 4 rfl ?_
          refine g_if_ne (pc := 49) (tgt := 56) C dX11_getsTo_49 (by decide) h (fun h => ?_) (fun h => ?_)
          · refine g_bipush (pc := 56) (v := -4) C dX11_getsTo_56 (by decide) ?_
            cases h
            exact hret _ _ _ dX11_getsTo_58 rfl rfl
          · refine g_iconst (pc := 52) (v := 0) C dX11_getsTo_52 (by decide) ?_
            refine g_goto (pc := 53) (tgt := 58) C dX11_getsTo_53 (by decide) ?_
            cases h
            exact hret _ _ _ dX11_getsTo_58 rfl rfl
      · refine g_iconst (pc := 30) (v := -1) C dX11_getsTo_30 (by decide) ?_
        cases h
        exact hret _ _ _ dX11_getsTo_31 rfl rfl
abbrev W_X11_orders (E : GE) (O_t : Nat) (r_t_tape : Nat) (r_t_script : Nat) (r_t_hairReader : Nat) (r_t_ordersReader : Nat) (r_t_lawReader : Nat) (r_t_doors : Nat) (r_t_town : Nat) (r_t_kept : Nat) (r_t_trial : Nat) (r_t_walk : Nat) (r_t_reach : Nat) (r_t_lawNow : Nat) (r_t_lawSpare : Nat) (O_tape : Nat) (a_tape : Nat → Nat) (O_script : Nat) (r_script_tape : Nat) (O_ordersReader : Nat) (r_ordersReader_script : Nat) (a_ordersReader : Nat → Nat) (O_doors : Nat) (a_doors : Nat → Nat) (O_town : Nat) (a_town : Nat → Nat) (t_isKept : Int32) (tape_size : Int32) (tape_bytes : (Nat → Int32)) (script_end : Int32) (script_place : Int32) (script_sign : Int32) (script_fault : Int32) (ordersReader_lines : Int32) (ordersReader_told : Int32) (ordersReader_sorts : (Nat → Int32)) (ordersReader_numbers : (Nat → Int32)) (ordersReader_ones : (Nat → Int32)) (ordersReader_others : (Nat → Int32)) (ordersReader_values : (Nat → Int32)) (doors_told : Int32) (doors_barred : Int32) (doors_one : (Nat → Int32)) (doors_other : (Nat → Int32)) (doors_wards : (Nat → Int32)) (doors_fits : (Nat → Int32)) (doors_bent : (Nat → Int32)) (town_told : Int32) (town_round : Int32) (town_x : Int32) (town_rust : (Nat → Int32)) : va_W := [(O_t, ob_X11 r_t_tape r_t_script r_t_hairReader r_t_ordersReader r_t_lawReader r_t_doors r_t_town r_t_kept r_t_trial r_t_walk r_t_reach r_t_lawNow r_t_lawSpare t_isKept), (O_tape, ob_X8 a_tape tape_size), (a_tape 0, .inl (E.2.1, 260, .inl tape_bytes)), (O_script, ob_X7 r_script_tape script_end script_place script_sign script_fault), (O_ordersReader, ob_X4 r_ordersReader_script a_ordersReader ordersReader_lines ordersReader_told), (a_ordersReader 1, .inl (E.2.1, 16, .inl ordersReader_sorts)), (a_ordersReader 2, .inl (E.2.1, 16, .inl ordersReader_numbers)), (a_ordersReader 3, .inl (E.2.1, 16, .inl ordersReader_ones)), (a_ordersReader 4, .inl (E.2.1, 16, .inl ordersReader_others)), (a_ordersReader 5, .inl (E.2.1, 16, .inl ordersReader_values)), (O_doors, ob_X0 a_doors doors_told doors_barred), (a_doors 0, .inl (E.2.1, 24, .inl doors_one)), (a_doors 1, .inl (E.2.1, 24, .inl doors_other)), (a_doors 2, .inl (E.2.1, 24, .inl doors_wards)), (a_doors 3, .inl (E.2.1, 24, .inl doors_fits)), (a_doors 4, .inl (E.2.1, 6, .inl doors_bent)), (O_town, ob_X9 a_town town_told town_round town_x), (a_town 0, .inl (E.2.1, 24, .inl town_rust))]
def f_X11_orders (tape_size : Int32) (tape_bytes : (Nat → Int32)) (script_end : Int32) (script_place : Int32) (script_sign : Int32) (script_fault : Int32) (ordersReader_lines : Int32) (ordersReader_told : Int32) (ordersReader_sorts : (Nat → Int32)) (ordersReader_numbers : (Nat → Int32)) (ordersReader_ones : (Nat → Int32)) (ordersReader_others : (Nat → Int32)) (ordersReader_values : (Nat → Int32)) (doors_told : Int32) (doors_barred : Int32) (doors_one : (Nat → Int32)) (doors_other : (Nat → Int32)) (doors_wards : (Nat → Int32)) (doors_fits : (Nat → Int32)) (doors_bent : (Nat → Int32)) (town_rust : (Nat → Int32)) (x1 : Int32) : Option (Int32 × Int32 × Int32 × Int32 × Int32 × Int32 × Int32 × Int32 × (Nat → Int32) × (Nat → Int32) × (Nat → Int32) × (Nat → Int32) × (Nat → Int32) × Int32 × Int32 × (Nat → Int32) × (Nat → Int32) × (Nat → Int32) × (Nat → Int32) × (Nat → Int32) × (Nat → Int32)) := (f_X11_isWithin x1 (1 : Int32) (120 : Int32)).bind fun u1 => if u1 = 0 then (some ((-1 : Int32), tape_size, script_end, script_place, script_sign, script_fault, ordersReader_lines, ordersReader_told, ordersReader_sorts, ordersReader_numbers, ordersReader_ones, ordersReader_others, ordersReader_values, doors_told, doors_barred, doors_one, doors_other, doors_wards, doors_fits, doors_bent, town_rust)) else if x1 ≤ tape_size then ((f_X7_open script_end script_place script_sign script_fault tape_size tape_bytes x1).bind fun u2 => (f_X4_read ordersReader_lines ordersReader_told ordersReader_sorts ordersReader_numbers ordersReader_ones ordersReader_others ordersReader_values u2.1 u2.2.1 u2.2.2.1 u2.2.2.2 tape_size tape_bytes doors_told).bind fun u3 => (f_X8_clear tape_size).bind fun u4 => (f_X7_isSound u3.2.2.2.2.2.2.2.2.2).bind fun u5 => if u5 = 0 then (some (u3.2.2.2.2.2.2.2.2.2, u4, u2.1, u3.2.2.2.2.2.2.2.1, u3.2.2.2.2.2.2.2.2.1, u3.2.2.2.2.2.2.2.2.2, u3.1, u3.2.1, u3.2.2.1, u3.2.2.2.1, u3.2.2.2.2.1, u3.2.2.2.2.2.1, u3.2.2.2.2.2.2.1, doors_told, doors_barred, doors_one, doors_other, doors_wards, doors_fits, doors_bent, town_rust)) else (f_X4_carryOut u3.1 u3.2.2.1 u3.2.2.2.1 u3.2.2.2.2.1 u3.2.2.2.2.2.1 u3.2.2.2.2.2.2.1 doors_told doors_barred doors_one doors_other doors_wards doors_fits doors_bent town_rust).bind fun u6 => some (u3.1, u4, u2.1, u3.2.2.2.2.2.2.2.1, u3.2.2.2.2.2.2.2.2.1, u3.2.2.2.2.2.2.2.2.2, u3.1, u3.2.1, u3.2.2.1, u3.2.2.2.1, u3.2.2.2.2.1, u3.2.2.2.2.2.1, u3.2.2.2.2.2.2.1, u6.1, u6.2.1, u6.2.2.1, u6.2.2.2.1, u6.2.2.2.2.1, u6.2.2.2.2.2.1, u6.2.2.2.2.2.2.1, u6.2.2.2.2.2.2.2)) else some ((-1 : Int32), tape_size, script_end, script_place, script_sign, script_fault, ordersReader_lines, ordersReader_told, ordersReader_sorts, ordersReader_numbers, ordersReader_ones, ordersReader_others, ordersReader_values, doors_told, doors_barred, doors_one, doors_other, doors_wards, doors_fits, doors_bent, town_rust)
theorem dX11_orders_0 : decode cX11_orders 0 = .ok (.iload_n 1, 1) := by decide +kernel
theorem dX11_orders_1 : decode cX11_orders 1 = .ok (.iconst 1, 1) := by decide +kernel
theorem dX11_orders_2 : decode cX11_orders 2 = .ok (.bipush 120, 2) := by decide +kernel
theorem dX11_orders_4 : decode cX11_orders 4 = .ok (.invokestatic 98, 3) := by decide +kernel
theorem dX11_orders_7 : decode cX11_orders 7 = .ok (.ifCond .eq 14, 3) := by decide +kernel
theorem dX11_orders_10 : decode cX11_orders 10 = .ok (.aload_n 0, 1) := by decide +kernel
theorem dX11_orders_11 : decode cX11_orders 11 = .ok (.getfield 10, 3) := by decide +kernel
theorem dX11_orders_14 : decode cX11_orders 14 = .ok (.getfield 106, 3) := by decide +kernel
theorem dX11_orders_17 : decode cX11_orders 17 = .ok (.iload_n 1, 1) := by decide +kernel
theorem dX11_orders_18 : decode cX11_orders 18 = .ok (.if_icmp .ge 5, 3) := by decide +kernel
theorem dX11_orders_21 : decode cX11_orders 21 = .ok (.iconst (-1), 1) := by decide +kernel
theorem dX11_orders_22 : decode cX11_orders 22 = .ok (.ireturn, 1) := by decide +kernel
theorem dX11_orders_23 : decode cX11_orders 23 = .ok (.aload_n 0, 1) := by decide +kernel
theorem dX11_orders_24 : decode cX11_orders 24 = .ok (.getfield 21, 3) := by decide +kernel
theorem dX11_orders_27 : decode cX11_orders 27 = .ok (.iload_n 1, 1) := by decide +kernel
theorem dX11_orders_28 : decode cX11_orders 28 = .ok (.invokevirtual 114, 3) := by decide +kernel
theorem dX11_orders_31 : decode cX11_orders 31 = .ok (.aload_n 0, 1) := by decide +kernel
theorem dX11_orders_32 : decode cX11_orders 32 = .ok (.getfield 37, 3) := by decide +kernel
theorem dX11_orders_35 : decode cX11_orders 35 = .ok (.aload_n 0, 1) := by decide +kernel
theorem dX11_orders_36 : decode cX11_orders 36 = .ok (.getfield 44, 3) := by decide +kernel
theorem dX11_orders_39 : decode cX11_orders 39 = .ok (.getfield 152, 3) := by decide +kernel
theorem dX11_orders_42 : decode cX11_orders 42 = .ok (.invokevirtual 155, 3) := by decide +kernel
theorem dX11_orders_45 : decode cX11_orders 45 = .ok (.aload_n 0, 1) := by decide +kernel
theorem dX11_orders_46 : decode cX11_orders 46 = .ok (.getfield 10, 3) := by decide +kernel
theorem dX11_orders_49 : decode cX11_orders 49 = .ok (.invokevirtual 121, 3) := by decide +kernel
theorem dX11_orders_52 : decode cX11_orders 52 = .ok (.aload_n 0, 1) := by decide +kernel
theorem dX11_orders_53 : decode cX11_orders 53 = .ok (.getfield 21, 3) := by decide +kernel
theorem dX11_orders_56 : decode cX11_orders 56 = .ok (.invokevirtual 124, 3) := by decide +kernel
theorem dX11_orders_59 : decode cX11_orders 59 = .ok (.ifCond .ne 11, 3) := by decide +kernel
theorem dX11_orders_62 : decode cX11_orders 62 = .ok (.aload_n 0, 1) := by decide +kernel
theorem dX11_orders_63 : decode cX11_orders 63 = .ok (.getfield 21, 3) := by decide +kernel
theorem dX11_orders_66 : decode cX11_orders 66 = .ok (.getfield 128, 3) := by decide +kernel
theorem dX11_orders_69 : decode cX11_orders 69 = .ok (.ireturn, 1) := by decide +kernel
theorem dX11_orders_70 : decode cX11_orders 70 = .ok (.aload_n 0, 1) := by decide +kernel
theorem dX11_orders_71 : decode cX11_orders 71 = .ok (.getfield 37, 3) := by decide +kernel
theorem dX11_orders_74 : decode cX11_orders 74 = .ok (.aload_n 0, 1) := by decide +kernel
theorem dX11_orders_75 : decode cX11_orders 75 = .ok (.getfield 44, 3) := by decide +kernel
theorem dX11_orders_78 : decode cX11_orders 78 = .ok (.aload_n 0, 1) := by decide +kernel
theorem dX11_orders_79 : decode cX11_orders 79 = .ok (.getfield 51, 3) := by decide +kernel
theorem dX11_orders_82 : decode cX11_orders 82 = .ok (.invokevirtual 157, 3) := by decide +kernel
theorem dX11_orders_85 : decode cX11_orders 85 = .ok (.aload_n 0, 1) := by decide +kernel
theorem dX11_orders_86 : decode cX11_orders 86 = .ok (.getfield 37, 3) := by decide +kernel
theorem dX11_orders_89 : decode cX11_orders 89 = .ok (.getfield 161, 3) := by decide +kernel
theorem dX11_orders_92 : decode cX11_orders 92 = .ok (.ireturn, 1) := by decide +kernel
set_option maxHeartbeats 4000000 in
set_option maxRecDepth 100000 in
theorem c_X11_orders (l : Launch) (E : GE) (o_t : Nat) (r_t_tape : Nat) (r_t_script : Nat) (r_t_hairReader : Nat) (r_t_ordersReader : Nat) (r_t_lawReader : Nat) (r_t_doors : Nat) (r_t_town : Nat) (r_t_kept : Nat) (r_t_trial : Nat) (r_t_walk : Nat) (r_t_reach : Nat) (r_t_lawNow : Nat) (r_t_lawSpare : Nat) (a_tape : Nat → Nat) (a_ordersReader : Nat → Nat) (a_doors : Nat → Nat) (a_town : Nat → Nat) (t_isKept : Int32) (tape_size : Int32) (tape_bytes : (Nat → Int32)) (script_end : Int32) (script_place : Int32) (script_sign : Int32) (script_fault : Int32) (ordersReader_lines : Int32) (ordersReader_told : Int32) (ordersReader_sorts : (Nat → Int32)) (ordersReader_numbers : (Nat → Int32)) (ordersReader_ones : (Nat → Int32)) (ordersReader_others : (Nat → Int32)) (ordersReader_values : (Nat → Int32)) (doors_told : Int32) (doors_barred : Int32) (doors_one : (Nat → Int32)) (doors_other : (Nat → Int32)) (doors_wards : (Nat → Int32)) (doors_fits : (Nat → Int32)) (doors_bent : (Nat → Int32)) (town_told : Int32) (town_round : Int32) (town_x : Int32) (town_rust : (Nat → Int32)) (x1 : Int32) (r : Int32 × Int32 × Int32 × Int32 × Int32 × Int32 × Int32 × Int32 × (Nat → Int32) × (Nat → Int32) × (Nat → Int32) × (Nat → Int32) × (Nat → Int32) × Int32 × Int32 × (Nat → Int32) × (Nat → Int32) × (Nat → Int32) × (Nat → Int32) × (Nat → Int32) × (Nat → Int32)) (h : f_X11_orders tape_size tape_bytes script_end script_place script_sign script_fault ordersReader_lines ordersReader_told ordersReader_sorts ordersReader_numbers ordersReader_ones ordersReader_others ordersReader_values doors_told doors_barred doors_one doors_other doors_wards doors_fits doors_bent town_rust x1 = some r) : Cn l E yX11_orders cX11_orders 2 (some .int) 7 0 0 [.ref o_t, .int x1] (W_X11_orders E o_t r_t_tape r_t_script r_t_hairReader r_t_ordersReader r_t_lawReader r_t_doors r_t_town r_t_kept r_t_trial r_t_walk r_t_reach r_t_lawNow r_t_lawSpare r_t_tape a_tape r_t_script r_t_tape r_t_ordersReader r_t_script a_ordersReader r_t_doors a_doors r_t_town a_town t_isKept tape_size tape_bytes script_end script_place script_sign script_fault ordersReader_lines ordersReader_told ordersReader_sorts ordersReader_numbers ordersReader_ones ordersReader_others ordersReader_values doors_told doors_barred doors_one doors_other doors_wards doors_fits doors_bent town_told town_round town_x town_rust) (fun w => w = (W_X11_orders E o_t r_t_tape r_t_script r_t_hairReader r_t_ordersReader r_t_lawReader r_t_doors r_t_town r_t_kept r_t_trial r_t_walk r_t_reach r_t_lawNow r_t_lawSpare r_t_tape a_tape r_t_script r_t_tape r_t_ordersReader r_t_script a_ordersReader r_t_doors a_doors r_t_town a_town t_isKept r.2.1 tape_bytes r.2.2.1 r.2.2.2.1 r.2.2.2.2.1 r.2.2.2.2.2.1 r.2.2.2.2.2.2.1 r.2.2.2.2.2.2.2.1 r.2.2.2.2.2.2.2.2.1 r.2.2.2.2.2.2.2.2.2.1 r.2.2.2.2.2.2.2.2.2.2.1 r.2.2.2.2.2.2.2.2.2.2.2.1 r.2.2.2.2.2.2.2.2.2.2.2.2.1 r.2.2.2.2.2.2.2.2.2.2.2.2.2.1 r.2.2.2.2.2.2.2.2.2.2.2.2.2.2.1 r.2.2.2.2.2.2.2.2.2.2.2.2.2.2.2.1 r.2.2.2.2.2.2.2.2.2.2.2.2.2.2.2.2.1 r.2.2.2.2.2.2.2.2.2.2.2.2.2.2.2.2.2.1 r.2.2.2.2.2.2.2.2.2.2.2.2.2.2.2.2.2.2.1 r.2.2.2.2.2.2.2.2.2.2.2.2.2.2.2.2.2.2.2.1 town_told town_round town_x r.2.2.2.2.2.2.2.2.2.2.2.2.2.2.2.2.2.2.2.2)) (some (.int r.1)) := by
  refine Cn.ofI (by decide +kernel) (Nat.le_of_ble_eq_true rfl) (fun X hX hR C hret => ?_)
  subst hX
  show Gx X E 0 0 (W_X11_orders E o_t r_t_tape r_t_script r_t_hairReader r_t_ordersReader r_t_lawReader r_t_doors r_t_town r_t_kept r_t_trial r_t_walk r_t_reach r_t_lawNow r_t_lawSpare r_t_tape a_tape r_t_script r_t_tape r_t_ordersReader r_t_script a_ordersReader r_t_doors a_doors r_t_town a_town t_isKept tape_size tape_bytes script_end script_place script_sign script_fault ordersReader_lines ordersReader_told ordersReader_sorts ordersReader_numbers ordersReader_ones ordersReader_others ordersReader_values doors_told doors_barred doors_one doors_other doors_wards doors_fits doors_bent town_told town_round town_x town_rust) 0 [(0, .ref o_t), (1, .int x1)] []
  unfold f_X11_orders at h
  refine g_iload_n (pc := 0) C dX11_orders_0 rfl 1 rfl ?_
  refine g_iconst (pc := 1) (v := 1) C dX11_orders_1 (by decide) ?_
  refine g_bipush (pc := 2) (v := 120) C dX11_orders_2 (by decide) ?_
  obtain ⟨u1, hu1, h⟩ := bs h
  refine g_callS (pc := 4) (st := []) (st1 := [.int u1]) (ws' := (W_X11_orders E o_t r_t_tape r_t_script r_t_hairReader r_t_ordersReader r_t_lawReader r_t_doors r_t_town r_t_kept r_t_trial r_t_walk r_t_reach r_t_lawNow r_t_lawSpare r_t_tape a_tape r_t_script r_t_tape r_t_ordersReader r_t_script a_ordersReader r_t_doors a_doors r_t_town a_town t_isKept tape_size tape_bytes script_end script_place script_sign script_fault ordersReader_lines ordersReader_told ordersReader_sorts ordersReader_numbers ordersReader_ones ordersReader_others ordersReader_values doors_told doors_barred doors_one doors_other doors_wards doors_fits doors_bent town_told town_round town_x town_rust)) C mv_X11_isWithin ms_X11_isWithin ml_X11_98 (c_X11_isWithin X.2.1 E x1 (1 : Int32) (120 : Int32) u1 hu1) dX11_orders_4 (by decide) rfl (Nat.le_of_ble_eq_true rfl) [] rfl (by decide) rfl rfl rfl rfl ?_
  refine g_if_eq (pc := 7) (tgt := 21) C dX11_orders_7 (by decide) h (fun h => ?_) (fun h => ?_)
  · refine g_iconst (pc := 21) (v := -1) C dX11_orders_21 (by decide) ?_
    cases h
    exact hret _ _ _ dX11_orders_22 rfl rfl
  · refine g_aload_n (pc := 10) C dX11_orders_10 rfl 0 rfl ?_
    refine g_get (pc := 11) C fl_X11_10 dX11_orders_11 0 rfl rfl ?_
    refine g_get (pc := 14) C fl_X11_106 dX11_orders_14 1 rfl rfl ?_
    refine g_iload_n (pc := 17) C dX11_orders_17 rfl 1 rfl ?_
    refine g_icmp_ge (pc := 18) (tgt := 23) C dX11_orders_18 (by decide) h (fun h => ?_) (fun h => ?_)
    · refine g_aload_n (pc := 23) C dX11_orders_23 rfl 0 rfl ?_
      refine g_get (pc := 24) C fl_X11_21 dX11_orders_24 0 rfl rfl ?_
      refine g_iload_n (pc := 27) C dX11_orders_27 rfl 1 rfl ?_
      obtain ⟨u2, hu2, h⟩ := bs h
      refine g_callV (pc := 28) (st := []) (st1 := []) (ws' := (W_X11_orders E o_t r_t_tape r_t_script r_t_hairReader r_t_ordersReader r_t_lawReader r_t_doors r_t_town r_t_kept r_t_trial r_t_walk r_t_reach r_t_lawNow r_t_lawSpare r_t_tape a_tape r_t_script r_t_tape r_t_ordersReader r_t_script a_ordersReader r_t_doors a_doors r_t_town a_town t_isKept tape_size tape_bytes u2.1 u2.2.1 u2.2.2.1 u2.2.2.2 ordersReader_lines ordersReader_told ordersReader_sorts ordersReader_numbers ordersReader_ones ordersReader_others ordersReader_values doors_told doors_barred doors_one doors_other doors_wards doors_fits doors_bent town_told town_round town_x town_rust)) C mv_X7_open mi_X7_open ml_X11_114 (c_X7_open X.2.1 E r_t_script r_t_tape a_tape script_end script_place script_sign script_fault tape_size tape_bytes x1 u2 hu2) dX11_orders_28 (by decide) rfl (Nat.le_of_ble_eq_true rfl) 3 6 rfl rfl [3, 1, 2] rfl (by decide) rfl rfl rfl rfl ?_
      refine g_aload_n (pc := 31) C dX11_orders_31 rfl 0 rfl ?_
      refine g_get (pc := 32) C fl_X11_37 dX11_orders_32 0 rfl rfl ?_
      refine g_aload_n (pc := 35) C dX11_orders_35 rfl 0 rfl ?_
      refine g_get (pc := 36) C fl_X11_44 dX11_orders_36 0 rfl rfl ?_
      refine g_get (pc := 39) C fl_X11_152 dX11_orders_39 10 rfl rfl ?_
      obtain ⟨u3, hu3, h⟩ := bs h
      refine g_callV (pc := 42) (st := []) (st1 := []) (ws' := (W_X11_orders E o_t r_t_tape r_t_script r_t_hairReader r_t_ordersReader r_t_lawReader r_t_doors r_t_town r_t_kept r_t_trial r_t_walk r_t_reach r_t_lawNow r_t_lawSpare r_t_tape a_tape r_t_script r_t_tape r_t_ordersReader r_t_script a_ordersReader r_t_doors a_doors r_t_town a_town t_isKept tape_size tape_bytes u2.1 u3.2.2.2.2.2.2.2.1 u3.2.2.2.2.2.2.2.2.1 u3.2.2.2.2.2.2.2.2.2 u3.1 u3.2.1 u3.2.2.1 u3.2.2.2.1 u3.2.2.2.2.1 u3.2.2.2.2.2.1 u3.2.2.2.2.2.2.1 doors_told doors_barred doors_one doors_other doors_wards doors_fits doors_bent town_told town_round town_x town_rust)) C mv_X4_read mi_X4_read ml_X11_155 (c_X4_read X.2.1 E r_t_ordersReader r_t_script a_ordersReader r_t_tape a_tape ordersReader_lines ordersReader_told ordersReader_sorts ordersReader_numbers ordersReader_ones ordersReader_others ordersReader_values u2.1 u2.2.1 u2.2.2.1 u2.2.2.2 tape_size tape_bytes doors_told u3 hu3) dX11_orders_42 (by decide) rfl (Nat.le_of_ble_eq_true rfl) 4 4 rfl rfl [4, 5, 6, 7, 8, 9, 3, 1, 2] rfl (by decide) rfl rfl rfl rfl ?_
      refine g_aload_n (pc := 45) C dX11_orders_45 rfl 0 rfl ?_
      refine g_get (pc := 46) C fl_X11_10 dX11_orders_46 0 rfl rfl ?_
      obtain ⟨u4, hu4, h⟩ := bs h
      refine g_callV (pc := 49) (st := []) (st1 := []) (ws' := (W_X11_orders E o_t r_t_tape r_t_script r_t_hairReader r_t_ordersReader r_t_lawReader r_t_doors r_t_town r_t_kept r_t_trial r_t_walk r_t_reach r_t_lawNow r_t_lawSpare r_t_tape a_tape r_t_script r_t_tape r_t_ordersReader r_t_script a_ordersReader r_t_doors a_doors r_t_town a_town t_isKept u4 tape_bytes u2.1 u3.2.2.2.2.2.2.2.1 u3.2.2.2.2.2.2.2.2.1 u3.2.2.2.2.2.2.2.2.2 u3.1 u3.2.1 u3.2.2.1 u3.2.2.2.1 u3.2.2.2.2.1 u3.2.2.2.2.2.1 u3.2.2.2.2.2.2.1 doors_told doors_barred doors_one doors_other doors_wards doors_fits doors_bent town_told town_round town_x town_rust)) C mv_X8_clear mi_X8_clear ml_X11_121 (c_X8_clear X.2.1 E r_t_tape a_tape tape_size u4 hu4) dX11_orders_49 (by decide) rfl (Nat.le_of_ble_eq_true rfl) 1 7 rfl rfl [1] rfl (by decide) rfl rfl rfl rfl ?_
      refine g_aload_n (pc := 52) C dX11_orders_52 rfl 0 rfl ?_
      refine g_get (pc := 53) C fl_X11_21 dX11_orders_53 0 rfl rfl ?_
      obtain ⟨u5, hu5, h⟩ := bs h
      refine g_callV (pc := 56) (st := []) (st1 := [.int u5]) (ws' := (W_X11_orders E o_t r_t_tape r_t_script r_t_hairReader r_t_ordersReader r_t_lawReader r_t_doors r_t_town r_t_kept r_t_trial r_t_walk r_t_reach r_t_lawNow r_t_lawSpare r_t_tape a_tape r_t_script r_t_tape r_t_ordersReader r_t_script a_ordersReader r_t_doors a_doors r_t_town a_town t_isKept u4 tape_bytes u2.1 u3.2.2.2.2.2.2.2.1 u3.2.2.2.2.2.2.2.2.1 u3.2.2.2.2.2.2.2.2.2 u3.1 u3.2.1 u3.2.2.1 u3.2.2.2.1 u3.2.2.2.2.1 u3.2.2.2.2.2.1 u3.2.2.2.2.2.2.1 doors_told doors_barred doors_one doors_other doors_wards doors_fits doors_bent town_told town_round town_x town_rust)) C mv_X7_isSound mi_X7_isSound ml_X11_124 (c_X7_isSound X.2.1 E r_t_script r_t_tape u2.1 u3.2.2.2.2.2.2.2.1 u3.2.2.2.2.2.2.2.2.1 u3.2.2.2.2.2.2.2.2.2 u5 hu5) dX11_orders_56 (by decide) rfl (Nat.le_of_ble_eq_true rfl) 3 6 rfl rfl [3] rfl (by decide) rfl rfl rfl rfl ?_
      refine g_if_ne (pc := 59) (tgt := 70) C dX11_orders_59 (by decide) h (fun h => ?_) (fun h => ?_)
      · refine g_aload_n (pc := 70) C dX11_orders_70 rfl 0 rfl ?_
        refine g_get (pc := 71) C fl_X11_37 dX11_orders_71 0 rfl rfl ?_
        refine g_aload_n (pc := 74) C dX11_orders_74 rfl 0 rfl ?_
        refine g_get (pc := 75) C fl_X11_44 dX11_orders_75 0 rfl rfl ?_
        refine g_aload_n (pc := 78) C dX11_orders_78 rfl 0 rfl ?_
        refine g_get (pc := 79) C fl_X11_51 dX11_orders_79 0 rfl rfl ?_
        obtain ⟨u6, hu6, h⟩ := bs h
        refine g_callV (pc := 82) (st := []) (st1 := []) (ws' := (W_X11_orders E o_t r_t_tape r_t_script r_t_hairReader r_t_ordersReader r_t_lawReader r_t_doors r_t_town r_t_kept r_t_trial r_t_walk r_t_reach r_t_lawNow r_t_lawSpare r_t_tape a_tape r_t_script r_t_tape r_t_ordersReader r_t_script a_ordersReader r_t_doors a_doors r_t_town a_town t_isKept u4 tape_bytes u2.1 u3.2.2.2.2.2.2.2.1 u3.2.2.2.2.2.2.2.2.1 u3.2.2.2.2.2.2.2.2.2 u3.1 u3.2.1 u3.2.2.1 u3.2.2.2.1 u3.2.2.2.2.1 u3.2.2.2.2.2.1 u3.2.2.2.2.2.2.1 u6.1 u6.2.1 u6.2.2.1 u6.2.2.2.1 u6.2.2.2.2.1 u6.2.2.2.2.2.1 u6.2.2.2.2.2.2.1 town_told town_round town_x u6.2.2.2.2.2.2.2)) C mv_X4_carryOut mi_X4_carryOut ml_X11_157 (c_X4_carryOut X.2.1 E r_t_ordersReader r_t_script a_ordersReader r_t_doors a_doors r_t_town a_town u3.1 u3.2.1 u3.2.2.1 u3.2.2.2.1 u3.2.2.2.2.1 u3.2.2.2.2.2.1 u3.2.2.2.2.2.2.1 doors_told doors_barred doors_one doors_other doors_wards doors_fits doors_bent town_told town_round town_x town_rust u6 hu6) dX11_orders_82 (by decide) rfl (Nat.le_of_ble_eq_true rfl) 4 4 rfl rfl [4, 5, 6, 7, 8, 9, 10, 11, 12, 13, 14, 15, 16, 17] rfl (by decide) rfl rfl rfl rfl ?_
        refine g_aload_n (pc := 85) C dX11_orders_85 rfl 0 rfl ?_
        refine g_get (pc := 86) C fl_X11_37 dX11_orders_86 0 rfl rfl ?_
        refine g_get (pc := 89) C fl_X11_161 dX11_orders_89 4 rfl rfl ?_
        cases h
        exact hret _ _ _ dX11_orders_92 rfl rfl
      · refine g_aload_n (pc := 62) C dX11_orders_62 rfl 0 rfl ?_
        refine g_get (pc := 63) C fl_X11_21 dX11_orders_63 0 rfl rfl ?_
        refine g_get (pc := 66) C fl_X11_128 dX11_orders_66 3 rfl rfl ?_
        cases h
        exact hret _ _ _ dX11_orders_69 rfl rfl
    · refine g_iconst (pc := 21) (v := -1) C dX11_orders_21 (by decide) ?_
      cases h
      exact hret _ _ _ dX11_orders_22 rfl rfl
abbrev W_X11_rounds (E : GE) (O_t : Nat) (r_t_tape : Nat) (r_t_script : Nat) (r_t_hairReader : Nat) (r_t_ordersReader : Nat) (r_t_lawReader : Nat) (r_t_doors : Nat) (r_t_town : Nat) (r_t_kept : Nat) (r_t_trial : Nat) (r_t_walk : Nat) (r_t_reach : Nat) (r_t_lawNow : Nat) (r_t_lawSpare : Nat) (O_doors : Nat) (a_doors : Nat → Nat) (O_town : Nat) (a_town : Nat → Nat) (O_walk : Nat) (a_walk : Nat → Nat) (O_lawNow : Nat) (a_lawNow : Nat → Nat) (t_isKept : Int32) (doors_told : Int32) (doors_barred : Int32) (doors_one : (Nat → Int32)) (doors_other : (Nat → Int32)) (doors_fits : (Nat → Int32)) (town_told : Int32) (town_round : Int32) (town_x : Int32) (town_rust : (Nat → Int32)) (town_rooms : (Nat → Int32)) (town_pins : (Nat → Int32)) (walk_passed : Int32) (walk_jammed : Int32) (walk_known : (Nat → Int32)) (lawNow_size : Int32) (lawNow_rules : Int32) (lawNow_signs : (Nat → Int32)) (lawNow_values : (Nat → Int32)) (lawNow_stack : (Nat → Int32)) (lawNow_letters : (Nat → Int32)) (lawNow_amounts : (Nat → Int32)) (lawNow_conditions : (Nat → Int32)) (lawNow_ends : (Nat → Int32)) : va_W := [(O_t, ob_X11 r_t_tape r_t_script r_t_hairReader r_t_ordersReader r_t_lawReader r_t_doors r_t_town r_t_kept r_t_trial r_t_walk r_t_reach r_t_lawNow r_t_lawSpare t_isKept), (O_doors, ob_X0 a_doors doors_told doors_barred), (a_doors 0, .inl (E.2.1, 24, .inl doors_one)), (a_doors 1, .inl (E.2.1, 24, .inl doors_other)), (a_doors 3, .inl (E.2.1, 24, .inl doors_fits)), (O_town, ob_X9 a_town town_told town_round town_x), (a_town 0, .inl (E.2.1, 24, .inl town_rust)), (a_town 1, .inl (E.2.1, 10, .inl town_rooms)), (a_town 3, .inl (E.2.1, 60, .inl town_pins)), (O_walk, ob_X10 a_walk walk_passed walk_jammed), (a_walk 0, .inl (E.2.1, 10, .inl walk_known)), (O_lawNow, ob_X2 a_lawNow lawNow_size lawNow_rules), (a_lawNow 0, .inl (E.2.1, 256, .inl lawNow_signs)), (a_lawNow 1, .inl (E.2.1, 256, .inl lawNow_values)), (a_lawNow 2, .inl (E.2.1, 64, .inl lawNow_stack)), (a_lawNow 3, .inl (E.2.1, 16, .inl lawNow_letters)), (a_lawNow 4, .inl (E.2.1, 16, .inl lawNow_amounts)), (a_lawNow 5, .inl (E.2.1, 16, .inl lawNow_conditions)), (a_lawNow 6, .inl (E.2.1, 16, .inl lawNow_ends))]
def f_X11_rounds (doors_told : Int32) (doors_barred : Int32) (doors_one : (Nat → Int32)) (doors_other : (Nat → Int32)) (doors_fits : (Nat → Int32)) (town_told : Int32) (town_round : Int32) (town_x : Int32) (town_rust : (Nat → Int32)) (town_rooms : (Nat → Int32)) (town_pins : (Nat → Int32)) (walk_passed : Int32) (walk_jammed : Int32) (walk_known : (Nat → Int32)) (lawNow_rules : Int32) (lawNow_signs : (Nat → Int32)) (lawNow_values : (Nat → Int32)) (lawNow_stack : (Nat → Int32)) (lawNow_letters : (Nat → Int32)) (lawNow_amounts : (Nat → Int32)) (lawNow_conditions : (Nat → Int32)) (lawNow_ends : (Nat → Int32)) (x1 : Int32) : Option (Int32 × Int32 × Int32 × (Nat → Int32) × (Nat → Int32) × (Nat → Int32) × Int32 × Int32 × (Nat → Int32) × (Nat → Int32)) := (f_X11_isWithin x1 (1 : Int32) (100 : Int32)).bind fun u1 => if u1 = 0 then (some ((-1 : Int32), town_round, town_x, town_rust, town_rooms, town_pins, walk_passed, walk_jammed, walk_known, lawNow_stack)) else (f_X10_go walk_passed walk_jammed walk_known town_told town_round town_x town_rust town_rooms town_pins doors_told doors_barred doors_one doors_other doors_fits lawNow_rules lawNow_signs lawNow_values lawNow_stack lawNow_letters lawNow_amounts lawNow_conditions lawNow_ends x1).bind fun u2 => some (u2.1, u2.2.2.2.1, u2.2.2.2.2.1, u2.2.2.2.2.2.1, u2.2.2.2.2.2.2.1, u2.2.2.2.2.2.2.2.1, u2.1, u2.2.1, u2.2.2.1, u2.2.2.2.2.2.2.2.2)
theorem dX11_rounds_0 : decode cX11_rounds 0 = .ok (.iload_n 1, 1) := by decide +kernel
theorem dX11_rounds_1 : decode cX11_rounds 1 = .ok (.iconst 1, 1) := by decide +kernel
theorem dX11_rounds_2 : decode cX11_rounds 2 = .ok (.bipush 100, 2) := by decide +kernel
theorem dX11_rounds_4 : decode cX11_rounds 4 = .ok (.invokestatic 98, 3) := by decide +kernel
theorem dX11_rounds_7 : decode cX11_rounds 7 = .ok (.ifCond .ne 5, 3) := by decide +kernel
theorem dX11_rounds_10 : decode cX11_rounds 10 = .ok (.iconst (-1), 1) := by decide +kernel
theorem dX11_rounds_11 : decode cX11_rounds 11 = .ok (.ireturn, 1) := by decide +kernel
theorem dX11_rounds_12 : decode cX11_rounds 12 = .ok (.aload_n 0, 1) := by decide +kernel
theorem dX11_rounds_13 : decode cX11_rounds 13 = .ok (.getfield 64, 3) := by decide +kernel
theorem dX11_rounds_16 : decode cX11_rounds 16 = .ok (.aload_n 0, 1) := by decide +kernel
theorem dX11_rounds_17 : decode cX11_rounds 17 = .ok (.getfield 51, 3) := by decide +kernel
theorem dX11_rounds_20 : decode cX11_rounds 20 = .ok (.aload_n 0, 1) := by decide +kernel
theorem dX11_rounds_21 : decode cX11_rounds 21 = .ok (.getfield 44, 3) := by decide +kernel
theorem dX11_rounds_24 : decode cX11_rounds 24 = .ok (.aload_n 0, 1) := by decide +kernel
theorem dX11_rounds_25 : decode cX11_rounds 25 = .ok (.getfield 78, 3) := by decide +kernel
theorem dX11_rounds_28 : decode cX11_rounds 28 = .ok (.iload_n 1, 1) := by decide +kernel
theorem dX11_rounds_29 : decode cX11_rounds 29 = .ok (.invokevirtual 164, 3) := by decide +kernel
theorem dX11_rounds_32 : decode cX11_rounds 32 = .ok (.aload_n 0, 1) := by decide +kernel
theorem dX11_rounds_33 : decode cX11_rounds 33 = .ok (.getfield 64, 3) := by decide +kernel
theorem dX11_rounds_36 : decode cX11_rounds 36 = .ok (.getfield 168, 3) := by decide +kernel
theorem dX11_rounds_39 : decode cX11_rounds 39 = .ok (.ireturn, 1) := by decide +kernel
set_option maxHeartbeats 4000000 in
set_option maxRecDepth 100000 in
theorem c_X11_rounds (l : Launch) (E : GE) (o_t : Nat) (r_t_tape : Nat) (r_t_script : Nat) (r_t_hairReader : Nat) (r_t_ordersReader : Nat) (r_t_lawReader : Nat) (r_t_doors : Nat) (r_t_town : Nat) (r_t_kept : Nat) (r_t_trial : Nat) (r_t_walk : Nat) (r_t_reach : Nat) (r_t_lawNow : Nat) (r_t_lawSpare : Nat) (a_doors : Nat → Nat) (a_town : Nat → Nat) (a_walk : Nat → Nat) (a_lawNow : Nat → Nat) (t_isKept : Int32) (doors_told : Int32) (doors_barred : Int32) (doors_one : (Nat → Int32)) (doors_other : (Nat → Int32)) (doors_fits : (Nat → Int32)) (town_told : Int32) (town_round : Int32) (town_x : Int32) (town_rust : (Nat → Int32)) (town_rooms : (Nat → Int32)) (town_pins : (Nat → Int32)) (walk_passed : Int32) (walk_jammed : Int32) (walk_known : (Nat → Int32)) (lawNow_size : Int32) (lawNow_rules : Int32) (lawNow_signs : (Nat → Int32)) (lawNow_values : (Nat → Int32)) (lawNow_stack : (Nat → Int32)) (lawNow_letters : (Nat → Int32)) (lawNow_amounts : (Nat → Int32)) (lawNow_conditions : (Nat → Int32)) (lawNow_ends : (Nat → Int32)) (x1 : Int32) (r : Int32 × Int32 × Int32 × (Nat → Int32) × (Nat → Int32) × (Nat → Int32) × Int32 × Int32 × (Nat → Int32) × (Nat → Int32)) (h : f_X11_rounds doors_told doors_barred doors_one doors_other doors_fits town_told town_round town_x town_rust town_rooms town_pins walk_passed walk_jammed walk_known lawNow_rules lawNow_signs lawNow_values lawNow_stack lawNow_letters lawNow_amounts lawNow_conditions lawNow_ends x1 = some r) : Cn l E yX11_rounds cX11_rounds 2 (some .int) 7 0 0 [.ref o_t, .int x1] (W_X11_rounds E o_t r_t_tape r_t_script r_t_hairReader r_t_ordersReader r_t_lawReader r_t_doors r_t_town r_t_kept r_t_trial r_t_walk r_t_reach r_t_lawNow r_t_lawSpare r_t_doors a_doors r_t_town a_town r_t_walk a_walk r_t_lawNow a_lawNow t_isKept doors_told doors_barred doors_one doors_other doors_fits town_told town_round town_x town_rust town_rooms town_pins walk_passed walk_jammed walk_known lawNow_size lawNow_rules lawNow_signs lawNow_values lawNow_stack lawNow_letters lawNow_amounts lawNow_conditions lawNow_ends) (fun w => w = (W_X11_rounds E o_t r_t_tape r_t_script r_t_hairReader r_t_ordersReader r_t_lawReader r_t_doors r_t_town r_t_kept r_t_trial r_t_walk r_t_reach r_t_lawNow r_t_lawSpare r_t_doors a_doors r_t_town a_town r_t_walk a_walk r_t_lawNow a_lawNow t_isKept doors_told doors_barred doors_one doors_other doors_fits town_told r.2.1 r.2.2.1 r.2.2.2.1 r.2.2.2.2.1 r.2.2.2.2.2.1 r.2.2.2.2.2.2.1 r.2.2.2.2.2.2.2.1 r.2.2.2.2.2.2.2.2.1 lawNow_size lawNow_rules lawNow_signs lawNow_values r.2.2.2.2.2.2.2.2.2 lawNow_letters lawNow_amounts lawNow_conditions lawNow_ends)) (some (.int r.1)) := by
  refine Cn.ofI (by decide +kernel) (Nat.le_of_ble_eq_true rfl) (fun X hX hR C hret => ?_)
  subst hX
  show Gx X E 0 0 (W_X11_rounds E o_t r_t_tape r_t_script r_t_hairReader r_t_ordersReader r_t_lawReader r_t_doors r_t_town r_t_kept r_t_trial r_t_walk r_t_reach r_t_lawNow r_t_lawSpare r_t_doors a_doors r_t_town a_town r_t_walk a_walk r_t_lawNow a_lawNow t_isKept doors_told doors_barred doors_one doors_other doors_fits town_told town_round town_x town_rust town_rooms town_pins walk_passed walk_jammed walk_known lawNow_size lawNow_rules lawNow_signs lawNow_values lawNow_stack lawNow_letters lawNow_amounts lawNow_conditions lawNow_ends) 0 [(0, .ref o_t), (1, .int x1)] []
  unfold f_X11_rounds at h
  refine g_iload_n (pc := 0) C dX11_rounds_0 rfl 1 rfl ?_
  refine g_iconst (pc := 1) (v := 1) C dX11_rounds_1 (by decide) ?_
  refine g_bipush (pc := 2) (v := 100) C dX11_rounds_2 (by decide) ?_
  obtain ⟨u1, hu1, h⟩ := bs h
  refine g_callS (pc := 4) (st := []) (st1 := [.int u1]) (ws' := (W_X11_rounds E o_t r_t_tape r_t_script r_t_hairReader r_t_ordersReader r_t_lawReader r_t_doors r_t_town r_t_kept r_t_trial r_t_walk r_t_reach r_t_lawNow r_t_lawSpare r_t_doors a_doors r_t_town a_town r_t_walk a_walk r_t_lawNow a_lawNow t_isKept doors_told doors_barred doors_one doors_other doors_fits town_told town_round town_x town_rust town_rooms town_pins walk_passed walk_jammed walk_known lawNow_size lawNow_rules lawNow_signs lawNow_values lawNow_stack lawNow_letters lawNow_amounts lawNow_conditions lawNow_ends)) C mv_X11_isWithin ms_X11_isWithin ml_X11_98 (c_X11_isWithin X.2.1 E x1 (1 : Int32) (100 : Int32) u1 hu1) dX11_rounds_4 (by decide) rfl (Nat.le_of_ble_eq_true rfl) [] rfl (by decide) rfl rfl rfl rfl ?_
  refine g_if_ne (pc := 7) (tgt := 12) C dX11_rounds_7 (by decide) h (fun h => ?_) (fun h => ?_)
  · refine g_aload_n (pc := 12) C dX11_rounds_12 rfl 0 rfl ?_
    refine g_get (pc := 13) C fl_X11_64 dX11_rounds_13 0 rfl rfl ?_
    refine g_aload_n (pc := 16) C dX11_rounds_16 rfl 0 rfl ?_
    refine g_get (pc := 17) C fl_X11_51 dX11_rounds_17 0 rfl rfl ?_
    refine g_aload_n (pc := 20) C dX11_rounds_20 rfl 0 rfl ?_
    refine g_get (pc := 21) C fl_X11_44 dX11_rounds_21 0 rfl rfl ?_
    refine g_aload_n (pc := 24) C dX11_rounds_24 rfl 0 rfl ?_
    refine g_get (pc := 25) C fl_X11_78 dX11_rounds_25 0 rfl rfl ?_
    refine g_iload_n (pc := 28) C dX11_rounds_28 rfl 1 rfl ?_
    obtain ⟨u2, hu2, h⟩ := bs h
    refine g_callV (pc := 29) (st := []) (st1 := []) (ws' := (W_X11_rounds E o_t r_t_tape r_t_script r_t_hairReader r_t_ordersReader r_t_lawReader r_t_doors r_t_town r_t_kept r_t_trial r_t_walk r_t_reach r_t_lawNow r_t_lawSpare r_t_doors a_doors r_t_town a_town r_t_walk a_walk r_t_lawNow a_lawNow t_isKept doors_told doors_barred doors_one doors_other doors_fits town_told u2.2.2.2.1 u2.2.2.2.2.1 u2.2.2.2.2.2.1 u2.2.2.2.2.2.2.1 u2.2.2.2.2.2.2.2.1 u2.1 u2.2.1 u2.2.2.1 lawNow_size lawNow_rules lawNow_signs lawNow_values u2.2.2.2.2.2.2.2.2 lawNow_letters lawNow_amounts lawNow_conditions lawNow_ends)) C mv_X10_go mi_X10_go ml_X11_164 (c_X10_go X.2.1 E r_t_walk a_walk r_t_town a_town r_t_doors a_doors r_t_lawNow a_lawNow walk_passed walk_jammed walk_known town_told town_round town_x town_rust town_rooms town_pins doors_told doors_barred doors_one doors_other doors_fits lawNow_size lawNow_rules lawNow_signs lawNow_values lawNow_stack lawNow_letters lawNow_amounts lawNow_conditions lawNow_ends x1 u2 hu2) dX11_rounds_29 (by decide) rfl (Nat.le_of_ble_eq_true rfl) 9 9 rfl rfl [9, 10, 5, 6, 7, 8, 1, 2, 3, 4, 11, 12, 13, 14, 15, 16, 17, 18] rfl (by decide) rfl rfl rfl rfl ?_
    refine g_aload_n (pc := 32) C dX11_rounds_32 rfl 0 rfl ?_
    refine g_get (pc := 33) C fl_X11_64 dX11_rounds_33 0 rfl rfl ?_
    refine g_get (pc := 36) C fl_X11_168 dX11_rounds_36 9 rfl rfl ?_
    cases h
    exact hret _ _ _ dX11_rounds_39 rfl rfl
  · refine g_iconst (pc := 10) (v := -1) C dX11_rounds_10 (by decide) ?_
    cases h
    exact hret _ _ _ dX11_rounds_11 rfl rfl
abbrev W_X11_tried (E : GE) (O_t : Nat) (r_t_tape : Nat) (r_t_script : Nat) (r_t_hairReader : Nat) (r_t_ordersReader : Nat) (r_t_lawReader : Nat) (r_t_doors : Nat) (r_t_town : Nat) (r_t_kept : Nat) (r_t_trial : Nat) (r_t_walk : Nat) (r_t_reach : Nat) (r_t_lawNow : Nat) (r_t_lawSpare : Nat) (O_doors : Nat) (a_doors : Nat → Nat) (O_town : Nat) (a_town : Nat → Nat) (O_trial : Nat) (a_trial : Nat → Nat) (O_walk : Nat) (a_walk : Nat → Nat) (O_lawNow : Nat) (a_lawNow : Nat → Nat) (t_isKept : Int32) (doors_told : Int32) (doors_barred : Int32) (doors_one : (Nat → Int32)) (doors_other : (Nat → Int32)) (doors_fits : (Nat → Int32)) (town_told : Int32) (town_round : Int32) (town_x : Int32) (town_rust : (Nat → Int32)) (town_rooms : (Nat → Int32)) (town_hair : (Nat → Int32)) (town_pins : (Nat → Int32)) (trial_told : Int32) (trial_round : Int32) (trial_x : Int32) (trial_rust : (Nat → Int32)) (trial_rooms : (Nat → Int32)) (trial_hair : (Nat → Int32)) (trial_pins : (Nat → Int32)) (walk_passed : Int32) (walk_jammed : Int32) (walk_known : (Nat → Int32)) (lawNow_size : Int32) (lawNow_rules : Int32) (lawNow_signs : (Nat → Int32)) (lawNow_values : (Nat → Int32)) (lawNow_stack : (Nat → Int32)) (lawNow_letters : (Nat → Int32)) (lawNow_amounts : (Nat → Int32)) (lawNow_conditions : (Nat → Int32)) (lawNow_ends : (Nat → Int32)) : va_W := [(O_t, ob_X11 r_t_tape r_t_script r_t_hairReader r_t_ordersReader r_t_lawReader r_t_doors r_t_town r_t_kept r_t_trial r_t_walk r_t_reach r_t_lawNow r_t_lawSpare t_isKept), (O_doors, ob_X0 a_doors doors_told doors_barred), (a_doors 0, .inl (E.2.1, 24, .inl doors_one)), (a_doors 1, .inl (E.2.1, 24, .inl doors_other)), (a_doors 3, .inl (E.2.1, 24, .inl doors_fits)), (O_town, ob_X9 a_town town_told town_round town_x), (a_town 0, .inl (E.2.1, 24, .inl town_rust)), (a_town 1, .inl (E.2.1, 10, .inl town_rooms)), (a_town 2, .inl (E.2.1, 60, .inl town_hair)), (a_town 3, .inl (E.2.1, 60, .inl town_pins)), (O_trial, ob_X9 a_trial trial_told trial_round trial_x), (a_trial 0, .inl (E.2.1, 24, .inl trial_rust)), (a_trial 1, .inl (E.2.1, 10, .inl trial_rooms)), (a_trial 2, .inl (E.2.1, 60, .inl trial_hair)), (a_trial 3, .inl (E.2.1, 60, .inl trial_pins)), (O_walk, ob_X10 a_walk walk_passed walk_jammed), (a_walk 0, .inl (E.2.1, 10, .inl walk_known)), (O_lawNow, ob_X2 a_lawNow lawNow_size lawNow_rules), (a_lawNow 0, .inl (E.2.1, 256, .inl lawNow_signs)), (a_lawNow 1, .inl (E.2.1, 256, .inl lawNow_values)), (a_lawNow 2, .inl (E.2.1, 64, .inl lawNow_stack)), (a_lawNow 3, .inl (E.2.1, 16, .inl lawNow_letters)), (a_lawNow 4, .inl (E.2.1, 16, .inl lawNow_amounts)), (a_lawNow 5, .inl (E.2.1, 16, .inl lawNow_conditions)), (a_lawNow 6, .inl (E.2.1, 16, .inl lawNow_ends))]
def f_X11_tried (doors_told : Int32) (doors_barred : Int32) (doors_one : (Nat → Int32)) (doors_other : (Nat → Int32)) (doors_fits : (Nat → Int32)) (town_told : Int32) (town_round : Int32) (town_x : Int32) (town_rust : (Nat → Int32)) (town_rooms : (Nat → Int32)) (town_hair : (Nat → Int32)) (town_pins : (Nat → Int32)) (trial_told : Int32) (trial_round : Int32) (trial_x : Int32) (trial_rust : (Nat → Int32)) (trial_rooms : (Nat → Int32)) (trial_hair : (Nat → Int32)) (trial_pins : (Nat → Int32)) (walk_passed : Int32) (walk_jammed : Int32) (walk_known : (Nat → Int32)) (lawNow_rules : Int32) (lawNow_signs : (Nat → Int32)) (lawNow_values : (Nat → Int32)) (lawNow_stack : (Nat → Int32)) (lawNow_letters : (Nat → Int32)) (lawNow_amounts : (Nat → Int32)) (lawNow_conditions : (Nat → Int32)) (lawNow_ends : (Nat → Int32)) (x1 : Int32) (x2 : Int32) : Option (Int32 × Int32 × Int32 × Int32 × (Nat → Int32) × (Nat → Int32) × (Nat → Int32) × (Nat → Int32) × Int32 × Int32 × (Nat → Int32) × (Nat → Int32)) := (f_X11_isWithin x1 (1 : Int32) (100 : Int32)).bind fun u1 => if u1 = 0 then (some ((-1 : Int32), trial_told, trial_round, trial_x, trial_rust, trial_rooms, trial_hair, trial_pins, walk_passed, walk_jammed, walk_known, lawNow_stack)) else (f_X11_canBeTried town_told x2).bind fun u2 => if u2 = 0 then (some ((-1 : Int32), trial_told, trial_round, trial_x, trial_rust, trial_rooms, trial_hair, trial_pins, walk_passed, walk_jammed, walk_known, lawNow_stack)) else (f_X9_copy trial_told trial_round trial_x trial_rust trial_rooms trial_hair trial_pins town_told town_round town_x town_rust town_rooms town_hair town_pins).bind fun u3 => (f_X10_go walk_passed walk_jammed walk_known u3.1 u3.2.1 u3.2.2.1 u3.2.2.2.1 u3.2.2.2.2.1 u3.2.2.2.2.2.2 doors_told doors_barred doors_one doors_other doors_fits lawNow_rules lawNow_signs lawNow_values lawNow_stack lawNow_letters lawNow_amounts lawNow_conditions lawNow_ends x1).bind fun u4 => if x2 = 0 then (some (u4.1, u3.1, u4.2.2.2.1, u4.2.2.2.2.1, u4.2.2.2.2.2.1, u4.2.2.2.2.2.2.1, u3.2.2.2.2.2.1, u4.2.2.2.2.2.2.2.1, u4.1, u4.2.1, u4.2.2.1, u4.2.2.2.2.2.2.2.2)) else if x2 = (1 : Int32) then (some (u4.2.1, u3.1, u4.2.2.2.1, u4.2.2.2.2.1, u4.2.2.2.2.2.1, u4.2.2.2.2.2.2.1, u3.2.2.2.2.2.1, u4.2.2.2.2.2.2.2.1, u4.1, u4.2.1, u4.2.2.1, u4.2.2.2.2.2.2.2.2)) else if (30 : Int32) ≤ x2 then ((f_X9_pinsOf u3.1 u4.2.2.2.2.2.2.2.1 (x2 - (30 : Int32))).bind fun u5 => some (u5, u3.1, u4.2.2.2.1, u4.2.2.2.2.1, u4.2.2.2.2.2.1, u4.2.2.2.2.2.2.1, u3.2.2.2.2.2.1, u4.2.2.2.2.2.2.2.1, u4.1, u4.2.1, u4.2.2.1, u4.2.2.2.2.2.2.2.2)) else (f_X9_roomOf u3.1 u4.2.2.2.2.2.2.1 (x2 - (10 : Int32))).bind fun u6 => some (u6, u3.1, u4.2.2.2.1, u4.2.2.2.2.1, u4.2.2.2.2.2.1, u4.2.2.2.2.2.2.1, u3.2.2.2.2.2.1, u4.2.2.2.2.2.2.2.1, u4.1, u4.2.1, u4.2.2.1, u4.2.2.2.2.2.2.2.2)
theorem dX11_tried_0 : decode cX11_tried 0 = .ok (.iload_n 1, 1) := by decide +kernel
theorem dX11_tried_1 : decode cX11_tried 1 = .ok (.iconst 1, 1) := by decide +kernel
theorem dX11_tried_2 : decode cX11_tried 2 = .ok (.bipush 100, 2) := by decide +kernel
theorem dX11_tried_4 : decode cX11_tried 4 = .ok (.invokestatic 98, 3) := by decide +kernel
theorem dX11_tried_7 : decode cX11_tried 7 = .ok (.ifCond .eq 11, 3) := by decide +kernel
theorem dX11_tried_10 : decode cX11_tried 10 = .ok (.aload_n 0, 1) := by decide +kernel
theorem dX11_tried_11 : decode cX11_tried 11 = .ok (.iload_n 2, 1) := by decide +kernel
theorem dX11_tried_12 : decode cX11_tried 12 = .ok (.invokevirtual 185, 3) := by decide +kernel
theorem dX11_tried_15 : decode cX11_tried 15 = .ok (.ifCond .ne 5, 3) := by decide +kernel
theorem dX11_tried_18 : decode cX11_tried 18 = .ok (.iconst (-1), 1) := by decide +kernel
theorem dX11_tried_19 : decode cX11_tried 19 = .ok (.ireturn, 1) := by decide +kernel
theorem dX11_tried_20 : decode cX11_tried 20 = .ok (.aload_n 0, 1) := by decide +kernel
theorem dX11_tried_21 : decode cX11_tried 21 = .ok (.getfield 58, 3) := by decide +kernel
theorem dX11_tried_24 : decode cX11_tried 24 = .ok (.aload_n 0, 1) := by decide +kernel
theorem dX11_tried_25 : decode cX11_tried 25 = .ok (.getfield 51, 3) := by decide +kernel
theorem dX11_tried_28 : decode cX11_tried 28 = .ok (.invokevirtual 188, 3) := by decide +kernel
theorem dX11_tried_31 : decode cX11_tried 31 = .ok (.aload_n 0, 1) := by decide +kernel
theorem dX11_tried_32 : decode cX11_tried 32 = .ok (.getfield 64, 3) := by decide +kernel
theorem dX11_tried_35 : decode cX11_tried 35 = .ok (.aload_n 0, 1) := by decide +kernel
theorem dX11_tried_36 : decode cX11_tried 36 = .ok (.getfield 58, 3) := by decide +kernel
theorem dX11_tried_39 : decode cX11_tried 39 = .ok (.aload_n 0, 1) := by decide +kernel
theorem dX11_tried_40 : decode cX11_tried 40 = .ok (.getfield 44, 3) := by decide +kernel
theorem dX11_tried_43 : decode cX11_tried 43 = .ok (.aload_n 0, 1) := by decide +kernel
theorem dX11_tried_44 : decode cX11_tried 44 = .ok (.getfield 78, 3) := by decide +kernel
theorem dX11_tried_47 : decode cX11_tried 47 = .ok (.iload_n 1, 1) := by decide +kernel
theorem dX11_tried_48 : decode cX11_tried 48 = .ok (.invokevirtual 164, 3) := by decide +kernel
theorem dX11_tried_51 : decode cX11_tried 51 = .ok (.iload_n 2, 1) := by decide +kernel
theorem dX11_tried_52 : decode cX11_tried 52 = .ok (.ifCond .ne 11, 3) := by decide +kernel
theorem dX11_tried_55 : decode cX11_tried 55 = .ok (.aload_n 0, 1) := by decide +kernel
theorem dX11_tried_56 : decode cX11_tried 56 = .ok (.getfield 64, 3) := by decide +kernel
theorem dX11_tried_59 : decode cX11_tried 59 = .ok (.getfield 168, 3) := by decide +kernel
theorem dX11_tried_62 : decode cX11_tried 62 = .ok (.ireturn, 1) := by decide +kernel
theorem dX11_tried_63 : decode cX11_tried 63 = .ok (.iload_n 2, 1) := by decide +kernel
theorem dX11_tried_64 : decode cX11_tried 64 = .ok (.iconst 1, 1) := by decide +kernel
theorem dX11_tried_65 : decode cX11_tried 65 = .ok (.if_icmp .ne 11, 3) := by decide +kernel
theorem dX11_tried_68 : decode cX11_tried 68 = .ok (.aload_n 0, 1) := by decide +kernel
theorem dX11_tried_69 : decode cX11_tried 69 = .ok (.getfield 64, 3) := by decide +kernel
theorem dX11_tried_72 : decode cX11_tried 72 = .ok (.getfield 192, 3) := by decide +kernel
theorem dX11_tried_75 : decode cX11_tried 75 = .ok (.ireturn, 1) := by decide +kernel
theorem dX11_tried_76 : decode cX11_tried 76 = .ok (.iload_n 2, 1) := by decide +kernel
theorem dX11_tried_77 : decode cX11_tried 77 = .ok (.bipush 30, 2) := by decide +kernel
theorem dX11_tried_79 : decode cX11_tried 79 = .ok (.if_icmp .ge 17, 3) := by decide +kernel
theorem dX11_tried_82 : decode cX11_tried 82 = .ok (.aload_n 0, 1) := by decide +kernel
theorem dX11_tried_83 : decode cX11_tried 83 = .ok (.getfield 58, 3) := by decide +kernel
theorem dX11_tried_86 : decode cX11_tried 86 = .ok (.iload_n 2, 1) := by decide +kernel
theorem dX11_tried_87 : decode cX11_tried 87 = .ok (.bipush 10, 2) := by decide +kernel
theorem dX11_tried_89 : decode cX11_tried 89 = .ok (.isub, 1) := by decide +kernel
theorem dX11_tried_90 : decode cX11_tried 90 = .ok (.invokevirtual 195, 3) := by decide +kernel
theorem dX11_tried_93 : decode cX11_tried 93 = .ok (.goto 14, 3) := by decide +kernel
theorem dX11_tried_96 : decode cX11_tried 96 = .ok (.aload_n 0, 1) := by decide +kernel
theorem dX11_tried_97 : decode cX11_tried 97 = .ok (.getfield 58, 3) := by decide +kernel
theorem dX11_tried_100 : decode cX11_tried 100 = .ok (.iload_n 2, 1) := by decide +kernel
theorem dX11_tried_101 : decode cX11_tried 101 = .ok (.bipush 30, 2) := by decide +kernel
theorem dX11_tried_103 : decode cX11_tried 103 = .ok (.isub, 1) := by decide +kernel
theorem dX11_tried_104 : decode cX11_tried 104 = .ok (.invokevirtual 148, 3) := by decide +kernel
theorem dX11_tried_107 : decode cX11_tried 107 = .ok (.ireturn, 1) := by decide +kernel
set_option maxHeartbeats 4000000 in
set_option maxRecDepth 100000 in
theorem c_X11_tried (l : Launch) (E : GE) (o_t : Nat) (r_t_tape : Nat) (r_t_script : Nat) (r_t_hairReader : Nat) (r_t_ordersReader : Nat) (r_t_lawReader : Nat) (r_t_doors : Nat) (r_t_town : Nat) (r_t_kept : Nat) (r_t_trial : Nat) (r_t_walk : Nat) (r_t_reach : Nat) (r_t_lawNow : Nat) (r_t_lawSpare : Nat) (a_doors : Nat → Nat) (a_town : Nat → Nat) (a_trial : Nat → Nat) (a_walk : Nat → Nat) (a_lawNow : Nat → Nat) (t_isKept : Int32) (doors_told : Int32) (doors_barred : Int32) (doors_one : (Nat → Int32)) (doors_other : (Nat → Int32)) (doors_fits : (Nat → Int32)) (town_told : Int32) (town_round : Int32) (town_x : Int32) (town_rust : (Nat → Int32)) (town_rooms : (Nat → Int32)) (town_hair : (Nat → Int32)) (town_pins : (Nat → Int32)) (trial_told : Int32) (trial_round : Int32) (trial_x : Int32) (trial_rust : (Nat → Int32)) (trial_rooms : (Nat → Int32)) (trial_hair : (Nat → Int32)) (trial_pins : (Nat → Int32)) (walk_passed : Int32) (walk_jammed : Int32) (walk_known : (Nat → Int32)) (lawNow_size : Int32) (lawNow_rules : Int32) (lawNow_signs : (Nat → Int32)) (lawNow_values : (Nat → Int32)) (lawNow_stack : (Nat → Int32)) (lawNow_letters : (Nat → Int32)) (lawNow_amounts : (Nat → Int32)) (lawNow_conditions : (Nat → Int32)) (lawNow_ends : (Nat → Int32)) (x1 : Int32) (x2 : Int32) (r : Int32 × Int32 × Int32 × Int32 × (Nat → Int32) × (Nat → Int32) × (Nat → Int32) × (Nat → Int32) × Int32 × Int32 × (Nat → Int32) × (Nat → Int32)) (h : f_X11_tried doors_told doors_barred doors_one doors_other doors_fits town_told town_round town_x town_rust town_rooms town_hair town_pins trial_told trial_round trial_x trial_rust trial_rooms trial_hair trial_pins walk_passed walk_jammed walk_known lawNow_rules lawNow_signs lawNow_values lawNow_stack lawNow_letters lawNow_amounts lawNow_conditions lawNow_ends x1 x2 = some r) : Cn l E yX11_tried cX11_tried 3 (some .int) 7 0 0 [.ref o_t, .int x1, .int x2] (W_X11_tried E o_t r_t_tape r_t_script r_t_hairReader r_t_ordersReader r_t_lawReader r_t_doors r_t_town r_t_kept r_t_trial r_t_walk r_t_reach r_t_lawNow r_t_lawSpare r_t_doors a_doors r_t_town a_town r_t_trial a_trial r_t_walk a_walk r_t_lawNow a_lawNow t_isKept doors_told doors_barred doors_one doors_other doors_fits town_told town_round town_x town_rust town_rooms town_hair town_pins trial_told trial_round trial_x trial_rust trial_rooms trial_hair trial_pins walk_passed walk_jammed walk_known lawNow_size lawNow_rules lawNow_signs lawNow_values lawNow_stack lawNow_letters lawNow_amounts lawNow_conditions lawNow_ends) (fun w => w = (W_X11_tried E o_t r_t_tape r_t_script r_t_hairReader r_t_ordersReader r_t_lawReader r_t_doors r_t_town r_t_kept r_t_trial r_t_walk r_t_reach r_t_lawNow r_t_lawSpare r_t_doors a_doors r_t_town a_town r_t_trial a_trial r_t_walk a_walk r_t_lawNow a_lawNow t_isKept doors_told doors_barred doors_one doors_other doors_fits town_told town_round town_x town_rust town_rooms town_hair town_pins r.2.1 r.2.2.1 r.2.2.2.1 r.2.2.2.2.1 r.2.2.2.2.2.1 r.2.2.2.2.2.2.1 r.2.2.2.2.2.2.2.1 r.2.2.2.2.2.2.2.2.1 r.2.2.2.2.2.2.2.2.2.1 r.2.2.2.2.2.2.2.2.2.2.1 lawNow_size lawNow_rules lawNow_signs lawNow_values r.2.2.2.2.2.2.2.2.2.2.2 lawNow_letters lawNow_amounts lawNow_conditions lawNow_ends)) (some (.int r.1)) := by
  refine Cn.ofI (by decide +kernel) (Nat.le_of_ble_eq_true rfl) (fun X hX hR C hret => ?_)
  subst hX
  show Gx X E 0 0 (W_X11_tried E o_t r_t_tape r_t_script r_t_hairReader r_t_ordersReader r_t_lawReader r_t_doors r_t_town r_t_kept r_t_trial r_t_walk r_t_reach r_t_lawNow r_t_lawSpare r_t_doors a_doors r_t_town a_town r_t_trial a_trial r_t_walk a_walk r_t_lawNow a_lawNow t_isKept doors_told doors_barred doors_one doors_other doors_fits town_told town_round town_x town_rust town_rooms town_hair town_pins trial_told trial_round trial_x trial_rust trial_rooms trial_hair trial_pins walk_passed walk_jammed walk_known lawNow_size lawNow_rules lawNow_signs lawNow_values lawNow_stack lawNow_letters lawNow_amounts lawNow_conditions lawNow_ends) 0 [(0, .ref o_t), (1, .int x1), (2, .int x2)] []
  unfold f_X11_tried at h
  refine g_iload_n (pc := 0) C dX11_tried_0 rfl 1 rfl ?_
  refine g_iconst (pc := 1) (v := 1) C dX11_tried_1 (by decide) ?_
  refine g_bipush (pc := 2) (v := 100) C dX11_tried_2 (by decide) ?_
  obtain ⟨u1, hu1, h⟩ := bs h
  refine g_callS (pc := 4) (st := []) (st1 := [.int u1]) (ws' := (W_X11_tried E o_t r_t_tape r_t_script r_t_hairReader r_t_ordersReader r_t_lawReader r_t_doors r_t_town r_t_kept r_t_trial r_t_walk r_t_reach r_t_lawNow r_t_lawSpare r_t_doors a_doors r_t_town a_town r_t_trial a_trial r_t_walk a_walk r_t_lawNow a_lawNow t_isKept doors_told doors_barred doors_one doors_other doors_fits town_told town_round town_x town_rust town_rooms town_hair town_pins trial_told trial_round trial_x trial_rust trial_rooms trial_hair trial_pins walk_passed walk_jammed walk_known lawNow_size lawNow_rules lawNow_signs lawNow_values lawNow_stack lawNow_letters lawNow_amounts lawNow_conditions lawNow_ends)) C mv_X11_isWithin ms_X11_isWithin ml_X11_98 (c_X11_isWithin X.2.1 E x1 (1 : Int32) (100 : Int32) u1 hu1) dX11_tried_4 (by decide) rfl (Nat.le_of_ble_eq_true rfl) [] rfl (by decide) rfl rfl rfl rfl ?_
  refine g_if_eq (pc := 7) (tgt := 18) C dX11_tried_7 (by decide) h (fun h => ?_) (fun h => ?_)
  · refine g_iconst (pc := 18) (v := -1) C dX11_tried_18 (by decide) ?_
    cases h
    exact hret _ _ _ dX11_tried_19 rfl rfl
  · refine g_aload_n (pc := 10) C dX11_tried_10 rfl 0 rfl ?_
    refine g_iload_n (pc := 11) C dX11_tried_11 rfl 2 rfl ?_
    obtain ⟨u2, hu2, h⟩ := bs h
    refine g_callV (pc := 12) (st := []) (st1 := [.int u2]) (ws' := (W_X11_tried E o_t r_t_tape r_t_script r_t_hairReader r_t_ordersReader r_t_lawReader r_t_doors r_t_town r_t_kept r_t_trial r_t_walk r_t_reach r_t_lawNow r_t_lawSpare r_t_doors a_doors r_t_town a_town r_t_trial a_trial r_t_walk a_walk r_t_lawNow a_lawNow t_isKept doors_told doors_barred doors_one doors_other doors_fits town_told town_round town_x town_rust town_rooms town_hair town_pins trial_told trial_round trial_x trial_rust trial_rooms trial_hair trial_pins walk_passed walk_jammed walk_known lawNow_size lawNow_rules lawNow_signs lawNow_values lawNow_stack lawNow_letters lawNow_amounts lawNow_conditions lawNow_ends)) C mv_X11_canBeTried mi_X11_canBeTried ml_X11_185 (c_X11_canBeTried X.2.1 E o_t r_t_tape r_t_script r_t_hairReader r_t_ordersReader r_t_lawReader r_t_doors r_t_town r_t_kept r_t_trial r_t_walk r_t_reach r_t_lawNow r_t_lawSpare a_town t_isKept town_told town_round town_x x2 u2 hu2) dX11_tried_12 (by decide) rfl (Nat.le_of_ble_eq_true rfl) 0 10 rfl rfl [0, 5] rfl (by decide) rfl rfl rfl rfl ?_
    refine g_if_ne (pc := 15) (tgt := 20) C dX11_tried_15 (by decide) h (fun h => ?_) (fun h => ?_)
    · refine g_aload_n (pc := 20) C dX11_tried_20 rfl 0 rfl ?_
      refine g_get (pc := 21) C fl_X11_58 dX11_tried_21 0 rfl rfl ?_
      refine g_aload_n (pc := 24) C dX11_tried_24 rfl 0 rfl ?_
      refine g_get (pc := 25) C fl_X11_51 dX11_tried_25 0 rfl rfl ?_
      obtain ⟨u3, hu3, h⟩ := bs h
      refine g_callV (pc := 28) (st := []) (st1 := []) (ws' := (W_X11_tried E o_t r_t_tape r_t_script r_t_hairReader r_t_ordersReader r_t_lawReader r_t_doors r_t_town r_t_kept r_t_trial r_t_walk r_t_reach r_t_lawNow r_t_lawSpare r_t_doors a_doors r_t_town a_town r_t_trial a_trial r_t_walk a_walk r_t_lawNow a_lawNow t_isKept doors_told doors_barred doors_one doors_other doors_fits town_told town_round town_x town_rust town_rooms town_hair town_pins u3.1 u3.2.1 u3.2.2.1 u3.2.2.2.1 u3.2.2.2.2.1 u3.2.2.2.2.2.1 u3.2.2.2.2.2.2 walk_passed walk_jammed walk_known lawNow_size lawNow_rules lawNow_signs lawNow_values lawNow_stack lawNow_letters lawNow_amounts lawNow_conditions lawNow_ends)) C mv_X9_copy mi_X9_copy ml_X11_188 (c_X9_copy X.2.1 E r_t_trial a_trial r_t_town a_town trial_told trial_round trial_x trial_rust trial_rooms trial_hair trial_pins town_told town_round town_x town_rust town_rooms town_hair town_pins u3 hu3) dX11_tried_28 (by decide) rfl (Nat.le_of_ble_eq_true rfl) 10 8 rfl rfl [10, 11, 12, 13, 14, 5, 6, 7, 8, 9] rfl (by decide) rfl rfl rfl rfl ?_
      refine g_aload_n (pc := 31) C dX11_tried_31 rfl 0 rfl ?_
      refine g_get (pc := 32) C fl_X11_64 dX11_tried_32 0 rfl rfl ?_
      refine g_aload_n (pc := 35) C dX11_tried_35 rfl 0 rfl ?_
      refine g_get (pc := 36) C fl_X11_58 dX11_tried_36 0 rfl rfl ?_
      refine g_aload_n (pc := 39) C dX11_tried_39 rfl 0 rfl ?_
      refine g_get (pc := 40) C fl_X11_44 dX11_tried_40 0 rfl rfl ?_
      refine g_aload_n (pc := 43) C dX11_tried_43 rfl 0 rfl ?_
      refine g_get (pc := 44) C fl_X11_78 dX11_tried_44 0 rfl rfl ?_
      refine g_iload_n (pc := 47) C dX11_tried_47 rfl 1 rfl ?_
      obtain ⟨u4, hu4, h⟩ := bs h
      refine g_callV (pc := 48) (st := []) (st1 := []) (ws' := (W_X11_tried E o_t r_t_tape r_t_script r_t_hairReader r_t_ordersReader r_t_lawReader r_t_doors r_t_town r_t_kept r_t_trial r_t_walk r_t_reach r_t_lawNow r_t_lawSpare r_t_doors a_doors r_t_town a_town r_t_trial a_trial r_t_walk a_walk r_t_lawNow a_lawNow t_isKept doors_told doors_barred doors_one doors_other doors_fits town_told town_round town_x town_rust town_rooms town_hair town_pins u3.1 u4.2.2.2.1 u4.2.2.2.2.1 u4.2.2.2.2.2.1 u4.2.2.2.2.2.2.1 u3.2.2.2.2.2.1 u4.2.2.2.2.2.2.2.1 u4.1 u4.2.1 u4.2.2.1 lawNow_size lawNow_rules lawNow_signs lawNow_values u4.2.2.2.2.2.2.2.2 lawNow_letters lawNow_amounts lawNow_conditions lawNow_ends)) C mv_X10_go mi_X10_go ml_X11_164 (c_X10_go X.2.1 E r_t_walk a_walk r_t_trial a_trial r_t_doors a_doors r_t_lawNow a_lawNow walk_passed walk_jammed walk_known u3.1 u3.2.1 u3.2.2.1 u3.2.2.2.1 u3.2.2.2.2.1 u3.2.2.2.2.2.2 doors_told doors_barred doors_one doors_other doors_fits lawNow_size lawNow_rules lawNow_signs lawNow_values lawNow_stack lawNow_letters lawNow_amounts lawNow_conditions lawNow_ends x1 u4 hu4) dX11_tried_48 (by decide) rfl (Nat.le_of_ble_eq_true rfl) 15 9 rfl rfl [15, 16, 10, 11, 12, 14, 1, 2, 3, 4, 17, 18, 19, 20, 21, 22, 23, 24] rfl (by decide) rfl rfl rfl rfl ?_
      refine g_iload_n (pc := 51) C dX11_tried_51 rfl 2 rfl ?_
      refine g_if_ne (pc := 52) (tgt := 63) C dX11_tried_52 (by decide) h (fun h => ?_) (fun h => ?_)
      · refine g_iload_n (pc := 63) C dX11_tried_63 rfl 2 rfl ?_
        refine g_iconst (pc := 64) (v := 1) C dX11_tried_64 (by decide) ?_
        refine g_icmp_ne (pc := 65) (tgt := 76) C dX11_tried_65 (by decide) h (fun h => ?_) (fun h => ?_)
        · refine g_iload_n (pc := 76) C dX11_tried_76 rfl 2 rfl ?_
          refine g_bipush (pc := 77) (v := 30) C dX11_tried_77 (by decide) ?_
          refine g_icmp_ge (pc := 79) (tgt := 96) C dX11_tried_79 (by decide) h (fun h => ?_) (fun h => ?_)
          · refine g_aload_n (pc := 96) C dX11_tried_96 rfl 0 rfl ?_
            refine g_get (pc := 97) C fl_X11_58 dX11_tried_97 0 rfl rfl ?_
            refine g_iload_n (pc := 100) C dX11_tried_100 rfl 2 rfl ?_
            refine g_bipush (pc := 101) (v := 30) C dX11_tried_101 (by decide) ?_
            refine g_isub (pc := 103) C dX11_tried_103 ?_
            obtain ⟨u5, hu5, h⟩ := bs h
            refine g_callV (pc := 104) (st := []) (st1 := [.int u5]) (ws' := (W_X11_tried E o_t r_t_tape r_t_script r_t_hairReader r_t_ordersReader r_t_lawReader r_t_doors r_t_town r_t_kept r_t_trial r_t_walk r_t_reach r_t_lawNow r_t_lawSpare r_t_doors a_doors r_t_town a_town r_t_trial a_trial r_t_walk a_walk r_t_lawNow a_lawNow t_isKept doors_told doors_barred doors_one doors_other doors_fits town_told town_round town_x town_rust town_rooms town_hair town_pins u3.1 u4.2.2.2.1 u4.2.2.2.2.1 u4.2.2.2.2.2.1 u4.2.2.2.2.2.2.1 u3.2.2.2.2.2.1 u4.2.2.2.2.2.2.2.1 u4.1 u4.2.1 u4.2.2.1 lawNow_size lawNow_rules lawNow_signs lawNow_values u4.2.2.2.2.2.2.2.2 lawNow_letters lawNow_amounts lawNow_conditions lawNow_ends)) C mv_X9_pinsOf mi_X9_pinsOf ml_X11_148 (c_X9_pinsOf X.2.1 E r_t_trial a_trial u3.1 u4.2.2.2.1 u4.2.2.2.2.1 u4.2.2.2.2.2.2.2.1 (x2 - (30 : Int32)) u5 hu5) dX11_tried_104 (by decide) rfl (Nat.le_of_ble_eq_true rfl) 10 8 rfl rfl [10, 14] rfl (by decide) rfl rfl rfl rfl ?_
            cases h
            exact hret _ _ _ dX11_tried_107 rfl rfl
          · refine g_aload_n (pc := 82) C dX11_tried_82 rfl 0 rfl ?_
            refine g_get (pc := 83) C fl_X11_58 dX11_tried_83 0 rfl rfl ?_
            refine g_iload_n (pc := 86) C dX11_tried_86 rfl 2 rfl ?_
            refine g_bipush (pc := 87) (v := 10) C dX11_tried_87 (by decide) ?_
            refine g_isub (pc := 89) C dX11_tried_89 ?_
            obtain ⟨u6, hu6, h⟩ := bs h
            refine g_callV (pc := 90) (st := []) (st1 := [.int u6]) (ws' := (W_X11_tried E o_t r_t_tape r_t_script r_t_hairReader r_t_ordersReader r_t_lawReader r_t_doors r_t_town r_t_kept r_t_trial r_t_walk r_t_reach r_t_lawNow r_t_lawSpare r_t_doors a_doors r_t_town a_town r_t_trial a_trial r_t_walk a_walk r_t_lawNow a_lawNow t_isKept doors_told doors_barred doors_one doors_other doors_fits town_told town_round town_x town_rust town_rooms town_hair town_pins u3.1 u4.2.2.2.1 u4.2.2.2.2.1 u4.2.2.2.2.2.1 u4.2.2.2.2.2.2.1 u3.2.2.2.2.2.1 u4.2.2.2.2.2.2.2.1 u4.1 u4.2.1 u4.2.2.1 lawNow_size lawNow_rules lawNow_signs lawNow_values u4.2.2.2.2.2.2.2.2 lawNow_letters lawNow_amounts lawNow_conditions lawNow_ends)) C mv_X9_roomOf mi_X9_roomOf ml_X11_195 (c_X9_roomOf X.2.1 E r_t_trial a_trial u3.1 u4.2.2.2.1 u4.2.2.2.2.1 u4.2.2.2.2.2.2.1 (x2 - (10 : Int32)) u6 hu6) dX11_tried_90 (by decide) rfl (Nat.le_of_ble_eq_true rfl) 10 8 rfl rfl [10, 12] rfl (by decide) rfl rfl rfl rfl ?_
            refine g_goto (pc := 93) (tgt := 107) C dX11_tried_93 (by decide) ?_
            cases h
            exact hret _ _ _ dX11_tried_107 rfl rfl
        · refine g_aload_n (pc := 68) C dX11_tried_68 rfl 0 rfl ?_
          refine g_get (pc := 69) C fl_X11_64 dX11_tried_69 0 rfl rfl ?_
          refine g_get (pc := 72) C fl_X11_192 dX11_tried_72 15 rfl rfl ?_
          cases h
          exact hret _ _ _ dX11_tried_75 rfl rfl
      · refine g_aload_n (pc := 55) C dX11_tried_55 rfl 0 rfl ?_
        refine g_get (pc := 56) C fl_X11_64 dX11_tried_56 0 rfl rfl ?_
        refine g_get (pc := 59) C fl_X11_168 dX11_tried_59 15 rfl rfl ?_
        cases h
        exact hret _ _ _ dX11_tried_62 rfl rfl
    · refine g_iconst (pc := 18) (v := -1) C dX11_tried_18 (by decide) ?_
      cases h
      exact hret _ _ _ dX11_tried_19 rfl rfl
