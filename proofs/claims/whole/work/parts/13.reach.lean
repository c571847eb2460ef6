abbrev W_X6_allRooms (E : GE) (O_t : Nat) (a_t : Nat → Nat) (t_size : Int32) (t_rooms : (Nat → Int32)) : va_W := [(O_t, ob_X6 a_t t_size), (a_t 3, .inl (E.2.1, 924, .inl t_rooms))]
def L_X6_allRooms_4 (t_rooms : (Nat → Int32)) : Nat → Int32 × Int32 → Option (Int32) := lp fun go s => if (924 : Int32) ≤ s.2 then (some s.1) else rd t_rooms 924 s.2 fun v1 => nm (s.1 ||| v1) fun v2 => nm (s.2 + (1 : Int32)) fun v3 => go (v2, v3)
def f_X6_allRooms (t_rooms : (Nat → Int32)) : Option (Int32) := L_X6_allRooms_4 t_rooms fu ((0 : Int32), (0 : Int32))
theorem dX6_allRooms_0 : decode cX6_allRooms 0 = .ok (.iconst 0, 1) := by decide +kernel
theorem dX6_allRooms_1 : decode cX6_allRooms 1 = .ok (.istore_n 1, 1) := by decide +kernel
theorem dX6_allRooms_2 : decode cX6_allRooms 2 = .ok (.iconst 0, 1) := by decide +kernel
theorem dX6_allRooms_3 : decode cX6_allRooms 3 = .ok (.istore_n 2, 1) := by decide +kernel
theorem dX6_allRooms_4 : decode cX6_allRooms 4 = .ok (.iload_n 2, 1) := by decide +kernel
theorem dX6_allRooms_5 : decode cX6_allRooms 5 = .ok (.sipush 924, 3) := by decide +kernel
theorem dX6_allRooms_8 : decode cX6_allRooms 8 = .ok (.if_icmp .ge 18, 3) := by decide +kernel
theorem dX6_allRooms_11 : decode cX6_allRooms 11 = .ok (.iload_n 1, 1) := by decide +kernel
theorem dX6_allRooms_12 : decode cX6_allRooms 12 = .ok (.aload_n 0, 1) := by decide +kernel
theorem dX6_allRooms_13 : decode cX6_allRooms 13 = .ok (.getfield 21, 3) := by decide +kernel
theorem dX6_allRooms_16 : decode cX6_allRooms 16 = .ok (.iload_n 2, 1) := by decide +kernel
theorem dX6_allRooms_17 : decode cX6_allRooms 17 = .ok (.iaload, 1) := by decide +kernel
theorem dX6_allRooms_18 : decode cX6_allRooms 18 = .ok (.ior, 1) := by decide +kernel
theorem dX6_allRooms_19 : decode cX6_allRooms 19 = .ok (.istore_n 1, 1) := by decide +kernel
theorem dX6_allRooms_20 : decode cX6_allRooms 20 = .ok (.iinc 2 1, 3) := by decide +kernel
theorem dX6_allRooms_23 : decode cX6_allRooms 23 = .ok (.goto (-19), 3) := by decide +kernel
theorem dX6_allRooms_26 : decode cX6_allRooms 26 = .ok (.iload_n 1, 1) := by decide +kernel
theorem dX6_allRooms_27 : decode cX6_allRooms 27 = .ok (.ireturn, 1) := by decide +kernel
set_option maxHeartbeats 4000000 in
set_option maxRecDepth 100000 in
theorem kL_X6_allRooms_4 {X : GC} {E : GE} (C : Cx X E cX6_allRooms RX6 1 3) (o_t : Nat) (a_t : Nat → Nat) (t_size : Int32) (t_rooms : (Nat → Int32)) {r : Int32} (hret : RtI X E cX6_allRooms .int 0 0 (fun w => w = (W_X6_allRooms E o_t a_t t_size t_rooms)) r) : ∀ (n : Nat) (s : Int32 × Int32), L_X6_allRooms_4 t_rooms n s = some r → Gx X E 0 0 (W_X6_allRooms E o_t a_t t_size t_rooms) 4 [(0, .ref o_t), (1, .int s.1), (2, .int s.2)] [] := by
  unfold L_X6_allRooms_4
  refine lp_ind _ (fun go ih s h => ?_)
  refine g_iload_n (pc := 4) C dX6_allRooms_4 rfl 2 rfl ?_
  refine g_sipush (pc := 5) (v := 924) C dX6_allRooms_5 (by decide) ?_
  refine g_icmp_ge (pc := 8) (tgt := 26) C dX6_allRooms_8 (by decide) h (fun h => ?_) (fun h => ?_)
  · refine g_iload_n (pc := 26) C dX6_allRooms_26 rfl 1 rfl ?_
    cases h
    exact hret _ _ _ dX6_allRooms_27 rfl rfl
  · refine g_iload_n (pc := 11) C dX6_allRooms_11 rfl 1 rfl ?_
    refine g_aload_n (pc := 12) C dX6_allRooms_12 rfl 0 rfl ?_
    refine g_get (pc := 13) C fl_X6_21 dX6_allRooms_13 0 rfl rfl ?_
    refine g_iload_n (pc := 16) C dX6_allRooms_16 rfl 2 rfl ?_
    refine g_iald (pc := 17) C dX6_allRooms_17 1 rfl h (fun v1 h => ?_)
    refine g_ior (pc := 18) C dX6_allRooms_18 ?_
    refine g_nm h (fun v2 h => ?_)
    refine g_istore_n (pc := 19) (lv' := [(1, .int v2), (0, .ref o_t), (2, .int s.2)]) C dX6_allRooms_19 rfl (by decide) rfl ?_
    refine g_iincn (pc := 20) (j := 2) (d := 1) (lv' := fun v3 => [(2, .int v3), (1, .int v2), (0, .ref o_t)]) C dX6_allRooms_20 rfl (by decide) (by decide) (fun _ => rfl) h (fun v3 h => ?_)
    refine g_goto (pc := 23) (tgt := 4) C dX6_allRooms_23 (by decide) ?_
    refine g_sub [2, 1, 0] rfl ?_
    exact ih _ h
set_option maxHeartbeats 4000000 in
set_option maxRecDepth 100000 in
theorem c_X6_allRooms (l : Launch) (E : GE) (o_t : Nat) (a_t : Nat → Nat) (t_size : Int32) (t_rooms : (Nat → Int32)) (r : Int32) (h : f_X6_allRooms t_rooms = some r) : Cn l E yX6_allRooms cX6_allRooms 3 (some .int) 1 0 0 [.ref o_t] (W_X6_allRooms E o_t a_t t_size t_rooms) (fun w => w = (W_X6_allRooms E o_t a_t t_size t_rooms)) (some (.int r)) := by
  refine Cn.ofI (by decide +kernel) (Nat.le_of_ble_eq_true rfl) (fun X hX hR C hret => ?_)
  subst hX
  show Gx X E 0 0 (W_X6_allRooms E o_t a_t t_size t_rooms) 0 [(0, .ref o_t)] []
  unfold f_X6_allRooms at h
  refine g_iconst (pc := 0) (v := 0) C dX6_allRooms_0 (by decide) ?_
  refine g_istore_n (pc := 1) (lv' := [(1, .int (0 : Int32)), (0, .ref o_t)]) C dX6_allRooms_1 rfl (by decide) rfl ?_
  refine g_iconst (pc := 2) (v := 0) C dX6_allRooms_2 (by decide) ?_
  refine g_istore_n (pc := 3) (lv' := [(2, .int (0 : Int32)), (1, .int (0 : Int32)), (0, .ref o_t)]) C dX6_allRooms_3 rfl (by decide) rfl ?_
  refine g_sub [2, 1, 0] rfl ?_
  refine kL_X6_allRooms_4 C o_t a_t t_size t_rooms hret  _ _ h
abbrev W_X6_freeKinds (E : GE) (O_t : Nat) (a_t : Nat → Nat) (t_size : Int32) (t_left : (Nat → Int32)) : va_W := [(O_t, ob_X6 a_t t_size), (a_t 1, .inl (E.2.1, 6, .inl t_left))]
def L_X6_freeKinds_4 (t_left : (Nat → Int32)) (x1 : Int32) : Nat → Int32 × Int32 → Option (Int32) := lp fun go s => if (6 : Int32) ≤ s.2 then (some s.1) else rd t_left 6 s.2 fun v1 => if v1 ≤ ((x1 >>> (((3 : Int32) * s.2) &&& 31)) &&& (7 : Int32)) then (nm (s.2 + (1 : Int32)) fun v2 => go (s.1, v2)) else nm (s.1 ||| ((1 : Int32) <<< (s.2 &&& 31))) fun v3 => nm (s.2 + (1 : Int32)) fun v4 => go (v3, v4)
def f_X6_freeKinds (t_left : (Nat → Int32)) (x1 : Int32) : Option (Int32) := L_X6_freeKinds_4 t_left x1 fu ((0 : Int32), (0 : Int32))
theorem dX6_freeKinds_0 : decode cX6_freeKinds 0 = .ok (.iconst 0, 1) := by decide +kernel
theorem dX6_freeKinds_1 : decode cX6_freeKinds 1 = .ok (.istore_n 2, 1) := by decide +kernel
theorem dX6_freeKinds_2 : decode cX6_freeKinds 2 = .ok (.iconst 0, 1) := by decide +kernel
theorem dX6_freeKinds_3 : decode cX6_freeKinds 3 = .ok (.istore_n 3, 1) := by decide +kernel
theorem dX6_freeKinds_4 : decode cX6_freeKinds 4 = .ok (.iload_n 3, 1) := by decide +kernel
theorem dX6_freeKinds_5 : decode cX6_freeKinds 5 = .ok (.bipush 6, 2) := by decide +kernel
theorem dX6_freeKinds_7 : decode cX6_freeKinds 7 = .ok (.if_icmp .ge 32, 3) := by decide +kernel
theorem dX6_freeKinds_10 : decode cX6_freeKinds 10 = .ok (.iload_n 1, 1) := by decide +kernel
theorem dX6_freeKinds_11 : decode cX6_freeKinds 11 = .ok (.iconst 3, 1) := by decide +kernel
theorem dX6_freeKinds_12 : decode cX6_freeKinds 12 = .ok (.iload_n 3, 1) := by decide +kernel
theorem dX6_freeKinds_13 : decode cX6_freeKinds 13 = .ok (.imul, 1) := by decide +kernel
theorem dX6_freeKinds_14 : decode cX6_freeKinds 14 = .ok (.ishr, 1) := by decide +kernel
theorem dX6_freeKinds_15 : decode cX6_freeKinds 15 = .ok (.bipush 7, 2) := by decide +kernel
theorem dX6_freeKinds_17 : decode cX6_freeKinds 17 = .ok (.iand, 1) := by decide +kernel
theorem dX6_freeKinds_18 : decode cX6_freeKinds 18 = .ok (.aload_n 0, 1) := by decide +kernel
theorem dX6_freeKinds_19 : decode cX6_freeKinds 19 = .ok (.getfield 15, 3) := by decide +kernel
theorem dX6_freeKinds_22 : decode cX6_freeKinds 22 = .ok (.iload_n 3, 1) := by decide +kernel
theorem dX6_freeKinds_23 : decode cX6_freeKinds 23 = .ok (.iaload, 1) := by decide +kernel
theorem dX6_freeKinds_24 : decode cX6_freeKinds 24 = .ok (.if_icmp .ge 9, 3) := by decide +kernel
theorem dX6_freeKinds_27 : decode cX6_freeKinds 27 = .ok (.iload_n 2, 1) := by decide +kernel
theorem dX6_freeKinds_28 : decode cX6_freeKinds 28 = .ok (.iconst 1, 1) := by decide +kernel
theorem dX6_freeKinds_29 : decode cX6_freeKinds 29 = .ok (.iload_n 3, 1) := by decide +kernel
theorem dX6_freeKinds_30 : decode cX6_freeKinds 30 = .ok (.ishl, 1) := by decide +kernel
theorem dX6_freeKinds_31 : decode cX6_freeKinds 31 = .ok (.ior, 1) := by decide +kernel
theorem dX6_freeKinds_32 : decode cX6_freeKinds 32 = .ok (.istore_n 2, 1) := by decide +kernel
theorem dX6_freeKinds_33 : decode cX6_freeKinds 33 = .ok (.iinc 3 1, 3) := by decide +kernel
theorem dX6_freeKinds_36 : decode cX6_freeKinds 36 = .ok (.goto (-32), 3) := by decide +kernel
theorem dX6_freeKinds_39 : decode cX6_freeKinds 39 = .ok (.iload_n 2, 1) := by decide +kernel
theorem dX6_freeKinds_40 : decode cX6_freeKinds 40 = .ok (.ireturn, 1) := by decide +kernel
set_option maxHeartbeats 4000000 in
set_option maxRecDepth 100000 in
theorem kL_X6_freeKinds_4 {X : GC} {E : GE} (C : Cx X E cX6_freeKinds RX6 1 4) (o_t : Nat) (a_t : Nat → Nat) (t_size : Int32) (t_left : (Nat → Int32)) (x1 : Int32) {r : Int32} (hret : RtI X E cX6_freeKinds .int 0 0 (fun w => w = (W_X6_freeKinds E o_t a_t t_size t_left)) r) : ∀ (n : Nat) (s : Int32 × Int32), L_X6_freeKinds_4 t_left x1 n s = some r → Gx X E 0 0 (W_X6_freeKinds E o_t a_t t_size t_left) 4 [(0, .ref o_t), (1, .int x1), (2, .int s.1), (3, .int s.2)] [] := by
  unfold L_X6_freeKinds_4
  refine lp_ind _ (fun go ih s h => ?_)
  refine g_iload_n (pc := 4) C dX6_freeKinds_4 rfl 3 rfl ?_
  refine g_bipush (pc := 5) (v := 6) C dX6_freeKinds_5 (by decide) ?_
  refine g_icmp_ge (pc := 7) (tgt := 39) C dX6_freeKinds_7 (by decide) h (fun h => ?_) (fun h => ?_)
  · refine g_iload_n (pc := 39) C dX6_freeKinds_39 rfl 2 rfl ?_
    cases h
    exact hret _ _ _ dX6_freeKinds_40 rfl rfl
  · refine g_iload_n (pc := 10) C dX6_freeKinds_10 rfl 1 rfl ?_
    refine g_iconst (pc := 11) (v := 3) C dX6_freeKinds_11 (by decide) ?_
    refine g_iload_n (pc := 12) C dX6_freeKinds_12 rfl 3 rfl ?_
    refine g_imul (pc := 13) C dX6_freeKinds_13 ?_
    refine g_ishr (pc := 14) C dX6_freeKinds_14 ?_
    refine g_bipush (pc := 15) (v := 7) C dX6_freeKinds_15 (by decide) ?_
    refine g_iand (pc := 17) C dX6_freeKinds_17 ?_
    refine g_aload_n (pc := 18) C dX6_freeKinds_18 rfl 0 rfl ?_
    refine g_get (pc := 19) C fl_X6_15 dX6_freeKinds_19 0 rfl rfl ?_
    refine g_iload_n (pc := 22) C dX6_freeKinds_22 rfl 3 rfl ?_
    refine g_iald (pc := 23) C dX6_freeKinds_23 1 rfl h (fun v1 h => ?_)
    refine g_icmp_ge (pc := 24) (tgt := 33) C dX6_freeKinds_24 (by decide) h (fun h => ?_) (fun h => ?_)
    · refine g_iincn (pc := 33) (j := 3) (d := 1) (lv' := fun v2 => [(3, .int v2), (0, .ref o_t), (1, .int x1), (2, .int s.1)]) C dX6_freeKinds_33 rfl (by decide) (by decide) (fun _ => rfl) h (fun v2 h => ?_)
      refine g_goto (pc := 36) (tgt := 4) C dX6_freeKinds_36 (by decide) ?_
      refine g_sub [1, 2, 3, 0] rfl ?_
      exact ih _ h
    · refine g_iload_n (pc := 27) C dX6_freeKinds_27 rfl 2 rfl ?_
      refine g_iconst (pc := 28) (v := 1) C dX6_freeKinds_28 (by decide) ?_
      refine g_iload_n (pc := 29) C dX6_freeKinds_29 rfl 3 rfl ?_
      refine g_ishl (pc := 30) C dX6_freeKinds_30 ?_
      refine g_ior (pc := 31) C dX6_freeKinds_31 ?_
      refine g_nm h (fun v3 h => ?_)
      refine g_istore_n (pc := 32) (lv' := [(2, .int v3), (0, .ref o_t), (1, .int x1), (3, .int s.2)]) C dX6_freeKinds_32 rfl (by decide) rfl ?_
      refine g_iincn (pc := 33) (j := 3) (d := 1) (lv' := fun v4 => [(3, .int v4), (2, .int v3), (0, .ref o_t), (1, .int x1)]) C dX6_freeKinds_33 rfl (by decide) (by decide) (fun _ => rfl) h (fun v4 h => ?_)
      refine g_goto (pc := 36) (tgt := 4) C dX6_freeKinds_36 (by decide) ?_
      refine g_sub [2, 3, 1, 0] rfl ?_
      exact ih _ h
set_option maxHeartbeats 4000000 in
set_option maxRecDepth 100000 in
theorem c_X6_freeKinds (l : Launch) (E : GE) (o_t : Nat) (a_t : Nat → Nat) (t_size : Int32) (t_left : (Nat → Int32)) (x1 : Int32) (r : Int32) (h : f_X6_freeKinds t_left x1 = some r) : Cn l E yX6_freeKinds cX6_freeKinds 4 (some .int) 1 0 0 [.ref o_t, .int x1] (W_X6_freeKinds E o_t a_t t_size t_left) (fun w => w = (W_X6_freeKinds E o_t a_t t_size t_left)) (some (.int r)) := by
  refine Cn.ofI (by decide +kernel) (Nat.le_of_ble_eq_true rfl) (fun X hX hR C hret => ?_)
  subst hX
  show Gx X E 0 0 (W_X6_freeKinds E o_t a_t t_size t_left) 0 [(0, .ref o_t), (1, .int x1)] []
  unfold f_X6_freeKinds at h
  refine g_iconst (pc := 0) (v := 0) C dX6_freeKinds_0 (by decide) ?_
  refine g_istore_n (pc := 1) (lv' := [(2, .int (0 : Int32)), (0, .ref o_t), (1, .int x1)]) C dX6_freeKinds_1 rfl (by decide) rfl ?_
  refine g_iconst (pc := 2) (v := 0) C dX6_freeKinds_2 (by decide) ?_
  refine g_istore_n (pc := 3) (lv' := [(3, .int (0 : Int32)), (2, .int (0 : Int32)), (0, .ref o_t), (1, .int x1)]) C dX6_freeKinds_3 rfl (by decide) rfl ?_
  refine g_sub [2, 3, 1, 0] rfl ?_
  refine kL_X6_freeKinds_4 C o_t a_t t_size t_left x1 hret  _ _ h
abbrev W_X6_placeOf (E : GE) : va_W := []
def L_X6_placeOf_6 (x0 : Int32) (k0 : Int32 → Option (Int32)) : Nat → Int32 × Int32 × Int32 → Option (Int32) := lp fun go s => if s.2.2 < 0 then (k0 s.1) else nm (s.2.1 + ((x0 >>> (((3 : Int32) * s.2.2) &&& 31)) &&& (7 : Int32))) fun v1 => nm (imin (11 : Int32) (((v1 + (6 : Int32)) - (1 : Int32)) - s.2.2)) fun v2 => rd chF 72 ((s.2.2 * (12 : Int32)) + v2) fun v4 => nm (s.1 + v4) fun v5 => nm (s.2.2 + (-1 : Int32)) fun v6 => go (v5, v1, v6)
def f_X6_placeOf (x0 : Int32) : Option (Int32) := L_X6_placeOf_6 x0 (fun s7 => some (imin (923 : Int32) s7)) fu ((0 : Int32), (0 : Int32), (5 : Int32))
theorem dX6_placeOf_0 : decode cX6_placeOf 0 = .ok (.iconst 0, 1) := by decide +kernel
theorem dX6_placeOf_1 : decode cX6_placeOf 1 = .ok (.istore_n 1, 1) := by decide +kernel
theorem dX6_placeOf_2 : decode cX6_placeOf 2 = .ok (.iconst 0, 1) := by decide +kernel
theorem dX6_placeOf_3 : decode cX6_placeOf 3 = .ok (.istore_n 2, 1) := by decide +kernel
theorem dX6_placeOf_4 : decode cX6_placeOf 4 = .ok (.iconst 5, 1) := by decide +kernel
theorem dX6_placeOf_5 : decode cX6_placeOf 5 = .ok (.istore_n 3, 1) := by decide +kernel
theorem dX6_placeOf_6 : decode cX6_placeOf 6 = .ok (.iload_n 3, 1) := by decide +kernel
theorem dX6_placeOf_7 : decode cX6_placeOf 7 = .ok (.ifCond .lt 49, 3) := by decide +kernel
theorem dX6_placeOf_10 : decode cX6_placeOf 10 = .ok (.iload_n 2, 1) := by decide +kernel
theorem dX6_placeOf_11 : decode cX6_placeOf 11 = .ok (.iload_n 0, 1) := by decide +kernel
theorem dX6_placeOf_12 : decode cX6_placeOf 12 = .ok (.iconst 3, 1) := by decide +kernel
theorem dX6_placeOf_13 : decode cX6_placeOf 13 = .ok (.iload_n 3, 1) := by decide +kernel
theorem dX6_placeOf_14 : decode cX6_placeOf 14 = .ok (.imul, 1) := by decide +kernel
theorem dX6_placeOf_15 : decode cX6_placeOf 15 = .ok (.ishr, 1) := by decide +kernel
theorem dX6_placeOf_16 : decode cX6_placeOf 16 = .ok (.bipush 7, 2) := by decide +kernel
theorem dX6_placeOf_18 : decode cX6_placeOf 18 = .ok (.iand, 1) := by decide +kernel
theorem dX6_placeOf_19 : decode cX6_placeOf 19 = .ok (.iadd, 1) := by decide +kernel
theorem dX6_placeOf_20 : decode cX6_placeOf 20 = .ok (.istore_n 2, 1) := by decide +kernel
theorem dX6_placeOf_21 : decode cX6_placeOf 21 = .ok (.bipush 11, 2) := by decide +kernel
theorem dX6_placeOf_23 : decode cX6_placeOf 23 = .ok (.iload_n 2, 1) := by decide +kernel
theorem dX6_placeOf_24 : decode cX6_placeOf 24 = .ok (.bipush 6, 2) := by decide +kernel
theorem dX6_placeOf_26 : decode cX6_placeOf 26 = .ok (.iadd, 1) := by decide +kernel
theorem dX6_placeOf_27 : decode cX6_placeOf 27 = .ok (.iconst 1, 1) := by decide +kernel
theorem dX6_placeOf_28 : decode cX6_placeOf 28 = .ok (.isub, 1) := by decide +kernel
theorem dX6_placeOf_29 : decode cX6_placeOf 29 = .ok (.iload_n 3, 1) := by decide +kernel
theorem dX6_placeOf_30 : decode cX6_placeOf 30 = .ok (.isub, 1) := by decide +kernel
theorem dX6_placeOf_31 : decode cX6_placeOf 31 = .ok (.invokestatic 74, 3) := by decide +kernel
theorem dX6_placeOf_34 : decode cX6_placeOf 34 = .ok (.istore 4, 2) := by decide +kernel
theorem dX6_placeOf_36 : decode cX6_placeOf 36 = .ok (.iload_n 1, 1) := by decide +kernel
theorem dX6_placeOf_37 : decode cX6_placeOf 37 = .ok (.getstatic 79, 3) := by decide +kernel
theorem dX6_placeOf_40 : decode cX6_placeOf 40 = .ok (.iload_n 3, 1) := by decide +kernel
theorem dX6_placeOf_41 : decode cX6_placeOf 41 = .ok (.bipush 12, 2) := by decide +kernel
theorem dX6_placeOf_43 : decode cX6_placeOf 43 = .ok (.imul, 1) := by decide +kernel
theorem dX6_placeOf_44 : decode cX6_placeOf 44 = .ok (.iload 4, 2) := by decide +kernel
theorem dX6_placeOf_46 : decode cX6_placeOf 46 = .ok (.iadd, 1) := by decide +kernel
theorem dX6_placeOf_47 : decode cX6_placeOf 47 = .ok (.iaload, 1) := by decide +kernel
theorem dX6_placeOf_48 : decode cX6_placeOf 48 = .ok (.iadd, 1) := by decide +kernel
theorem dX6_placeOf_49 : decode cX6_placeOf 49 = .ok (.istore_n 1, 1) := by decide +kernel
theorem dX6_placeOf_50 : decode cX6_placeOf 50 = .ok (.iinc 3 (-1), 3) := by decide +kernel
theorem dX6_placeOf_53 : decode cX6_placeOf 53 = .ok (.goto (-47), 3) := by decide +kernel
theorem dX6_placeOf_56 : decode cX6_placeOf 56 = .ok (.sipush 923, 3) := by decide +kernel
theorem dX6_placeOf_59 : decode cX6_placeOf 59 = .ok (.iload_n 1, 1) := by decide +kernel
theorem dX6_placeOf_60 : decode cX6_placeOf 60 = .ok (.invokestatic 74, 3) := by decide +kernel
theorem dX6_placeOf_63 : decode cX6_placeOf 63 = .ok (.ireturn, 1) := by decide +kernel
set_option maxHeartbeats 4000000 in
set_option maxRecDepth 100000 in
theorem kL_X6_placeOf_6 {X : GC} {E : GE} (C : Cx X E cX6_placeOf RX6 1 5) (x0 : Int32) (k0 : Int32 → Option (Int32)) {r : Int32} (hret : RtI X E cX6_placeOf .int 0 0 (fun w => w = (W_X6_placeOf E)) r) (hk0 : ∀ u, k0 u = some r → Gx X E 0 0 (W_X6_placeOf E) 56 [(1, .int u)] []) : ∀ (n : Nat) (s : Int32 × Int32 × Int32), L_X6_placeOf_6 x0 k0 n s = some r → Gx X E 0 0 (W_X6_placeOf E) 6 [(0, .int x0), (1, .int s.1), (2, .int s.2.1), (3, .int s.2.2)] [] := by
  unfold L_X6_placeOf_6
  refine lp_ind _ (fun go ih s h => ?_)
  refine g_iload_n (pc := 6) C dX6_placeOf_6 rfl 3 rfl ?_
  refine g_if_lt (pc := 7) (tgt := 56) C dX6_placeOf_7 (by decide) h (fun h => ?_) (fun h => ?_)
  · refine g_sub [1] rfl ?_
    exact hk0 _ h
  · refine g_iload_n (pc := 10) C dX6_placeOf_10 rfl 2 rfl ?_
    refine g_iload_n (pc := 11) C dX6_placeOf_11 rfl 0 rfl ?_
    refine g_iconst (pc := 12) (v := 3) C dX6_placeOf_12 (by decide) ?_
    refine g_iload_n (pc := 13) C dX6_placeOf_13 rfl 3 rfl ?_
    refine g_imul (pc := 14) C dX6_placeOf_14 ?_
    refine g_ishr (pc := 15) C dX6_placeOf_15 ?_
    refine g_bipush (pc := 16) (v := 7) C dX6_placeOf_16 (by decide) ?_
    refine g_iand (pc := 18) C dX6_placeOf_18 ?_
    refine g_iadd (pc := 19) C dX6_placeOf_19 ?_
    refine g_nm h (fun v1 h => ?_)
    refine g_istore_n (pc := 20) (lv' := [(2, .int v1), (0, .int x0), (1, .int s.1), (3, .int s.2.2)]) C dX6_placeOf_20 rfl (by decide) rfl ?_
    refine g_bipush (pc := 21) (v := 11) C dX6_placeOf_21 (by decide) ?_
    refine g_iload_n (pc := 23) C dX6_placeOf_23 rfl 0 rfl ?_
    refine g_bipush (pc := 24) (v := 6) C dX6_placeOf_24 (by decide) ?_
    refine g_iadd (pc := 26) C dX6_placeOf_26 ?_
    refine g_iconst (pc := 27) (v := 1) C dX6_placeOf_27 (by decide) ?_
    refine g_isub (pc := 28) C dX6_placeOf_28 ?_
    refine g_iload_n (pc := 29) C dX6_placeOf_29 rfl 3 rfl ?_
    refine g_isub (pc := 30) C dX6_placeOf_30 ?_
    refine g_mmin (pc := 31) C ml_X6_74 ms_min mini_Math mcode_min (Nat.le_of_ble_eq_true rfl) ⟨Nat.zero_le _, Nat.zero_le _⟩ dX6_placeOf_31 ?_
    refine g_nm h (fun v2 h => ?_)
    refine g_istore (pc := 34) (lv' := [(4, .int v2), (2, .int v1), (0, .int x0), (1, .int s.1), (3, .int s.2.2)]) C dX6_placeOf_34 (by decide) rfl ?_
    refine g_iload_n (pc := 36) C dX6_placeOf_36 rfl 3 rfl ?_
    refine g_getsC (pc := 37) C fs_X6_79 dX6_placeOf_37 (fun t3 ht3 => ?_)
    refine g_iload_n (pc := 40) C dX6_placeOf_40 rfl 4 rfl ?_
    refine g_bipush (pc := 41) (v := 12) C dX6_placeOf_41 (by decide) ?_
    refine g_imul (pc := 43) C dX6_placeOf_43 ?_
    refine g_iload (pc := 44) C dX6_placeOf_44 0 rfl ?_
    refine g_iadd (pc := 46) C dX6_placeOf_46 ?_
    refine g_ialdC (pc := 47) C ht3 dX6_placeOf_47 h (fun v4 h => ?_)
    refine g_iadd (pc := 48) C dX6_placeOf_48 ?_
    refine g_nm h (fun v5 h => ?_)
    refine g_istore_n (pc := 49) (lv' := [(1, .int v5), (4, .int v2), (2, .int v1), (0, .int x0), (3, .int s.2.2)]) C dX6_placeOf_49 rfl (by decide) rfl ?_
    refine g_iincn (pc := 50) (j := 4) (d := -1) (lv' := fun v6 => [(3, .int v6), (1, .int v5), (4, .int v2), (2, .int v1), (0, .int x0)]) C dX6_placeOf_50 rfl (by decide) (by decide) (fun _ => rfl) h (fun v6 h => ?_)
    refine g_goto (pc := 53) (tgt := 6) C dX6_placeOf_53 (by decide) ?_
    refine g_sub [4, 1, 3, 0] rfl ?_
    exact ih _ h
set_option maxHeartbeats 4000000 in
set_option maxRecDepth 100000 in
theorem c_X6_placeOf (l : Launch) (E : GE) (x0 : Int32) (r : Int32) (h : f_X6_placeOf x0 = some r) : Cn l E yX6_placeOf cX6_placeOf 5 (some .int) 1 0 0 [.int x0] (W_X6_placeOf E) (fun w => w = (W_X6_placeOf E)) (some (.int r)) := by
  refine Cn.ofI (by decide +kernel) (Nat.le_of_ble_eq_true rfl) (fun X hX hR C hret => ?_)
  subst hX
  show Gx X E 0 0 (W_X6_placeOf E) 0 [(0, .int x0)] []
  unfold f_X6_placeOf at h
  refine g_iconst (pc := 0) (v := 0) C dX6_placeOf_0 (by decide) ?_
  refine g_istore_n (pc := 1) (lv' := [(1, .int (0 : Int32)), (0, .int x0)]) C dX6_placeOf_1 rfl (by decide) rfl ?_
  refine g_iconst (pc := 2) (v := 0) C dX6_placeOf_2 (by decide) ?_
  refine g_istore_n (pc := 3) (lv' := [(2, .int (0 : Int32)), (1, .int (0 : Int32)), (0, .int x0)]) C dX6_placeOf_3 rfl (by decide) rfl ?_
  refine g_iconst (pc := 4) (v := 5) C dX6_placeOf_4 (by decide) ?_
  refine g_istore_n (pc := 5) (lv' := [(3, .int (5 : Int32)), (2, .int (0 : Int32)), (1, .int (0 : Int32)), (0, .int x0)]) C dX6_placeOf_5 rfl (by decide) rfl ?_
  refine g_sub [3, 2, 1, 0] rfl ?_
  refine kL_X6_placeOf_6 C x0 _ hret (fun s7 h => ?_) _ _ h
  refine g_sipush (pc := 56) (v := 923) C dX6_placeOf_56 (by decide) ?_
  refine g_iload_n (pc := 59) C dX6_placeOf_59 rfl 0 rfl ?_
  refine g_mmin (pc := 60) C ml_X6_74 ms_min mini_Math mcode_min (Nat.le_of_ble_eq_true rfl) ⟨Nat.zero_le _, Nat.zero_le _⟩ dX6_placeOf_60 ?_
  cases h
  exact hret _ _ _ dX6_placeOf_63 rfl rfl
abbrev W_X6_roomsNextTo (E : GE) (O_t : Nat) (a_t : Nat → Nat) (t_size : Int32) (t_next : (Nat → Int32)) : va_W := [(O_t, ob_X6 a_t t_size), (a_t 0, .inl (E.2.1, 96, .inl t_next))]
def L_X6_roomsNextTo_5 (t_next : (Nat → Int32)) (x1 : Int32) (x2 : Int32) : Nat → Int32 × Int32 → Option (Int32) := lp fun go s => if (16 : Int32) ≤ s.2 then (some s.1) else if ((x1 >>> (s.2 &&& 31)) &&& (1 : Int32)) = 0 then (nm (s.2 + (1 : Int32)) fun v1 => go (s.1, v1)) else rd t_next 96 ((x2 * (16 : Int32)) + s.2) fun v2 => nm (s.1 ||| v2) fun v3 => nm (s.2 + (1 : Int32)) fun v4 => go (v3, v4)
def f_X6_roomsNextTo (t_next : (Nat → Int32)) (x1 : Int32) (x2 : Int32) : Option (Int32) := L_X6_roomsNextTo_5 t_next x1 x2 fu ((0 : Int32), (0 : Int32))
theorem dX6_roomsNextTo_0 : decode cX6_roomsNextTo 0 = .ok (.iconst 0, 1) := by decide +kernel
theorem dX6_roomsNextTo_1 : decode cX6_roomsNextTo 1 = .ok (.istore_n 3, 1) := by decide +kernel
theorem dX6_roomsNextTo_2 : decode cX6_roomsNextTo 2 = .ok (.iconst 0, 1) := by decide +kernel
theorem dX6_roomsNextTo_3 : decode cX6_roomsNextTo 3 = .ok (.istore 4, 2) := by decide +kernel
theorem dX6_roomsNextTo_5 : decode cX6_roomsNextTo 5 = .ok (.iload 4, 2) := by decide +kernel
theorem dX6_roomsNextTo_7 : decode cX6_roomsNextTo 7 = .ok (.bipush 16, 2) := by decide +kernel
theorem dX6_roomsNextTo_9 : decode cX6_roomsNextTo 9 = .ok (.if_icmp .ge 33, 3) := by decide +kernel
theorem dX6_roomsNextTo_12 : decode cX6_roomsNextTo 12 = .ok (.iload_n 1, 1) := by decide +kernel
theorem dX6_roomsNextTo_13 : decode cX6_roomsNextTo 13 = .ok (.iload 4, 2) := by decide +kernel
theorem dX6_roomsNextTo_15 : decode cX6_roomsNextTo 15 = .ok (.ishr, 1) := by decide +kernel
theorem dX6_roomsNextTo_16 : decode cX6_roomsNextTo 16 = .ok (.iconst 1, 1) := by decide +kernel
theorem dX6_roomsNextTo_17 : decode cX6_roomsNextTo 17 = .ok (.iand, 1) := by decide +kernel
theorem dX6_roomsNextTo_18 : decode cX6_roomsNextTo 18 = .ok (.ifCond .eq 18, 3) := by decide +kernel
theorem dX6_roomsNextTo_21 : decode cX6_roomsNextTo 21 = .ok (.iload_n 3, 1) := by decide +kernel
theorem dX6_roomsNextTo_22 : decode cX6_roomsNextTo 22 = .ok (.aload_n 0, 1) := by decide +kernel
theorem dX6_roomsNextTo_23 : decode cX6_roomsNextTo 23 = .ok (.getfield 9, 3) := by decide +kernel
theorem dX6_roomsNextTo_26 : decode cX6_roomsNextTo 26 = .ok (.iload_n 2, 1) := by decide +kernel
theorem dX6_roomsNextTo_27 : decode cX6_roomsNextTo 27 = .ok (.bipush 16, 2) := by decide +kernel
theorem dX6_roomsNextTo_29 : decode cX6_roomsNextTo 29 = .ok (.imul, 1) := by decide +kernel
theorem dX6_roomsNextTo_30 : decode cX6_roomsNextTo 30 = .ok (.iload 4, 2) := by decide +kernel
theorem dX6_roomsNextTo_32 : decode cX6_roomsNextTo 32 = .ok (.iadd, 1) := by decide +kernel
theorem dX6_roomsNextTo_33 : decode cX6_roomsNextTo 33 = .ok (.iaload, 1) := by decide +kernel
theorem dX6_roomsNextTo_34 : decode cX6_roomsNextTo 34 = .ok (.ior, 1) := by decide +kernel
theorem dX6_roomsNextTo_35 : decode cX6_roomsNextTo 35 = .ok (.istore_n 3, 1) := by decide +kernel
theorem dX6_roomsNextTo_36 : decode cX6_roomsNextTo 36 = .ok (.iinc 4 1, 3) := by decide +kernel
theorem dX6_roomsNextTo_39 : decode cX6_roomsNextTo 39 = .ok (.goto (-34), 3) := by decide +kernel
theorem dX6_roomsNextTo_42 : decode cX6_roomsNextTo 42 = .ok (.iload_n 3, 1) := by decide +kernel
theorem dX6_roomsNextTo_43 : decode cX6_roomsNextTo 43 = .ok (.ireturn, 1) := by decide +kernel
set_option maxHeartbeats 4000000 in
set_option maxRecDepth 100000 in
theorem kL_X6_roomsNextTo_5 {X : GC} {E : GE} (C : Cx X E cX6_roomsNextTo RX6 1 5) (o_t : Nat) (a_t : Nat → Nat) (t_size : Int32) (t_next : (Nat → Int32)) (x1 : Int32) (x2 : Int32) {r : Int32} (hret : RtI X E cX6_roomsNextTo .int 0 0 (fun w => w = (W_X6_roomsNextTo E o_t a_t t_size t_next)) r) : ∀ (n : Nat) (s : Int32 × Int32), L_X6_roomsNextTo_5 t_next x1 x2 n s = some r → Gx X E 0 0 (W_X6_roomsNextTo E o_t a_t t_size t_next) 5 [(0, .ref o_t), (1, .int x1), (2, .int x2), (3, .int s.1), (4, .int s.2)] [] := by
  unfold L_X6_roomsNextTo_5
  refine lp_ind _ (fun go ih s h => ?_)
  refine g_iload (pc := 5) C dX6_roomsNextTo_5 4 rfl ?_
  refine g_bipush (pc := 7) (v := 16) C dX6_roomsNextTo_7 (by decide) ?_
  refine g_icmp_ge (pc := 9) (tgt := 42) C dX6_roomsNextTo_9 (by decide) h (fun h => ?_) (fun h => ?_)
  · refine g_iload_n (pc := 42) C dX6_roomsNextTo_42 rfl 3 rfl ?_
    cases h
    exact hret _ _ _ dX6_roomsNextTo_43 rfl rfl
  · refine g_iload_n (pc := 12) C dX6_roomsNextTo_12 rfl 1 rfl ?_
    refine g_iload (pc := 13) C dX6_roomsNextTo_13 4 rfl ?_
    refine g_ishr (pc := 15) C dX6_roomsNextTo_15 ?_
    refine g_iconst (pc := 16) (v := 1) C dX6_roomsNextTo_16 (by decide) ?_
    refine g_iand (pc := 17) C dX6_roomsNextTo_17 ?_
    refine g_if_eq (pc := 18) (tgt := 36) C dX6_roomsNextTo_18 (by decide) h (fun h => ?_) (fun h => ?_)
    · refine g_iincn (pc := 36) (j := 4) (d := 1) (lv' := fun v1 => [(4, .int v1), (0, .ref o_t), (1, .int x1), (2, .int x2), (3, .int s.1)]) C dX6_roomsNextTo_36 rfl (by decide) (by decide) (fun _ => rfl) h (fun v1 h => ?_)
      refine g_goto (pc := 39) (tgt := 5) C dX6_roomsNextTo_39 (by decide) ?_
      refine g_sub [1, 2, 3, 4, 0] rfl ?_
      exact ih _ h
    · refine g_iload_n (pc := 21) C dX6_roomsNextTo_21 rfl 3 rfl ?_
      refine g_aload_n (pc := 22) C dX6_roomsNextTo_22 rfl 0 rfl ?_
      refine g_get (pc := 23) C fl_X6_9 dX6_roomsNextTo_23 0 rfl rfl ?_
      refine g_iload_n (pc := 26) C dX6_roomsNextTo_26 rfl 2 rfl ?_
      refine g_bipush (pc := 27) (v := 16) C dX6_roomsNextTo_27 (by decide) ?_
      refine g_imul (pc := 29) C dX6_roomsNextTo_29 ?_
      refine g_iload (pc := 30) C dX6_roomsNextTo_30 4 rfl ?_
      refine g_iadd (pc := 32) C dX6_roomsNextTo_32 ?_
      refine g_iald (pc := 33) C dX6_roomsNextTo_33 1 rfl h (fun v2 h => ?_)
      refine g_ior (pc := 34) C dX6_roomsNextTo_34 ?_
      refine g_nm h (fun v3 h => ?_)
      refine g_istore_n (pc := 35) (lv' := [(3, .int v3), (0, .ref o_t), (1, .int x1), (2, .int x2), (4, .int s.2)]) C dX6_roomsNextTo_35 rfl (by decide) rfl ?_
      refine g_iincn (pc := 36) (j := 4) (d := 1) (lv' := fun v4 => [(4, .int v4), (3, .int v3), (0, .ref o_t), (1, .int x1), (2, .int x2)]) C dX6_roomsNextTo_36 rfl (by decide) (by decide) (fun _ => rfl) h (fun v4 h => ?_)
      refine g_goto (pc := 39) (tgt := 5) C dX6_roomsNextTo_39 (by decide) ?_
      refine g_sub [2, 3, 4, 1, 0] rfl ?_
      exact ih _ h
set_option maxHeartbeats 4000000 in
set_option maxRecDepth 100000 in
theorem c_X6_roomsNextTo (l : Launch) (E : GE) (o_t : Nat) (a_t : Nat → Nat) (t_size : Int32) (t_next : (Nat → Int32)) (x1 : Int32) (x2 : Int32) (r : Int32) (h : f_X6_roomsNextTo t_next x1 x2 = some r) : Cn l E yX6_roomsNextTo cX6_roomsNextTo 5 (some .int) 1 0 0 [.ref o_t, .int x1, .int x2] (W_X6_roomsNextTo E o_t a_t t_size t_next) (fun w => w = (W_X6_roomsNextTo E o_t a_t t_size t_next)) (some (.int r)) := by
  refine Cn.ofI (by decide +kernel) (Nat.le_of_ble_eq_true rfl) (fun X hX hR C hret => ?_)
  subst hX
  show Gx X E 0 0 (W_X6_roomsNextTo E o_t a_t t_size t_next) 0 [(0, .ref o_t), (1, .int x1), (2, .int x2)] []
  unfold f_X6_roomsNextTo at h
  refine g_iconst (pc := 0) (v := 0) C dX6_roomsNextTo_0 (by decide) ?_
  refine g_istore_n (pc := 1) (lv' := [(3, .int (0 : Int32)), (0, .ref o_t), (1, .int x1), (2, .int x2)]) C dX6_roomsNextTo_1 rfl (by decide) rfl ?_
  refine g_iconst (pc := 2) (v := 0) C dX6_roomsNextTo_2 (by decide) ?_
  refine g_istore (pc := 3) (lv' := [(4, .int (0 : Int32)), (3, .int (0 : Int32)), (0, .ref o_t), (1, .int x1), (2, .int x2)]) C dX6_roomsNextTo_3 (by decide) rfl ?_
  refine g_sub [2, 3, 4, 1, 0] rfl ?_
  refine kL_X6_roomsNextTo_5 C o_t a_t t_size t_next x1 x2 hret  _ _ h
abbrev W_X6_fewestTo (E : GE) (O_t : Nat) (a_t : Nat → Nat) (t_size : Int32) (t_used : (Nat → Int32)) (t_rooms : (Nat → Int32)) : va_W := [(O_t, ob_X6 a_t t_size), (a_t 2, .inl (E.2.1, 924, .inl t_used)), (a_t 3, .inl (E.2.1, 924, .inl t_rooms))]
def L_X6_fewestTo_2 (t_size : Int32) (t_used : (Nat → Int32)) (t_rooms : (Nat → Int32)) (x1 : Int32) (k0 : Int32 → Option (Int32)) : Nat → Int32 → Option (Int32) := lp fun go s => if t_size ≤ s then (some (-1 : Int32)) else if (924 : Int32) ≤ s then (some (-1 : Int32)) else rd t_used 924 s fun v1 => (f_X6_placeOf v1).bind fun u2 => rd t_rooms 924 u2 fun v3 => if ((v3 >>> (x1 &&& 31)) &&& (1 : Int32)) = 0 then (nm (s + (1 : Int32)) fun v4 => go v4) else k0 s
def f_X6_fewestTo (t_size : Int32) (t_used : (Nat → Int32)) (t_rooms : (Nat → Int32)) (x1 : Int32) : Option (Int32) := L_X6_fewestTo_2 t_size t_used t_rooms x1 (fun s5 => rd t_used 924 s5 fun v6 => some (v6 >>> ((18 : Int32) &&& 31))) fu (0 : Int32)
theorem dX6_fewestTo_0 : decode cX6_fewestTo 0 = .ok (.iconst 0, 1) := by decide +kernel
theorem dX6_fewestTo_1 : decode cX6_fewestTo 1 = .ok (.istore_n 2, 1) := by decide +kernel
theorem dX6_fewestTo_2 : decode cX6_fewestTo 2 = .ok (.iload_n 2, 1) := by decide +kernel
theorem dX6_fewestTo_3 : decode cX6_fewestTo 3 = .ok (.aload_n 0, 1) := by decide +kernel
theorem dX6_fewestTo_4 : decode cX6_fewestTo 4 = .ok (.getfield 40, 3) := by decide +kernel
theorem dX6_fewestTo_7 : decode cX6_fewestTo 7 = .ok (.if_icmp .ge 47, 3) := by decide +kernel
theorem dX6_fewestTo_10 : decode cX6_fewestTo 10 = .ok (.iload_n 2, 1) := by decide +kernel
theorem dX6_fewestTo_11 : decode cX6_fewestTo 11 = .ok (.sipush 924, 3) := by decide +kernel
theorem dX6_fewestTo_14 : decode cX6_fewestTo 14 = .ok (.if_icmp .ge 40, 3) := by decide +kernel
theorem dX6_fewestTo_17 : decode cX6_fewestTo 17 = .ok (.aload_n 0, 1) := by decide +kernel
theorem dX6_fewestTo_18 : decode cX6_fewestTo 18 = .ok (.getfield 21, 3) := by decide +kernel
theorem dX6_fewestTo_21 : decode cX6_fewestTo 21 = .ok (.aload_n 0, 1) := by decide +kernel
theorem dX6_fewestTo_22 : decode cX6_fewestTo 22 = .ok (.getfield 18, 3) := by decide +kernel
theorem dX6_fewestTo_25 : decode cX6_fewestTo 25 = .ok (.iload_n 2, 1) := by decide +kernel
theorem dX6_fewestTo_26 : decode cX6_fewestTo 26 = .ok (.iaload, 1) := by decide +kernel
theorem dX6_fewestTo_27 : decode cX6_fewestTo 27 = .ok (.invokestatic 63, 3) := by decide +kernel
theorem dX6_fewestTo_30 : decode cX6_fewestTo 30 = .ok (.iaload, 1) := by decide +kernel
theorem dX6_fewestTo_31 : decode cX6_fewestTo 31 = .ok (.iload_n 1, 1) := by decide +kernel
theorem dX6_fewestTo_32 : decode cX6_fewestTo 32 = .ok (.ishr, 1) := by decide +kernel
theorem dX6_fewestTo_33 : decode cX6_fewestTo 33 = .ok (.iconst 1, 1) := by decide +kernel
theorem dX6_fewestTo_34 : decode cX6_fewestTo 34 = .ok (.iand, 1) := by decide +kernel
theorem dX6_fewestTo_35 : decode cX6_fewestTo 35 = .ok (.ifCond .eq 13, 3) := by decide +kernel
theorem dX6_fewestTo_38 : decode cX6_fewestTo 38 = .ok (.aload_n 0, 1) := by decide +kernel
theorem dX6_fewestTo_39 : decode cX6_fewestTo 39 = .ok (.getfield 18, 3) := by decide +kernel
theorem dX6_fewestTo_42 : decode cX6_fewestTo 42 = .ok (.iload_n 2, 1) := by decide +kernel
theorem dX6_fewestTo_43 : decode cX6_fewestTo 43 = .ok (.iaload, 1) := by decide +kernel
theorem dX6_fewestTo_44 : decode cX6_fewestTo 44 = .ok (.bipush 18, 2) := by decide +kernel
theorem dX6_fewestTo_46 : decode cX6_fewestTo 46 = .ok (.ishr, 1) := by decide +kernel
theorem dX6_fewestTo_47 : decode cX6_fewestTo 47 = .ok (.ireturn, 1) := by decide +kernel
theorem dX6_fewestTo_48 : decode cX6_fewestTo 48 = .ok (.iinc 2 1, 3) := by decide +kernel
theorem dX6_fewestTo_51 : decode cX6_fewestTo 51 = .ok (.goto (-49), 3) := by decide +kernel
theorem dX6_fewestTo_54 : decode cX6_fewestTo 54 = .ok (.iconst (-1), 1) := by decide +kernel
theorem dX6_fewestTo_55 : decode cX6_fewestTo 55 = .ok (.ireturn, 1) := by decide +kernel
set_option maxHeartbeats 4000000 in
set_option maxRecDepth 100000 in
theorem kL_X6_fewestTo_2 {X : GC} {E : GE} (C : Cx X E cX6_fewestTo RX6 2 3) (o_t : Nat) (a_t : Nat → Nat) (t_size : Int32) (t_used : (Nat → Int32)) (t_rooms : (Nat → Int32)) (x1 : Int32) (k0 : Int32 → Option (Int32)) {r : Int32} (hret : RtI X E cX6_fewestTo .int 0 0 (fun w => w = (W_X6_fewestTo E o_t a_t t_size t_used t_rooms)) r) (hk0 : ∀ u, k0 u = some r → Gx X E 0 0 (W_X6_fewestTo E o_t a_t t_size t_used t_rooms) 38 [(0, .ref o_t), (2, .int u)] []) : ∀ (n : Nat) (s : Int32), L_X6_fewestTo_2 t_size t_used t_rooms x1 k0 n s = some r → Gx X E 0 0 (W_X6_fewestTo E o_t a_t t_size t_used t_rooms) 2 [(0, .ref o_t), (1, .int x1), (2, .int s)] [] := by
  unfold L_X6_fewestTo_2
  refine lp_ind _ (fun go ih s h => ?_)
  refine g_iload_n (pc := 2) C dX6_fewestTo_2 rfl 2 rfl ?_
  refine g_aload_n (pc := 3) C dX6_fewestTo_3 rfl 0 rfl ?_
  refine g_get (pc := 4) C fl_X6_40 dX6_fewestTo_4 0 rfl rfl ?_
  refine g_icmp_ge (pc := 7) (tgt := 54) C dX6_fewestTo_7 (by decide) h (fun h => ?_) (fun h => ?_)
  · refine g_iconst (pc := 54) (v := -1) C dX6_fewestTo_54 (by decide) ?_
    cases h
    exact hret _ _ _ dX6_fewestTo_55 rfl rfl
  · refine g_iload_n (pc := 10) C dX6_fewestTo_10 rfl 2 rfl ?_
    refine g_sipush (pc := 11) (v := 924) C dX6_fewestTo_11 (by decide) ?_
    refine g_icmp_ge (pc := 14) (tgt := 54) C dX6_fewestTo_14 (by decide) h (fun h => ?_) (fun h => ?_)
    · refine g_iconst (pc := 54) (v := -1) C dX6_fewestTo_54 (by decide) ?_
      cases h
      exact hret _ _ _ dX6_fewestTo_55 rfl rfl
    · refine g_aload_n (pc := 17) C dX6_fewestTo_17 rfl 0 rfl ?_
      refine g_get (pc := 18) C fl_X6_21 dX6_fewestTo_18 0 rfl rfl ?_
      refine g_aload_n (pc := 21) C dX6_fewestTo_21 rfl 0 rfl ?_
      refine g_get (pc := 22) C fl_X6_18 dX6_fewestTo_22 0 rfl rfl ?_
      refine g_iload_n (pc := 25) C dX6_fewestTo_25 rfl 2 rfl ?_
      refine g_iald (pc := 26) C dX6_fewestTo_26 1 rfl h (fun v1 h => ?_)
      obtain ⟨u2, hu2, h⟩ := bs h
      refine g_callS (pc := 27) (st := [.ref (a_t 3)]) (st1 := [.int u2, .ref (a_t 3)]) (ws' := (W_X6_fewestTo E o_t a_t t_size t_used t_rooms)) C mv_X6_placeOf ms_X6_placeOf ml_X6_63 (c_X6_placeOf X.2.1 E v1 u2 hu2) dX6_fewestTo_27 (by decide) rfl (Nat.le_of_ble_eq_true rfl) [] rfl (by decide) rfl rfl rfl rfl ?_
      refine g_iald (pc := 30) C dX6_fewestTo_30 2 rfl h (fun v3 h => ?_)
      refine g_iload_n (pc := 31) C dX6_fewestTo_31 rfl 1 rfl ?_
      refine g_ishr (pc := 32) C dX6_fewestTo_32 ?_
      refine g_iconst (pc := 33) (v := 1) C dX6_fewestTo_33 (by decide) ?_
      refine g_iand (pc := 34) C dX6_fewestTo_34 ?_
      refine g_if_eq (pc := 35) (tgt := 48) C dX6_fewestTo_35 (by decide) h (fun h => ?_) (fun h => ?_)
      · refine g_iincn (pc := 48) (j := 2) (d := 1) (lv' := fun v4 => [(2, .int v4), (0, .ref o_t), (1, .int x1)]) C dX6_fewestTo_48 rfl (by decide) (by decide) (fun _ => rfl) h (fun v4 h => ?_)
        refine g_goto (pc := 51) (tgt := 2) C dX6_fewestTo_51 (by decide) ?_
        refine g_sub [1, 2, 0] rfl ?_
        exact ih _ h
      · refine g_sub [0, 2] rfl ?_
        exact hk0 _ h
set_option maxHeartbeats 4000000 in
set_option maxRecDepth 100000 in
theorem c_X6_fewestTo (l : Launch) (E : GE) (o_t : Nat) (a_t : Nat → Nat) (t_size : Int32) (t_used : (Nat → Int32)) (t_rooms : (Nat → Int32)) (x1 : Int32) (r : Int32) (h : f_X6_fewestTo t_size t_used t_rooms x1 = some r) : Cn l E yX6_fewestTo cX6_fewestTo 3 (some .int) 2 0 0 [.ref o_t, .int x1] (W_X6_fewestTo E o_t a_t t_size t_used t_rooms) (fun w => w = (W_X6_fewestTo E o_t a_t t_size t_used t_rooms)) (some (.int r)) := by
  refine Cn.ofI (by decide +kernel) (Nat.le_of_ble_eq_true rfl) (fun X hX hR C hret => ?_)
  subst hX
  show Gx X E 0 0 (W_X6_fewestTo E o_t a_t t_size t_used t_rooms) 0 [(0, .ref o_t), (1, .int x1)] []
  unfold f_X6_fewestTo at h
  refine g_iconst (pc := 0) (v := 0) C dX6_fewestTo_0 (by decide) ?_
  refine g_istore_n (pc := 1) (lv' := [(2, .int (0 : Int32)), (0, .ref o_t), (1, .int x1)]) C dX6_fewestTo_1 rfl (by decide) rfl ?_
  refine g_sub [1, 2, 0] rfl ?_
  refine kL_X6_fewestTo_2 C o_t a_t t_size t_used t_rooms x1 _ hret (fun s5 h => ?_) _ _ h
  refine g_aload_n (pc := 38) C dX6_fewestTo_38 rfl 0 rfl ?_
  refine g_get (pc := 39) C fl_X6_18 dX6_fewestTo_39 0 rfl rfl ?_
  refine g_iload_n (pc := 42) C dX6_fewestTo_42 rfl 1 rfl ?_
  refine g_iald (pc := 43) C dX6_fewestTo_43 1 rfl h (fun v6 h => ?_)
  refine g_bipush (pc := 44) (v := 18) C dX6_fewestTo_44 (by decide) ?_
  refine g_ishr (pc := 46) C dX6_fewestTo_46 ?_
  cases h
  exact hret _ _ _ dX6_fewestTo_47 rfl rfl
abbrev W_X6_goOn (E : GE) (O_t : Nat) (a_t : Nat → Nat) (t_size : Int32) (t_next : (Nat → Int32)) (t_left : (Nat → Int32)) (t_used : (Nat → Int32)) (t_rooms : (Nat → Int32)) : va_W := [(O_t, ob_X6 a_t t_size), (a_t 0, .inl (E.2.1, 96, .inl t_next)), (a_t 1, .inl (E.2.1, 6, .inl t_left)), (a_t 2, .inl (E.2.1, 924, .inl t_used)), (a_t 3, .inl (E.2.1, 924, .inl t_rooms))]
def L_X6_goOn_19 (t_next : (Nat → Int32)) (t_left : (Nat → Int32)) (x1 : Int32) (x2 : Int32) (x3 : Int32) : Nat → Int32 × Int32 × (Nat → Int32) × (Nat → Int32) → Option (Int32 × (Nat → Int32) × (Nat → Int32)) := lp fun go s => if (6 : Int32) ≤ s.1 then (some (s.2.1, s.2.2.1, s.2.2.2)) else jn (fun s4 : Int32 => if s4 = 0 then (nm (s.1 + (1 : Int32)) fun v5 => go (v5, s.2.1, s.2.2.1, s.2.2.2)) else nm ((x1 + ((1 : Int32) <<< (((3 : Int32) * s.1) &&& 31))) + (262144 : Int32)) fun v6 => (f_X6_placeOf v6).bind fun u7 => rd s.2.2.2 924 u7 fun v8 => jn (fun s9 : Int32 × (Nat → Int32) => rd s.2.2.2 924 u7 fun v10 => wr s.2.2.2 924 u7 (v10 ||| s4) fun g11 => nm (s.1 + (1 : Int32)) fun v12 => go (v12, s9.1, s9.2, g11)) fun j114 => if v8 = 0 then (if (924 : Int32) ≤ s.2.1 then (j114 (s.2.1, s.2.2.1)) else wr s.2.2.1 924 s.2.1 v6 fun g13 => nm (s.2.1 + (1 : Int32)) fun v14 => j114 (v14, g13)) else j114 (s.2.1, s.2.2.1)) fun j46 => if ((x3 >>> (s.1 &&& 31)) &&& (1 : Int32)) = 0 then (j46 (0 : Int32)) else (f_X6_roomsNextTo t_next x2 s.1).bind fun u15 => j46 u15
def f_X6_goOn (t_size : Int32) (t_next : (Nat → Int32)) (t_left : (Nat → Int32)) (t_used : (Nat → Int32)) (t_rooms : (Nat → Int32)) (x1 : Int32) : Option (Int32 × (Nat → Int32) × (Nat → Int32)) := (f_X6_placeOf x1).bind fun u1 => rd t_rooms 924 u1 fun v2 => (f_X6_freeKinds t_left x1).bind fun u3 => L_X6_goOn_19 t_next t_left x1 v2 u3 fu ((0 : Int32), t_size, t_used, t_rooms)
theorem dX6_goOn_0 : decode cX6_goOn 0 = .ok (.aload_n 0, 1) := by decide +kernel
theorem dX6_goOn_1 : decode cX6_goOn 1 = .ok (.getfield 21, 3) := by decide +kernel
theorem dX6_goOn_4 : decode cX6_goOn 4 = .ok (.iload_n 1, 1) := by decide +kernel
theorem dX6_goOn_5 : decode cX6_goOn 5 = .ok (.invokestatic 63, 3) := by decide +kernel
theorem dX6_goOn_8 : decode cX6_goOn 8 = .ok (.iaload, 1) := by decide +kernel
theorem dX6_goOn_9 : decode cX6_goOn 9 = .ok (.istore_n 2, 1) := by decide +kernel
theorem dX6_goOn_10 : decode cX6_goOn 10 = .ok (.aload_n 0, 1) := by decide +kernel
theorem dX6_goOn_11 : decode cX6_goOn 11 = .ok (.iload_n 1, 1) := by decide +kernel
theorem dX6_goOn_12 : decode cX6_goOn 12 = .ok (.invokevirtual 67, 3) := by decide +kernel
theorem dX6_goOn_15 : decode cX6_goOn 15 = .ok (.istore_n 3, 1) := by decide +kernel
theorem dX6_goOn_16 : decode cX6_goOn 16 = .ok (.iconst 0, 1) := by decide +kernel
theorem dX6_goOn_17 : decode cX6_goOn 17 = .ok (.istore 4, 2) := by decide +kernel
theorem dX6_goOn_19 : decode cX6_goOn 19 = .ok (.iload 4, 2) := by decide +kernel
theorem dX6_goOn_21 : decode cX6_goOn 21 = .ok (.bipush 6, 2) := by decide +kernel
theorem dX6_goOn_23 : decode cX6_goOn 23 = .ok (.if_icmp .ge 109, 3) := by decide +kernel
theorem dX6_goOn_26 : decode cX6_goOn 26 = .ok (.iload_n 3, 1) := by decide +kernel
theorem dX6_goOn_27 : decode cX6_goOn 27 = .ok (.iload 4, 2) := by decide +kernel
theorem dX6_goOn_29 : decode cX6_goOn 29 = .ok (.ishr, 1) := by decide +kernel
theorem dX6_goOn_30 : decode cX6_goOn 30 = .ok (.iconst 1, 1) := by decide +kernel
theorem dX6_goOn_31 : decode cX6_goOn 31 = .ok (.iand, 1) := by decide +kernel
theorem dX6_goOn_32 : decode cX6_goOn 32 = .ok (.ifCond .eq 13, 3) := by decide +kernel
theorem dX6_goOn_35 : decode cX6_goOn 35 = .ok (.aload_n 0, 1) := by decide +kernel
theorem dX6_goOn_36 : decode cX6_goOn 36 = .ok (.iload_n 2, 1) := by decide +kernel
theorem dX6_goOn_37 : decode cX6_goOn 37 = .ok (.iload 4, 2) := by decide +kernel
theorem dX6_goOn_39 : decode cX6_goOn 39 = .ok (.invokevirtual 70, 3) := by decide +kernel
theorem dX6_goOn_42 : decode cX6_goOn 42 = .ok (.goto 4, 3) := by decide +kernel
theorem dX6_goOn_45 : decode cX6_goOn 45 = .ok (.iconst 0, 1) := by decide +kernel
theorem dX6_goOn_46 : decode cX6_goOn 46 = .ok (.istore 5, 2) := by decide +kernel
theorem dX6_goOn_48 : decode cX6_goOn 48 = .ok (.iload 5, 2) := by decide +kernel
theorem dX6_goOn_50 : decode cX6_goOn 50 = .ok (.ifCond .eq 76, 3) := by decide +kernel
theorem dX6_goOn_53 : decode cX6_goOn 53 = .ok (.iload_n 1, 1) := by decide +kernel
theorem dX6_goOn_54 : decode cX6_goOn 54 = .ok (.iconst 1, 1) := by decide +kernel
theorem dX6_goOn_55 : decode cX6_goOn 55 = .ok (.iconst 3, 1) := by decide +kernel
theorem dX6_goOn_56 : decode cX6_goOn 56 = .ok (.iload 4, 2) := by decide +kernel
theorem dX6_goOn_58 : decode cX6_goOn 58 = .ok (.imul, 1) := by decide +kernel
theorem dX6_goOn_59 : decode cX6_goOn 59 = .ok (.ishl, 1) := by decide +kernel
theorem dX6_goOn_60 : decode cX6_goOn 60 = .ok (.iadd, 1) := by decide +kernel
theorem dX6_goOn_61 : decode cX6_goOn 61 = .ok (.ldc 73, 2) := by decide +kernel
theorem dX6_goOn_63 : decode cX6_goOn 63 = .ok (.iadd, 1) := by decide +kernel
theorem dX6_goOn_64 : decode cX6_goOn 64 = .ok (.istore 6, 2) := by decide +kernel
theorem dX6_goOn_66 : decode cX6_goOn 66 = .ok (.iload 6, 2) := by decide +kernel
theorem dX6_goOn_68 : decode cX6_goOn 68 = .ok (.invokestatic 63, 3) := by decide +kernel
theorem dX6_goOn_71 : decode cX6_goOn 71 = .ok (.istore 7, 2) := by decide +kernel
theorem dX6_goOn_73 : decode cX6_goOn 73 = .ok (.aload_n 0, 1) := by decide +kernel
theorem dX6_goOn_74 : decode cX6_goOn 74 = .ok (.getfield 21, 3) := by decide +kernel
theorem dX6_goOn_77 : decode cX6_goOn 77 = .ok (.iload 7, 2) := by decide +kernel
theorem dX6_goOn_79 : decode cX6_goOn 79 = .ok (.iaload, 1) := by decide +kernel
theorem dX6_goOn_80 : decode cX6_goOn 80 = .ok (.ifCond .ne 34, 3) := by decide +kernel
theorem dX6_goOn_83 : decode cX6_goOn 83 = .ok (.aload_n 0, 1) := by decide +kernel
theorem dX6_goOn_84 : decode cX6_goOn 84 = .ok (.getfield 40, 3) := by decide +kernel
theorem dX6_goOn_87 : decode cX6_goOn 87 = .ok (.sipush 924, 3) := by decide +kernel
theorem dX6_goOn_90 : decode cX6_goOn 90 = .ok (.if_icmp .ge 24, 3) := by decide +kernel
theorem dX6_goOn_93 : decode cX6_goOn 93 = .ok (.aload_n 0, 1) := by decide +kernel
theorem dX6_goOn_94 : decode cX6_goOn 94 = .ok (.getfield 18, 3) := by decide +kernel
theorem dX6_goOn_97 : decode cX6_goOn 97 = .ok (.aload_n 0, 1) := by decide +kernel
theorem dX6_goOn_98 : decode cX6_goOn 98 = .ok (.getfield 40, 3) := by decide +kernel
theorem dX6_goOn_101 : decode cX6_goOn 101 = .ok (.iload 6, 2) := by decide +kernel
theorem dX6_goOn_103 : decode cX6_goOn 103 = .ok (.iastore, 1) := by decide +kernel
theorem dX6_goOn_104 : decode cX6_goOn 104 = .ok (.aload_n 0, 1) := by decide +kernel
theorem dX6_goOn_105 : decode cX6_goOn 105 = .ok (.dup, 1) := by decide +kernel
theorem dX6_goOn_106 : decode cX6_goOn 106 = .ok (.getfield 40, 3) := by decide +kernel
theorem dX6_goOn_109 : decode cX6_goOn 109 = .ok (.iconst 1, 1) := by decide +kernel
theorem dX6_goOn_110 : decode cX6_goOn 110 = .ok (.iadd, 1) := by decide +kernel
theorem dX6_goOn_111 : decode cX6_goOn 111 = .ok (.putfield 40, 3) := by decide +kernel
theorem dX6_goOn_114 : decode cX6_goOn 114 = .ok (.aload_n 0, 1) := by decide +kernel
theorem dX6_goOn_115 : decode cX6_goOn 115 = .ok (.getfield 21, 3) := by decide +kernel
theorem dX6_goOn_118 : decode cX6_goOn 118 = .ok (.iload 7, 2) := by decide +kernel
theorem dX6_goOn_120 : decode cX6_goOn 120 = .ok (.dup2, 1) := by decide +kernel
theorem dX6_goOn_121 : decode cX6_goOn 121 = .ok (.iaload, 1) := by decide +kernel
theorem dX6_goOn_122 : decode cX6_goOn 122 = .ok (.iload 5, 2) := by decide +kernel
theorem dX6_goOn_124 : decode cX6_goOn 124 = .ok (.ior, 1) := by decide +kernel
theorem dX6_goOn_125 : decode cX6_goOn 125 = .ok (.iastore, 1) := by decide +kernel
theorem dX6_goOn_126 : decode cX6_goOn 126 = .ok (.iinc 4 1, 3) := by decide +kernel
theorem dX6_goOn_129 : decode cX6_goOn 129 = .ok (.goto (-110), 3) := by decide +kernel
theorem dX6_goOn_132 : decode cX6_goOn 132 = .ok (.return_, 1) := by decide +kernel
set_option maxHeartbeats 4000000 in
set_option maxRecDepth 100000 in
theorem kL_X6_goOn_19 {X : GC} {E : GE} (C : Cx X E cX6_goOn RX6 2 8) (o_t : Nat) (a_t : Nat → Nat) (t_next : (Nat → Int32)) (t_left : (Nat → Int32)) (x1 : Int32) (x2 : Int32) (x3 : Int32) {r : Int32 × (Nat → Int32) × (Nat → Int32)} (hret : RtV X E cX6_goOn 0 0 (fun w => w = (W_X6_goOn E o_t a_t r.1 t_next t_left r.2.1 r.2.2))) : ∀ (n : Nat) (s : Int32 × Int32 × (Nat → Int32) × (Nat → Int32)), L_X6_goOn_19 t_next t_left x1 x2 x3 n s = some r → Gx X E 0 0 (W_X6_goOn E o_t a_t s.2.1 t_next t_left s.2.2.1 s.2.2.2) 19 [(0, .ref o_t), (1, .int x1), (2, .int x2), (3, .int x3), (4, .int s.1)] [] := by
  unfold L_X6_goOn_19
  refine lp_ind _ (fun go ih s h => ?_)
  refine g_iload (pc := 19) C dX6_goOn_19 4 rfl ?_
  refine g_bipush (pc := 21) (v := 6) C dX6_goOn_21 (by decide) ?_
  refine g_icmp_ge (pc := 23) (tgt := 132) C dX6_goOn_23 (by decide) h (fun h => ?_) (fun h => ?_)
  · cases h
    exact hret _ _ _ dX6_goOn_132 rfl
  · refine g_iload_n (pc := 26) C dX6_goOn_26 rfl 3 rfl ?_
    refine g_iload (pc := 27) C dX6_goOn_27 4 rfl ?_
    refine g_ishr (pc := 29) C dX6_goOn_29 ?_
    refine g_iconst (pc := 30) (v := 1) C dX6_goOn_30 (by decide) ?_
    refine g_iand (pc := 31) C dX6_goOn_31 ?_
    refine g_jn (fun s4 : Int32 => Gx X E 0 0 (W_X6_goOn E o_t a_t s.2.1 t_next t_left s.2.2.1 s.2.2.2) 46 [(0, .ref o_t), (1, .int x1), (2, .int x2), (3, .int x3), (4, .int s.1)] [.int s4]) h (fun s4 h => ?_) (fun j46 hj46 h => ?_)
    · refine g_istore (pc := 46) (lv' := [(5, .int s4), (0, .ref o_t), (1, .int x1), (2, .int x2), (3, .int x3), (4, .int s.1)]) C dX6_goOn_46 (by decide) rfl ?_
      refine g_iload (pc := 48) C dX6_goOn_48 0 rfl ?_
      refine g_if_eq (pc := 50) (tgt := 126) C dX6_goOn_50 (by decide) h (fun h => ?_) (fun h => ?_)
      · refine g_iincn (pc := 126) (j := 5) (d := 1) (lv' := fun v5 => [(4, .int v5), (5, .int s4), (0, .ref o_t), (1, .int x1), (2, .int x2), (3, .int x3)]) C dX6_goOn_126 rfl (by decide) (by decide) (fun _ => rfl) h (fun v5 h => ?_)
        refine g_goto (pc := 129) (tgt := 19) C dX6_goOn_129 (by decide) ?_
        refine g_sub [2, 3, 4, 5, 0] rfl ?_
        exact ih _ h
      · refine g_iload_n (pc := 53) C dX6_goOn_53 rfl 2 rfl ?_
        refine g_iconst (pc := 54) (v := 1) C dX6_goOn_54 (by decide) ?_
        refine g_iconst (pc := 55) (v := 3) C dX6_goOn_55 (by decide) ?_
        refine g_iload (pc := 56) C dX6_goOn_56 5 rfl ?_
        refine g_imul (pc := 58) C dX6_goOn_58 ?_
        refine g_ishl (pc := 59) C dX6_goOn_59 ?_
        refine g_iadd (pc := 60) C dX6_goOn_60 ?_
        refine g_ldc (pc := 61) C dX6_goOn_61 ct_X6_73 ?_
        refine g_iadd (pc := 63) C dX6_goOn_63 ?_
        refine g_nm h (fun v6 h => ?_)
        refine g_istore (pc := 64) (lv' := [(6, .int v6), (5, .int s4), (0, .ref o_t), (1, .int x1), (2, .int x2), (3, .int x3), (4, .int s.1)]) C dX6_goOn_64 (by decide) rfl ?_
        refine g_iload (pc := 66) C dX6_goOn_66 0 rfl ?_
        obtain ⟨u7, hu7, h⟩ := bs h
        refine g_callS (pc := 68) (st := []) (st1 := [.int u7]) (ws' := (W_X6_goOn E o_t a_t s.2.1 t_next t_left s.2.2.1 s.2.2.2)) C mv_X6_placeOf ms_X6_placeOf ml_X6_63 (c_X6_placeOf X.2.1 E v6 u7 hu7) dX6_goOn_68 (by decide) rfl (Nat.le_of_ble_eq_true rfl) [] rfl (by decide) rfl rfl rfl rfl ?_
        refine g_istore (pc := 71) (lv' := [(7, .int u7), (6, .int v6), (5, .int s4), (0, .ref o_t), (1, .int x1), (2, .int x2), (3, .int x3), (4, .int s.1)]) C dX6_goOn_71 (by decide) rfl ?_
        refine g_aload_n (pc := 73) C dX6_goOn_73 rfl 3 rfl ?_
        refine g_get (pc := 74) C fl_X6_21 dX6_goOn_74 0 rfl rfl ?_
        refine g_iload (pc := 77) C dX6_goOn_77 0 rfl ?_
        refine g_iald (pc := 79) C dX6_goOn_79 4 rfl h (fun v8 h => ?_)
        refine g_jn (fun s9 : Int32 × (Nat → Int32) => Gx X E 0 0 (W_X6_goOn E o_t a_t s9.1 t_next t_left s9.2 s.2.2.2) 114 [(0, .ref o_t), (1, .int x1), (2, .int x2), (3, .int x3), (4, .int s.1), (5, .int s4), (7, .int u7)] []) h (fun s9 h => ?_) (fun j114 hj114 h => ?_)
        · refine g_aload_n (pc := 114) C dX6_goOn_114 rfl 0 rfl ?_
          refine g_get (pc := 115) C fl_X6_21 dX6_goOn_115 0 rfl rfl ?_
          refine g_iload (pc := 118) C dX6_goOn_118 6 rfl ?_
          refine g_dup2 (pc := 120) C dX6_goOn_120 rfl rfl ?_
          refine g_iald (pc := 121) C dX6_goOn_121 4 rfl h (fun v10 h => ?_)
          refine g_iload (pc := 122) C dX6_goOn_122 5 rfl ?_
          refine g_ior (pc := 124) C dX6_goOn_124 ?_
          refine g_iast (pc := 125) C dX6_goOn_125 4 rfl h (fun g11 h => ?_)
          refine g_ws (ws' := (W_X6_goOn E o_t a_t s9.1 t_next t_left s9.2 g11)) rfl ?_
          refine g_iincn (pc := 126) (j := 4) (d := 1) (lv' := fun v12 => [(4, .int v12), (0, .ref o_t), (1, .int x1), (2, .int x2), (3, .int x3), (5, .int s4), (7, .int u7)]) C dX6_goOn_126 rfl (by decide) (by decide) (fun _ => rfl) h (fun v12 h => ?_)
          refine g_goto (pc := 129) (tgt := 19) C dX6_goOn_129 (by decide) ?_
          refine g_sub [1, 2, 3, 4, 0] rfl ?_
          exact ih _ h
        refine g_if_ne (pc := 80) (tgt := 114) C dX6_goOn_80 (by decide) h (fun h => ?_) (fun h => ?_)
        · refine g_sub [3, 4, 5, 6, 7, 2, 0] rfl ?_
          exact hj114 _ h
        · refine g_aload_n (pc := 83) C dX6_goOn_83 rfl 3 rfl ?_
          refine g_get (pc := 84) C fl_X6_40 dX6_goOn_84 0 rfl rfl ?_
          refine g_sipush (pc := 87) (v := 924) C dX6_goOn_87 (by decide) ?_
          refine g_icmp_ge (pc := 90) (tgt := 114) C dX6_goOn_90 (by decide) h (fun h => ?_) (fun h => ?_)
          · refine g_sub [3, 4, 5, 6, 7, 2, 0] rfl ?_
            exact hj114 _ h
          · refine g_aload_n (pc := 93) C dX6_goOn_93 rfl 3 rfl ?_
            refine g_get (pc := 94) C fl_X6_18 dX6_goOn_94 0 rfl rfl ?_
            refine g_aload_n (pc := 97) C dX6_goOn_97 rfl 3 rfl ?_
            refine g_get (pc := 98) C fl_X6_40 dX6_goOn_98 0 rfl rfl ?_
            refine g_iload (pc := 101) C dX6_goOn_101 1 rfl ?_
            refine g_iast (pc := 103) C dX6_goOn_103 3 rfl h (fun g13 h => ?_)
            refine g_ws (ws' := (W_X6_goOn E o_t a_t s.2.1 t_next t_left g13 s.2.2.2)) rfl ?_
            refine g_aload_n (pc := 104) C dX6_goOn_104 rfl 3 rfl ?_
            refine g_dup (pc := 105) C dX6_goOn_105 rfl ?_
            refine g_get (pc := 106) C fl_X6_40 dX6_goOn_106 0 rfl rfl ?_
            refine g_iconst (pc := 109) (v := 1) C dX6_goOn_109 (by decide) ?_
            refine g_iadd (pc := 110) C dX6_goOn_110 ?_
            refine g_nm h (fun v14 h => ?_)
            refine g_put (pc := 111) (ws' := (W_X6_goOn E o_t a_t v14 t_next t_left g13 s.2.2.2)) C .int fl_X6_40 dX6_goOn_111 0 rfl (by decide +kernel) rfl rfl (Nat.le_of_ble_eq_true rfl) rfl ?_
            refine g_sub [3, 4, 5, 6, 7, 2, 0] rfl ?_
            exact hj114 _ h
    refine g_if_eq (pc := 32) (tgt := 45) C dX6_goOn_32 (by decide) h (fun h => ?_) (fun h => ?_)
    · refine g_iconst (pc := 45) (v := 0) C dX6_goOn_45 (by decide) ?_
      exact hj46 _ h
    · refine g_aload_n (pc := 35) C dX6_goOn_35 rfl 0 rfl ?_
      refine g_iload_n (pc := 36) C dX6_goOn_36 rfl 2 rfl ?_
      refine g_iload (pc := 37) C dX6_goOn_37 4 rfl ?_
      obtain ⟨u15, hu15, h⟩ := bs h
      refine g_callV (pc := 39) (st := []) (st1 := [.int u15]) (ws' := (W_X6_goOn E o_t a_t s.2.1 t_next t_left s.2.2.1 s.2.2.2)) C mv_X6_roomsNextTo mi_X6_roomsNextTo ml_X6_70 (c_X6_roomsNextTo X.2.1 E o_t a_t s.2.1 t_next x2 s.1 u15 hu15) dX6_goOn_39 (by decide) rfl (Nat.le_of_ble_eq_true rfl) 0 5 rfl rfl [0, 1] rfl (by decide) rfl rfl rfl rfl ?_
      refine g_goto (pc := 42) (tgt := 46) C dX6_goOn_42 (by decide) ?_
      exact hj46 _ h
set_option maxHeartbeats 4000000 in
set_option maxRecDepth 100000 in
theorem c_X6_goOn (l : Launch) (E : GE) (o_t : Nat) (a_t : Nat → Nat) (t_size : Int32) (t_next : (Nat → Int32)) (t_left : (Nat → Int32)) (t_used : (Nat → Int32)) (t_rooms : (Nat → Int32)) (x1 : Int32) (r : Int32 × (Nat → Int32) × (Nat → Int32)) (h : f_X6_goOn t_size t_next t_left t_used t_rooms x1 = some r) : Cn l E yX6_goOn cX6_goOn 8 none 2 0 0 [.ref o_t, .int x1] (W_X6_goOn E o_t a_t t_size t_next t_left t_used t_rooms) (fun w => w = (W_X6_goOn E o_t a_t r.1 t_next t_left r.2.1 r.2.2)) none := by
  refine Cn.ofV (by decide +kernel) (Nat.le_of_ble_eq_true rfl) (fun X hX hR C hret => ?_)
  subst hX
  show Gx X E 0 0 (W_X6_goOn E o_t a_t t_size t_next t_left t_used t_rooms) 0 [(0, .ref o_t), (1, .int x1)] []
  unfold f_X6_goOn at h
  refine g_aload_n (pc := 0) C dX6_goOn_0 rfl 0 rfl ?_
  refine g_get (pc := 1) C fl_X6_21 dX6_goOn_1 0 rfl rfl ?_
  refine g_iload_n (pc := 4) C dX6_goOn_4 rfl 1 rfl ?_
  obtain ⟨u1, hu1, h⟩ := bs h
  refine g_callS (pc := 5) (st := [.ref (a_t 3)]) (st1 := [.int u1, .ref (a_t 3)]) (ws' := (W_X6_goOn E o_t a_t t_size t_next t_left t_used t_rooms)) C mv_X6_placeOf ms_X6_placeOf ml_X6_63 (c_X6_placeOf X.2.1 E x1 u1 hu1) dX6_goOn_5 (by decide) rfl (Nat.le_of_ble_eq_true rfl) [] rfl (by decide) rfl rfl rfl rfl ?_
  refine g_iald (pc := 8) C dX6_goOn_8 4 rfl h (fun v2 h => ?_)
  refine g_istore_n (pc := 9) (lv' := [(2, .int v2), (0, .ref o_t), (1, .int x1)]) C dX6_goOn_9 rfl (by decide) rfl ?_
  refine g_aload_n (pc := 10) C dX6_goOn_10 rfl 1 rfl ?_
  refine g_iload_n (pc := 11) C dX6_goOn_11 rfl 2 rfl ?_
  obtain ⟨u3, hu3, h⟩ := bs h
  refine g_callV (pc := 12) (st := []) (st1 := [.int u3]) (ws' := (W_X6_goOn E o_t a_t t_size t_next t_left t_used t_rooms)) C mv_X6_freeKinds mi_X6_freeKinds ml_X6_67 (c_X6_freeKinds X.2.1 E o_t a_t t_size t_left x1 u3 hu3) dX6_goOn_12 (by decide) rfl (Nat.le_of_ble_eq_true rfl) 0 5 rfl rfl [0, 2] rfl (by decide) rfl rfl rfl rfl ?_
  refine g_istore_n (pc := 15) (lv' := [(3, .int u3), (2, .int v2), (0, .ref o_t), (1, .int x1)]) C dX6_goOn_15 rfl (by decide) rfl ?_
  refine g_iconst (pc := 16) (v := 0) C dX6_goOn_16 (by decide) ?_
  refine g_istore (pc := 17) (lv' := [(4, .int (0 : Int32)), (3, .int u3), (2, .int v2), (0, .ref o_t), (1, .int x1)]) C dX6_goOn_17 (by decide) rfl ?_
  refine g_sub [3, 4, 2, 1, 0] rfl ?_
  refine kL_X6_goOn_19 C o_t a_t t_next t_left x1 v2 u3 hret  _ _ h
abbrev W_X6_joinRooms (E : GE) (O_t : Nat) (a_t : Nat → Nat) (O_p1 : Nat) (a_p1 : Nat → Nat) (t_size : Int32) (t_next : (Nat → Int32)) (p1_told : Int32) (p1_barred : Int32) (p1_one : (Nat → Int32)) (p1_other : (Nat → Int32)) (p1_fits : (Nat → Int32)) : va_W := [(O_t, ob_X6 a_t t_size), (a_t 0, .inl (E.2.1, 96, .inl t_next)), (O_p1, ob_X0 a_p1 p1_told p1_barred), (a_p1 0, .inl (E.2.1, 24, .inl p1_one)), (a_p1 1, .inl (E.2.1, 24, .inl p1_other)), (a_p1 3, .inl (E.2.1, 24, .inl p1_fits))]
def L_X6_joinRooms_24 (p1_told : Int32) (p1_barred : Int32) (p1_one : (Nat → Int32)) (p1_other : (Nat → Int32)) (p1_fits : (Nat → Int32)) (x2 : Int32) (x3 : Int32) (k0 : (Nat → Int32) → Option ((Nat → Int32))) : Nat → Int32 × (Nat → Int32) → Option ((Nat → Int32)) := lp fun go s => if (6 : Int32) ≤ s.1 then (k0 s.2) else if ((x2 >>> (x3 &&& 31)) &&& (1 : Int32)) = 0 then (nm (s.1 + (1 : Int32)) fun v3 => go (v3, s.2)) else rd p1_fits 24 x3 fun v4 => if ((v4 >>> (s.1 &&& 31)) &&& (1 : Int32)) = 0 then (nm (s.1 + (1 : Int32)) fun v5 => go (v5, s.2)) else rd p1_one 24 x3 fun v6 => nm ((s.1 * (16 : Int32)) + v6) fun v7 => rd s.2 96 v7 fun v8 => rd p1_other 24 x3 fun v9 => wr s.2 96 v7 (v8 ||| ((1 : Int32) <<< (v9 &&& 31))) fun g10 => rd p1_other 24 x3 fun v11 => nm ((s.1 * (16 : Int32)) + v11) fun v12 => rd g10 96 v12 fun v13 => rd p1_one 24 x3 fun v14 => wr g10 96 v12 (v13 ||| ((1 : Int32) <<< (v14 &&& 31))) fun g15 => nm (s.1 + (1 : Int32)) fun v16 => go (v16, g15)
def L_X6_joinRooms_15 (p1_told : Int32) (p1_barred : Int32) (p1_one : (Nat → Int32)) (p1_other : (Nat → Int32)) (p1_fits : (Nat → Int32)) (x2 : Int32) : Nat → Int32 × (Nat → Int32) → Option ((Nat → Int32)) := lp fun go s => if (24 : Int32) ≤ s.1 then (some s.2) else L_X6_joinRooms_24 p1_told p1_barred p1_one p1_other p1_fits x2 s.1 (fun s17 => nm (s.1 + (1 : Int32)) fun v18 => go (v18, s17)) fu ((0 : Int32), s.2)
def f_X6_joinRooms (t_next : (Nat → Int32)) (p1_told : Int32) (p1_barred : Int32) (p1_one : (Nat → Int32)) (p1_other : (Nat → Int32)) (p1_fits : (Nat → Int32)) : Option ((Nat → Int32)) := (f_J7_fill_53178 96 t_next (0 : Int32)).bind fun u1 => (f_X0_unbarred p1_told p1_barred).bind fun u2 => L_X6_joinRooms_15 p1_told p1_barred p1_one p1_other p1_fits u2 fu ((0 : Int32), u1)
theorem dX6_joinRooms_0 : decode cX6_joinRooms 0 = .ok (.aload_n 0, 1) := by decide +kernel
theorem dX6_joinRooms_1 : decode cX6_joinRooms 1 = .ok (.getfield 9, 3) := by decide +kernel
theorem dX6_joinRooms_4 : decode cX6_joinRooms 4 = .ok (.iconst 0, 1) := by decide +kernel
theorem dX6_joinRooms_5 : decode cX6_joinRooms 5 = .ok (.invokestatic 34, 3) := by decide +kernel
theorem dX6_joinRooms_8 : decode cX6_joinRooms 8 = .ok (.aload_n 1, 1) := by decide +kernel
theorem dX6_joinRooms_9 : decode cX6_joinRooms 9 = .ok (.invokevirtual 48, 3) := by decide +kernel
theorem dX6_joinRooms_12 : decode cX6_joinRooms 12 = .ok (.istore_n 2, 1) := by decide +kernel
theorem dX6_joinRooms_13 : decode cX6_joinRooms 13 = .ok (.iconst 0, 1) := by decide +kernel
theorem dX6_joinRooms_14 : decode cX6_joinRooms 14 = .ok (.istore_n 3, 1) := by decide +kernel
theorem dX6_joinRooms_15 : decode cX6_joinRooms 15 = .ok (.iload_n 3, 1) := by decide +kernel
theorem dX6_joinRooms_16 : decode cX6_joinRooms 16 = .ok (.bipush 24, 2) := by decide +kernel
theorem dX6_joinRooms_18 : decode cX6_joinRooms 18 = .ok (.if_icmp .ge 103, 3) := by decide +kernel
theorem dX6_joinRooms_21 : decode cX6_joinRooms 21 = .ok (.iconst 0, 1) := by decide +kernel
theorem dX6_joinRooms_22 : decode cX6_joinRooms 22 = .ok (.istore 4, 2) := by decide +kernel
theorem dX6_joinRooms_24 : decode cX6_joinRooms 24 = .ok (.iload 4, 2) := by decide +kernel
theorem dX6_joinRooms_26 : decode cX6_joinRooms 26 = .ok (.bipush 6, 2) := by decide +kernel
theorem dX6_joinRooms_28 : decode cX6_joinRooms 28 = .ok (.if_icmp .ge 87, 3) := by decide +kernel
theorem dX6_joinRooms_31 : decode cX6_joinRooms 31 = .ok (.iload_n 2, 1) := by decide +kernel
theorem dX6_joinRooms_32 : decode cX6_joinRooms 32 = .ok (.iload_n 3, 1) := by decide +kernel
theorem dX6_joinRooms_33 : decode cX6_joinRooms 33 = .ok (.ishr, 1) := by decide +kernel
theorem dX6_joinRooms_34 : decode cX6_joinRooms 34 = .ok (.iconst 1, 1) := by decide +kernel
theorem dX6_joinRooms_35 : decode cX6_joinRooms 35 = .ok (.iand, 1) := by decide +kernel
theorem dX6_joinRooms_36 : decode cX6_joinRooms 36 = .ok (.ifCond .eq 73, 3) := by decide +kernel
theorem dX6_joinRooms_39 : decode cX6_joinRooms 39 = .ok (.aload_n 1, 1) := by decide +kernel
theorem dX6_joinRooms_40 : decode cX6_joinRooms 40 = .ok (.getfield 54, 3) := by decide +kernel
theorem dX6_joinRooms_43 : decode cX6_joinRooms 43 = .ok (.iload_n 3, 1) := by decide +kernel
theorem dX6_joinRooms_44 : decode cX6_joinRooms 44 = .ok (.iaload, 1) := by decide +kernel
theorem dX6_joinRooms_45 : decode cX6_joinRooms 45 = .ok (.iload 4, 2) := by decide +kernel
theorem dX6_joinRooms_47 : decode cX6_joinRooms 47 = .ok (.ishr, 1) := by decide +kernel
theorem dX6_joinRooms_48 : decode cX6_joinRooms 48 = .ok (.iconst 1, 1) := by decide +kernel
theorem dX6_joinRooms_49 : decode cX6_joinRooms 49 = .ok (.iand, 1) := by decide +kernel
theorem dX6_joinRooms_50 : decode cX6_joinRooms 50 = .ok (.ifCond .eq 59, 3) := by decide +kernel
theorem dX6_joinRooms_53 : decode cX6_joinRooms 53 = .ok (.aload_n 0, 1) := by decide +kernel
theorem dX6_joinRooms_54 : decode cX6_joinRooms 54 = .ok (.getfield 9, 3) := by decide +kernel
theorem dX6_joinRooms_57 : decode cX6_joinRooms 57 = .ok (.iload 4, 2) := by decide +kernel
theorem dX6_joinRooms_59 : decode cX6_joinRooms 59 = .ok (.bipush 16, 2) := by decide +kernel
theorem dX6_joinRooms_61 : decode cX6_joinRooms 61 = .ok (.imul, 1) := by decide +kernel
theorem dX6_joinRooms_62 : decode cX6_joinRooms 62 = .ok (.aload_n 1, 1) := by decide +kernel
theorem dX6_joinRooms_63 : decode cX6_joinRooms 63 = .ok (.getfield 57, 3) := by decide +kernel
theorem dX6_joinRooms_66 : decode cX6_joinRooms 66 = .ok (.iload_n 3, 1) := by decide +kernel
theorem dX6_joinRooms_67 : decode cX6_joinRooms 67 = .ok (.iaload, 1) := by decide +kernel
theorem dX6_joinRooms_68 : decode cX6_joinRooms 68 = .ok (.iadd, 1) := by decide +kernel
theorem dX6_joinRooms_69 : decode cX6_joinRooms 69 = .ok (.dup2, 1) := by decide +kernel
theorem dX6_joinRooms_70 : decode cX6_joinRooms 70 = .ok (.iaload, 1) := by decide +kernel
theorem dX6_joinRooms_71 : decode cX6_joinRooms 71 = .ok (.iconst 1, 1) := by decide +kernel
theorem dX6_joinRooms_72 : decode cX6_joinRooms 72 = .ok (.aload_n 1, 1) := by decide +kernel
theorem dX6_joinRooms_73 : decode cX6_joinRooms 73 = .ok (.getfield 60, 3) := by decide +kernel
theorem dX6_joinRooms_76 : decode cX6_joinRooms 76 = .ok (.iload_n 3, 1) := by decide +kernel
theorem dX6_joinRooms_77 : decode cX6_joinRooms 77 = .ok (.iaload, 1) := by decide +kernel
theorem dX6_joinRooms_78 : decode cX6_joinRooms 78 = .ok (.ishl, 1) := by decide +kernel
theorem dX6_joinRooms_79 : decode cX6_joinRooms 79 = .ok (.ior, 1) := by decide +kernel
theorem dX6_joinRooms_80 : decode cX6_joinRooms 80 = .ok (.iastore, 1) := by decide +kernel
theorem dX6_joinRooms_81 : decode cX6_joinRooms 81 = .ok (.aload_n 0, 1) := by decide +kernel
theorem dX6_joinRooms_82 : decode cX6_joinRooms 82 = .ok (.getfield 9, 3) := by decide +kernel
theorem dX6_joinRooms_85 : decode cX6_joinRooms 85 = .ok (.iload 4, 2) := by decide +kernel
theorem dX6_joinRooms_87 : decode cX6_joinRooms 87 = .ok (.bipush 16, 2) := by decide +kernel
theorem dX6_joinRooms_89 : decode cX6_joinRooms 89 = .ok (.imul, 1) := by decide +kernel
theorem dX6_joinRooms_90 : decode cX6_joinRooms 90 = .ok (.aload_n 1, 1) := by decide +kernel
theorem dX6_joinRooms_91 : decode cX6_joinRooms 91 = .ok (.getfield 60, 3) := by decide +kernel
theorem dX6_joinRooms_94 : decode cX6_joinRooms 94 = .ok (.iload_n 3, 1) := by decide +kernel
theorem dX6_joinRooms_95 : decode cX6_joinRooms 95 = .ok (.iaload, 1) := by decide +kernel
theorem dX6_joinRooms_96 : decode cX6_joinRooms 96 = .ok (.iadd, 1) := by decide +kernel
theorem dX6_joinRooms_97 : decode cX6_joinRooms 97 = .ok (.dup2, 1) := by decide +kernel
theorem dX6_joinRooms_98 : decode cX6_joinRooms 98 = .ok (.iaload, 1) := by decide +kernel
theorem dX6_joinRooms_99 : decode cX6_joinRooms 99 = .ok (.iconst 1, 1) := by decide +kernel
theorem dX6_joinRooms_100 : decode cX6_joinRooms 100 = .ok (.aload_n 1, 1) := by decide +kernel
theorem dX6_joinRooms_101 : decode cX6_joinRooms 101 = .ok (.getfield 57, 3) := by decide +kernel
theorem dX6_joinRooms_104 : decode cX6_joinRooms 104 = .ok (.iload_n 3, 1) := by decide +kernel
theorem dX6_joinRooms_105 : decode cX6_joinRooms 105 = .ok (.iaload, 1) := by decide +kernel
theorem dX6_joinRooms_106 : decode cX6_joinRooms 106 = .ok (.ishl, 1) := by decide +kernel
theorem dX6_joinRooms_107 : decode cX6_joinRooms 107 = .ok (.ior, 1) := by decide +kernel
theorem dX6_joinRooms_108 : decode cX6_joinRooms 108 = .ok (.iastore, 1) := by decide +kernel
theorem dX6_joinRooms_109 : decode cX6_joinRooms 109 = .ok (.iinc 4 1, 3) := by decide +kernel
theorem dX6_joinRooms_112 : decode cX6_joinRooms 112 = .ok (.goto (-88), 3) := by decide +kernel
theorem dX6_joinRooms_115 : decode cX6_joinRooms 115 = .ok (.iinc 3 1, 3) := by decide +kernel
theorem dX6_joinRooms_118 : decode cX6_joinRooms 118 = .ok (.goto (-103), 3) := by decide +kernel
theorem dX6_joinRooms_121 : decode cX6_joinRooms 121 = .ok (.return_, 1) := by decide +kernel
set_option maxHeartbeats 4000000 in
set_option maxRecDepth 100000 in
theorem kL_X6_joinRooms_24 {X : GC} {E : GE} (C : Cx X E cX6_joinRooms RX6 2 5) (o_t : Nat) (a_t : Nat → Nat) (o_p1 : Nat) (a_p1 : Nat → Nat) (t_size : Int32) (p1_told : Int32) (p1_barred : Int32) (p1_one : (Nat → Int32)) (p1_other : (Nat → Int32)) (p1_fits : (Nat → Int32)) (x2 : Int32) (x3 : Int32) (k0 : (Nat → Int32) → Option ((Nat → Int32))) {r : (Nat → Int32)} (hret : RtV X E cX6_joinRooms 0 0 (fun w => w = (W_X6_joinRooms E o_t a_t o_p1 a_p1 t_size r p1_told p1_barred p1_one p1_other p1_fits))) (hk0 : ∀ u, k0 u = some r → Gx X E 0 0 (W_X6_joinRooms E o_t a_t o_p1 a_p1 t_size u p1_told p1_barred p1_one p1_other p1_fits) 115 [(0, .ref o_t), (1, .ref o_p1), (2, .int x2), (3, .int x3)] []) : ∀ (n : Nat) (s : Int32 × (Nat → Int32)), L_X6_joinRooms_24 p1_told p1_barred p1_one p1_other p1_fits x2 x3 k0 n s = some r → Gx X E 0 0 (W_X6_joinRooms E o_t a_t o_p1 a_p1 t_size s.2 p1_told p1_barred p1_one p1_other p1_fits) 24 [(0, .ref o_t), (1, .ref o_p1), (2, .int x2), (3, .int x3), (4, .int s.1)] [] := by
  unfold L_X6_joinRooms_24
  refine lp_ind _ (fun go ih s h => ?_)
  refine g_iload (pc := 24) C dX6_joinRooms_24 4 rfl ?_
  refine g_bipush (pc := 26) (v := 6) C dX6_joinRooms_26 (by decide) ?_
  refine g_icmp_ge (pc := 28) (tgt := 115) C dX6_joinRooms_28 (by decide) h (fun h => ?_) (fun h => ?_)
  · refine g_sub [0, 1, 2, 3] rfl ?_
    exact hk0 _ h
  · refine g_iload_n (pc := 31) C dX6_joinRooms_31 rfl 2 rfl ?_
    refine g_iload_n (pc := 32) C dX6_joinRooms_32 rfl 3 rfl ?_
    refine g_ishr (pc := 33) C dX6_joinRooms_33 ?_
    refine g_iconst (pc := 34) (v := 1) C dX6_joinRooms_34 (by decide) ?_
    refine g_iand (pc := 35) C dX6_joinRooms_35 ?_
    refine g_if_eq (pc := 36) (tgt := 109) C dX6_joinRooms_36 (by decide) h (fun h => ?_) (fun h => ?_)
    · refine g_iincn (pc := 109) (j := 4) (d := 1) (lv' := fun v3 => [(4, .int v3), (0, .ref o_t), (1, .ref o_p1), (2, .int x2), (3, .int x3)]) C dX6_joinRooms_109 rfl (by decide) (by decide) (fun _ => rfl) h (fun v3 h => ?_)
      refine g_goto (pc := 112) (tgt := 24) C dX6_joinRooms_112 (by decide) ?_
      refine g_sub [1, 2, 3, 4, 0] rfl ?_
      exact ih _ h
    · refine g_aload_n (pc := 39) C dX6_joinRooms_39 rfl 1 rfl ?_
      refine g_get (pc := 40) C fl_X6_54 dX6_joinRooms_40 2 rfl rfl ?_
      refine g_iload_n (pc := 43) C dX6_joinRooms_43 rfl 3 rfl ?_
      refine g_iald (pc := 44) C dX6_joinRooms_44 5 rfl h (fun v4 h => ?_)
      refine g_iload (pc := 45) C dX6_joinRooms_45 4 rfl ?_
      refine g_ishr (pc := 47) C dX6_joinRooms_47 ?_
      refine g_iconst (pc := 48) (v := 1) C dX6_joinRooms_48 (by decide) ?_
      refine g_iand (pc := 49) C dX6_joinRooms_49 ?_
      refine g_if_eq (pc := 50) (tgt := 109) C dX6_joinRooms_50 (by decide) h (fun h => ?_) (fun h => ?_)
      · refine g_iincn (pc := 109) (j := 4) (d := 1) (lv' := fun v5 => [(4, .int v5), (0, .ref o_t), (1, .ref o_p1), (2, .int x2), (3, .int x3)]) C dX6_joinRooms_109 rfl (by decide) (by decide) (fun _ => rfl) h (fun v5 h => ?_)
        refine g_goto (pc := 112) (tgt := 24) C dX6_joinRooms_112 (by decide) ?_
        refine g_sub [1, 2, 3, 4, 0] rfl ?_
        exact ih _ h
      · refine g_aload_n (pc := 53) C dX6_joinRooms_53 rfl 0 rfl ?_
        refine g_get (pc := 54) C fl_X6_9 dX6_joinRooms_54 0 rfl rfl ?_
        refine g_iload (pc := 57) C dX6_joinRooms_57 4 rfl ?_
        refine g_bipush (pc := 59) (v := 16) C dX6_joinRooms_59 (by decide) ?_
        refine g_imul (pc := 61) C dX6_joinRooms_61 ?_
        refine g_aload_n (pc := 62) C dX6_joinRooms_62 rfl 1 rfl ?_
        refine g_get (pc := 63) C fl_X6_57 dX6_joinRooms_63 2 rfl rfl ?_
        refine g_iload_n (pc := 66) C dX6_joinRooms_66 rfl 3 rfl ?_
        refine g_iald (pc := 67) C dX6_joinRooms_67 3 rfl h (fun v6 h => ?_)
        refine g_iadd (pc := 68) C dX6_joinRooms_68 ?_
        refine g_nm h (fun v7 h => ?_)
        refine g_dup2 (pc := 69) C dX6_joinRooms_69 rfl rfl ?_
        refine g_iald (pc := 70) C dX6_joinRooms_70 1 rfl h (fun v8 h => ?_)
        refine g_iconst (pc := 71) (v := 1) C dX6_joinRooms_71 (by decide) ?_
        refine g_aload_n (pc := 72) C dX6_joinRooms_72 rfl 1 rfl ?_
        refine g_get (pc := 73) C fl_X6_60 dX6_joinRooms_73 2 rfl rfl ?_
        refine g_iload_n (pc := 76) C dX6_joinRooms_76 rfl 3 rfl ?_
        refine g_iald (pc := 77) C dX6_joinRooms_77 4 rfl h (fun v9 h => ?_)
        refine g_ishl (pc := 78) C dX6_joinRooms_78 ?_
        refine g_ior (pc := 79) C dX6_joinRooms_79 ?_
        refine g_iast (pc := 80) C dX6_joinRooms_80 1 rfl h (fun g10 h => ?_)
        refine g_ws (ws' := (W_X6_joinRooms E o_t a_t o_p1 a_p1 t_size g10 p1_told p1_barred p1_one p1_other p1_fits)) rfl ?_
        refine g_aload_n (pc := 81) C dX6_joinRooms_81 rfl 0 rfl ?_
        refine g_get (pc := 82) C fl_X6_9 dX6_joinRooms_82 0 rfl rfl ?_
        refine g_iload (pc := 85) C dX6_joinRooms_85 4 rfl ?_
        refine g_bipush (pc := 87) (v := 16) C dX6_joinRooms_87 (by decide) ?_
        refine g_imul (pc := 89) C dX6_joinRooms_89 ?_
        refine g_aload_n (pc := 90) C dX6_joinRooms_90 rfl 1 rfl ?_
        refine g_get (pc := 91) C fl_X6_60 dX6_joinRooms_91 2 rfl rfl ?_
        refine g_iload_n (pc := 94) C dX6_joinRooms_94 rfl 3 rfl ?_
        refine g_iald (pc := 95) C dX6_joinRooms_95 4 rfl h (fun v11 h => ?_)
        refine g_iadd (pc := 96) C dX6_joinRooms_96 ?_
        refine g_nm h (fun v12 h => ?_)
        refine g_dup2 (pc := 97) C dX6_joinRooms_97 rfl rfl ?_
        refine g_iald (pc := 98) C dX6_joinRooms_98 1 rfl h (fun v13 h => ?_)
        refine g_iconst (pc := 99) (v := 1) C dX6_joinRooms_99 (by decide) ?_
        refine g_aload_n (pc := 100) C dX6_joinRooms_100 rfl 1 rfl ?_
        refine g_get (pc := 101) C fl_X6_57 dX6_joinRooms_101 2 rfl rfl ?_
        refine g_iload_n (pc := 104) C dX6_joinRooms_104 rfl 3 rfl ?_
        refine g_iald (pc := 105) C dX6_joinRooms_105 3 rfl h (fun v14 h => ?_)
        refine g_ishl (pc := 106) C dX6_joinRooms_106 ?_
        refine g_ior (pc := 107) C dX6_joinRooms_107 ?_
        refine g_iast (pc := 108) C dX6_joinRooms_108 1 rfl h (fun g15 h => ?_)
        refine g_ws (ws' := (W_X6_joinRooms E o_t a_t o_p1 a_p1 t_size g15 p1_told p1_barred p1_one p1_other p1_fits)) rfl ?_
        refine g_iincn (pc := 109) (j := 4) (d := 1) (lv' := fun v16 => [(4, .int v16), (0, .ref o_t), (1, .ref o_p1), (2, .int x2), (3, .int x3)]) C dX6_joinRooms_109 rfl (by decide) (by decide) (fun _ => rfl) h (fun v16 h => ?_)
        refine g_goto (pc := 112) (tgt := 24) C dX6_joinRooms_112 (by decide) ?_
        refine g_sub [1, 2, 3, 4, 0] rfl ?_
        exact ih _ h
set_option maxHeartbeats 4000000 in
set_option maxRecDepth 100000 in
theorem kL_X6_joinRooms_15 {X : GC} {E : GE} (C : Cx X E cX6_joinRooms RX6 2 5) (o_t : Nat) (a_t : Nat → Nat) (o_p1 : Nat) (a_p1 : Nat → Nat) (t_size : Int32) (p1_told : Int32) (p1_barred : Int32) (p1_one : (Nat → Int32)) (p1_other : (Nat → Int32)) (p1_fits : (Nat → Int32)) (x2 : Int32) {r : (Nat → Int32)} (hret : RtV X E cX6_joinRooms 0 0 (fun w => w = (W_X6_joinRooms E o_t a_t o_p1 a_p1 t_size r p1_told p1_barred p1_one p1_other p1_fits))) : ∀ (n : Nat) (s : Int32 × (Nat → Int32)), L_X6_joinRooms_15 p1_told p1_barred p1_one p1_other p1_fits x2 n s = some r → Gx X E 0 0 (W_X6_joinRooms E o_t a_t o_p1 a_p1 t_size s.2 p1_told p1_barred p1_one p1_other p1_fits) 15 [(0, .ref o_t), (1, .ref o_p1), (2, .int x2), (3, .int s.1)] [] := by
  unfold L_X6_joinRooms_15
  refine lp_ind _ (fun go ih s h => ?_)
  refine g_iload_n (pc := 15) C dX6_joinRooms_15 rfl 3 rfl ?_
  refine g_bipush (pc := 16) (v := 24) C dX6_joinRooms_16 (by decide) ?_
  refine g_icmp_ge (pc := 18) (tgt := 121) C dX6_joinRooms_18 (by decide) h (fun h => ?_) (fun h => ?_)
  · cases h
    exact hret _ _ _ dX6_joinRooms_121 rfl
  · refine g_iconst (pc := 21) (v := 0) C dX6_joinRooms_21 (by decide) ?_
    refine g_istore (pc := 22) (lv' := [(4, .int (0 : Int32)), (0, .ref o_t), (1, .ref o_p1), (2, .int x2), (3, .int s.1)]) C dX6_joinRooms_22 (by decide) rfl ?_
    refine g_sub [1, 2, 3, 4, 0] rfl ?_
    refine kL_X6_joinRooms_24 C o_t a_t o_p1 a_p1 t_size p1_told p1_barred p1_one p1_other p1_fits x2 s.1 _ hret (fun s17 h => ?_) _ _ h
    refine g_iincn (pc := 115) (j := 3) (d := 1) (lv' := fun v18 => [(3, .int v18), (0, .ref o_t), (1, .ref o_p1), (2, .int x2)]) C dX6_joinRooms_115 rfl (by decide) (by decide) (fun _ => rfl) h (fun v18 h => ?_)
    refine g_goto (pc := 118) (tgt := 15) C dX6_joinRooms_118 (by decide) ?_
    refine g_sub [1, 2, 3, 0] rfl ?_
    exact ih _ h
set_option maxHeartbeats 4000000 in
set_option maxRecDepth 100000 in
theorem c_X6_joinRooms (l : Launch) (E : GE) (o_t : Nat) (a_t : Nat → Nat) (o_p1 : Nat) (a_p1 : Nat → Nat) (t_size : Int32) (t_next : (Nat → Int32)) (p1_told : Int32) (p1_barred : Int32) (p1_one : (Nat → Int32)) (p1_other : (Nat → Int32)) (p1_fits : (Nat → Int32)) (r : (Nat → Int32)) (h : f_X6_joinRooms t_next p1_told p1_barred p1_one p1_other p1_fits = some r) : Cn l E yX6_joinRooms cX6_joinRooms 5 none 2 0 0 [.ref o_t, .ref o_p1] (W_X6_joinRooms E o_t a_t o_p1 a_p1 t_size t_next p1_told p1_barred p1_one p1_other p1_fits) (fun w => w = (W_X6_joinRooms E o_t a_t o_p1 a_p1 t_size r p1_told p1_barred p1_one p1_other p1_fits)) none := by
  refine Cn.ofV (by decide +kernel) (Nat.le_of_ble_eq_true rfl) (fun X hX hR C hret => ?_)
  subst hX
  show Gx X E 0 0 (W_X6_joinRooms E o_t a_t o_p1 a_p1 t_size t_next p1_told p1_barred p1_one p1_other p1_fits) 0 [(0, .ref o_t), (1, .ref o_p1)] []
  unfold f_X6_joinRooms at h
  refine g_aload_n (pc := 0) C dX6_joinRooms_0 rfl 0 rfl ?_
  refine g_get (pc := 1) C fl_X6_9 dX6_joinRooms_1 0 rfl rfl ?_
  refine g_iconst (pc := 4) (v := 0) C dX6_joinRooms_4 (by decide) ?_
  obtain ⟨u1, hu1, h⟩ := bs h
  refine g_callS (pc := 5) (st := []) (st1 := []) (ws' := (W_X6_joinRooms E o_t a_t o_p1 a_p1 t_size u1 p1_told p1_barred p1_one p1_other p1_fits)) C mv_J7_fill_53178 ms_J7_fill_53178 ml_X6_34 (c_J7_fill_53178 X.2.1 E (a_t 0) 96 t_next (0 : Int32) u1 hu1) dX6_joinRooms_5 (by decide) rfl (Nat.le_of_ble_eq_true rfl) [1] rfl (by decide) rfl rfl rfl rfl ?_
  refine g_aload_n (pc := 8) C dX6_joinRooms_8 rfl 1 rfl ?_
  obtain ⟨u2, hu2, h⟩ := bs h
  refine g_callV (pc := 9) (st := []) (st1 := [.int u2]) (ws' := (W_X6_joinRooms E o_t a_t o_p1 a_p1 t_size u1 p1_told p1_barred p1_one p1_other p1_fits)) C mv_X0_unbarred mi_X0_unbarred ml_X6_48 (c_X0_unbarred X.2.1 E o_p1 a_p1 p1_told p1_barred u2 hu2) dX6_joinRooms_9 (by decide) rfl (Nat.le_of_ble_eq_true rfl) 2 0 rfl rfl [2] rfl (by decide) rfl rfl rfl rfl ?_
  refine g_istore_n (pc := 12) (lv' := [(2, .int u2), (0, .ref o_t), (1, .ref o_p1)]) C dX6_joinRooms_12 rfl (by decide) rfl ?_
  refine g_iconst (pc := 13) (v := 0) C dX6_joinRooms_13 (by decide) ?_
  refine g_istore_n (pc := 14) (lv' := [(3, .int (0 : Int32)), (2, .int u2), (0, .ref o_t), (1, .ref o_p1)]) C dX6_joinRooms_14 rfl (by decide) rfl ?_
  refine g_sub [2, 3, 1, 0] rfl ?_
  refine kL_X6_joinRooms_15 C o_t a_t o_p1 a_p1 t_size p1_told p1_barred p1_one p1_other p1_fits u2 hret  _ _ h
abbrev W_X6_lowestDoor (E : GE) (O_t : Nat) (a_t : Nat → Nat) (O_p1 : Nat) (a_p1 : Nat → Nat) (t_size : Int32) (t_left : (Nat → Int32)) (t_rooms : (Nat → Int32)) (p1_told : Int32) (p1_barred : Int32) (p1_one : (Nat → Int32)) (p1_other : (Nat → Int32)) (p1_fits : (Nat → Int32)) : va_W := [(O_t, ob_X6 a_t t_size), (a_t 1, .inl (E.2.1, 6, .inl t_left)), (a_t 3, .inl (E.2.1, 924, .inl t_rooms)), (O_p1, ob_X0 a_p1 p1_told p1_barred), (a_p1 0, .inl (E.2.1, 24, .inl p1_one)), (a_p1 1, .inl (E.2.1, 24, .inl p1_other)), (a_p1 3, .inl (E.2.1, 24, .inl p1_fits))]
def L_X6_lowestDoor_23 (t_left : (Nat → Int32)) (t_rooms : (Nat → Int32)) (p1_told : Int32) (p1_one : (Nat → Int32)) (p1_other : (Nat → Int32)) (p1_fits : (Nat → Int32)) (x2 : Int32) (x3 : Int32) (x5 : Int32) (x6 : Int32) : Nat → Int32 → Option (Int32) := lp fun go s => if (24 : Int32) ≤ s then (some (24 : Int32)) else if ((x3 >>> (s &&& 31)) &&& (1 : Int32)) = 0 then (nm (s + (1 : Int32)) fun v4 => go v4) else rd p1_fits 24 s fun v5 => if (v5 &&& x6) = 0 then (nm (s + (1 : Int32)) fun v6 => go v6) else (f_X0_behind p1_told p1_one p1_other s x2).bind fun u7 => if ((x5 >>> (u7 &&& 31)) &&& (1 : Int32)) = 0 then (nm (s + (1 : Int32)) fun v8 => go v8) else some s
def f_X6_lowestDoor (t_left : (Nat → Int32)) (t_rooms : (Nat → Int32)) (p1_told : Int32) (p1_one : (Nat → Int32)) (p1_other : (Nat → Int32)) (p1_fits : (Nat → Int32)) (x2 : Int32) (x3 : Int32) (x4 : Int32) : Option (Int32) := (f_X6_placeOf x4).bind fun u1 => rd t_rooms 924 u1 fun v2 => (f_X6_freeKinds t_left x4).bind fun u3 => L_X6_lowestDoor_23 t_left t_rooms p1_told p1_one p1_other p1_fits x2 x3 v2 u3 fu (0 : Int32)
theorem dX6_lowestDoor_0 : decode cX6_lowestDoor 0 = .ok (.aload_n 0, 1) := by decide +kernel
theorem dX6_lowestDoor_1 : decode cX6_lowestDoor 1 = .ok (.getfield 21, 3) := by decide +kernel
theorem dX6_lowestDoor_4 : decode cX6_lowestDoor 4 = .ok (.iload 4, 2) := by decide +kernel
theorem dX6_lowestDoor_6 : decode cX6_lowestDoor 6 = .ok (.invokestatic 63, 3) := by decide +kernel
theorem dX6_lowestDoor_9 : decode cX6_lowestDoor 9 = .ok (.iaload, 1) := by decide +kernel
theorem dX6_lowestDoor_10 : decode cX6_lowestDoor 10 = .ok (.istore 5, 2) := by decide +kernel
theorem dX6_lowestDoor_12 : decode cX6_lowestDoor 12 = .ok (.aload_n 0, 1) := by decide +kernel
theorem dX6_lowestDoor_13 : decode cX6_lowestDoor 13 = .ok (.iload 4, 2) := by decide +kernel
theorem dX6_lowestDoor_15 : decode cX6_lowestDoor 15 = .ok (.invokevirtual 67, 3) := by decide +kernel
theorem dX6_lowestDoor_18 : decode cX6_lowestDoor 18 = .ok (.istore 6, 2) := by decide +kernel
theorem dX6_lowestDoor_20 : decode cX6_lowestDoor 20 = .ok (.iconst 0, 1) := by decide +kernel
theorem dX6_lowestDoor_21 : decode cX6_lowestDoor 21 = .ok (.istore 7, 2) := by decide +kernel
theorem dX6_lowestDoor_23 : decode cX6_lowestDoor 23 = .ok (.iload 7, 2) := by decide +kernel
theorem dX6_lowestDoor_25 : decode cX6_lowestDoor 25 = .ok (.bipush 24, 2) := by decide +kernel
theorem dX6_lowestDoor_27 : decode cX6_lowestDoor 27 = .ok (.if_icmp .ge 49, 3) := by decide +kernel
theorem dX6_lowestDoor_30 : decode cX6_lowestDoor 30 = .ok (.iload_n 3, 1) := by decide +kernel
theorem dX6_lowestDoor_31 : decode cX6_lowestDoor 31 = .ok (.iload 7, 2) := by decide +kernel
theorem dX6_lowestDoor_33 : decode cX6_lowestDoor 33 = .ok (.ishr, 1) := by decide +kernel
theorem dX6_lowestDoor_34 : decode cX6_lowestDoor 34 = .ok (.iconst 1, 1) := by decide +kernel
theorem dX6_lowestDoor_35 : decode cX6_lowestDoor 35 = .ok (.iand, 1) := by decide +kernel
theorem dX6_lowestDoor_36 : decode cX6_lowestDoor 36 = .ok (.ifCond .eq 34, 3) := by decide +kernel
theorem dX6_lowestDoor_39 : decode cX6_lowestDoor 39 = .ok (.aload_n 1, 1) := by decide +kernel
theorem dX6_lowestDoor_40 : decode cX6_lowestDoor 40 = .ok (.getfield 54, 3) := by decide +kernel
theorem dX6_lowestDoor_43 : decode cX6_lowestDoor 43 = .ok (.iload 7, 2) := by decide +kernel
theorem dX6_lowestDoor_45 : decode cX6_lowestDoor 45 = .ok (.iaload, 1) := by decide +kernel
theorem dX6_lowestDoor_46 : decode cX6_lowestDoor 46 = .ok (.iload 6, 2) := by decide +kernel
theorem dX6_lowestDoor_48 : decode cX6_lowestDoor 48 = .ok (.iand, 1) := by decide +kernel
theorem dX6_lowestDoor_49 : decode cX6_lowestDoor 49 = .ok (.ifCond .eq 21, 3) := by decide +kernel
theorem dX6_lowestDoor_52 : decode cX6_lowestDoor 52 = .ok (.iload 5, 2) := by decide +kernel
theorem dX6_lowestDoor_54 : decode cX6_lowestDoor 54 = .ok (.aload_n 1, 1) := by decide +kernel
theorem dX6_lowestDoor_55 : decode cX6_lowestDoor 55 = .ok (.iload 7, 2) := by decide +kernel
theorem dX6_lowestDoor_57 : decode cX6_lowestDoor 57 = .ok (.iload_n 2, 1) := by decide +kernel
theorem dX6_lowestDoor_58 : decode cX6_lowestDoor 58 = .ok (.invokevirtual 89, 3) := by decide +kernel
theorem dX6_lowestDoor_61 : decode cX6_lowestDoor 61 = .ok (.ishr, 1) := by decide +kernel
theorem dX6_lowestDoor_62 : decode cX6_lowestDoor 62 = .ok (.iconst 1, 1) := by decide +kernel
theorem dX6_lowestDoor_63 : decode cX6_lowestDoor 63 = .ok (.iand, 1) := by decide +kernel
theorem dX6_lowestDoor_64 : decode cX6_lowestDoor 64 = .ok (.ifCond .eq 6, 3) := by decide +kernel
theorem dX6_lowestDoor_67 : decode cX6_lowestDoor 67 = .ok (.iload 7, 2) := by decide +kernel
theorem dX6_lowestDoor_69 : decode cX6_lowestDoor 69 = .ok (.ireturn, 1) := by decide +kernel
theorem dX6_lowestDoor_70 : decode cX6_lowestDoor 70 = .ok (.iinc 7 1, 3) := by decide +kernel
theorem dX6_lowestDoor_73 : decode cX6_lowestDoor 73 = .ok (.goto (-50), 3) := by decide +kernel
theorem dX6_lowestDoor_76 : decode cX6_lowestDoor 76 = .ok (.bipush 24, 2) := by decide +kernel
theorem dX6_lowestDoor_78 : decode cX6_lowestDoor 78 = .ok (.ireturn, 1) := by decide +kernel
set_option maxHeartbeats 4000000 in
set_option maxRecDepth 100000 in
theorem kL_X6_lowestDoor_23 {X : GC} {E : GE} (C : Cx X E cX6_lowestDoor RX6 3 8) (o_t : Nat) (a_t : Nat → Nat) (o_p1 : Nat) (a_p1 : Nat → Nat) (t_size : Int32) (p1_barred : Int32) (t_left : (Nat → Int32)) (t_rooms : (Nat → Int32)) (p1_told : Int32) (p1_one : (Nat → Int32)) (p1_other : (Nat → Int32)) (p1_fits : (Nat → Int32)) (x2 : Int32) (x3 : Int32) (x5 : Int32) (x6 : Int32) {r : Int32} (hret : RtI X E cX6_lowestDoor .int 0 0 (fun w => w = (W_X6_lowestDoor E o_t a_t o_p1 a_p1 t_size t_left t_rooms p1_told p1_barred p1_one p1_other p1_fits)) r) : ∀ (n : Nat) (s : Int32), L_X6_lowestDoor_23 t_left t_rooms p1_told p1_one p1_other p1_fits x2 x3 x5 x6 n s = some r → Gx X E 0 0 (W_X6_lowestDoor E o_t a_t o_p1 a_p1 t_size t_left t_rooms p1_told p1_barred p1_one p1_other p1_fits) 23 [(1, .ref o_p1), (2, .int x2), (3, .int x3), (5, .int x5), (6, .int x6), (7, .int s)] [] := by
  unfold L_X6_lowestDoor_23
  refine lp_ind _ (fun go ih s h => ?_)
  refine g_iload (pc := 23) C dX6_lowestDoor_23 5 rfl ?_
  refine g_bipush (pc := 25) (v := 24) C dX6_lowestDoor_25 (by decide) ?_
  refine g_icmp_ge (pc := 27) (tgt := 76) C dX6_lowestDoor_27 (by decide) h (fun h => ?_) (fun h => ?_)
  · refine g_bipush (pc := 76) (v := 24) C dX6_lowestDoor_76 (by decide) ?_
    cases h
    exact hret _ _ _ dX6_lowestDoor_78 rfl rfl
  · refine g_iload_n (pc := 30) C dX6_lowestDoor_30 rfl 2 rfl ?_
    refine g_iload (pc := 31) C dX6_lowestDoor_31 5 rfl ?_
    refine g_ishr (pc := 33) C dX6_lowestDoor_33 ?_
    refine g_iconst (pc := 34) (v := 1) C dX6_lowestDoor_34 (by decide) ?_
    refine g_iand (pc := 35) C dX6_lowestDoor_35 ?_
    refine g_if_eq (pc := 36) (tgt := 70) C dX6_lowestDoor_36 (by decide) h (fun h => ?_) (fun h => ?_)
    · refine g_iincn (pc := 70) (j := 5) (d := 1) (lv' := fun v4 => [(7, .int v4), (1, .ref o_p1), (2, .int x2), (3, .int x3), (5, .int x5), (6, .int x6)]) C dX6_lowestDoor_70 rfl (by decide) (by decide) (fun _ => rfl) h (fun v4 h => ?_)
      refine g_goto (pc := 73) (tgt := 23) C dX6_lowestDoor_73 (by decide) ?_
      refine g_sub [1, 2, 3, 4, 5, 0] rfl ?_
      exact ih _ h
    · refine g_aload_n (pc := 39) C dX6_lowestDoor_39 rfl 0 rfl ?_
      refine g_get (pc := 40) C fl_X6_54 dX6_lowestDoor_40 3 rfl rfl ?_
      refine g_iload (pc := 43) C dX6_lowestDoor_43 5 rfl ?_
      refine g_iald (pc := 45) C dX6_lowestDoor_45 6 rfl h (fun v5 h => ?_)
      refine g_iload (pc := 46) C dX6_lowestDoor_46 4 rfl ?_
      refine g_iand (pc := 48) C dX6_lowestDoor_48 ?_
      refine g_if_eq (pc := 49) (tgt := 70) C dX6_lowestDoor_49 (by decide) h (fun h => ?_) (fun h => ?_)
      · refine g_iincn (pc := 70) (j := 5) (d := 1) (lv' := fun v6 => [(7, .int v6), (1, .ref o_p1), (2, .int x2), (3, .int x3), (5, .int x5), (6, .int x6)]) C dX6_lowestDoor_70 rfl (by decide) (by decide) (fun _ => rfl) h (fun v6 h => ?_)
        refine g_goto (pc := 73) (tgt := 23) C dX6_lowestDoor_73 (by decide) ?_
        refine g_sub [1, 2, 3, 4, 5, 0] rfl ?_
        exact ih _ h
      · refine g_iload (pc := 52) C dX6_lowestDoor_52 3 rfl ?_
        refine g_aload_n (pc := 54) C dX6_lowestDoor_54 rfl 0 rfl ?_
        refine g_iload (pc := 55) C dX6_lowestDoor_55 5 rfl ?_
        refine g_iload_n (pc := 57) C dX6_lowestDoor_57 rfl 1 rfl ?_
        obtain ⟨u7, hu7, h⟩ := bs h
        refine g_callV (pc := 58) (st := [.int x5]) (st1 := [.int u7, .int x5]) (ws' := (W_X6_lowestDoor E o_t a_t o_p1 a_p1 t_size t_left t_rooms p1_told p1_barred p1_one p1_other p1_fits)) C mv_X0_behind mi_X0_behind ml_X6_89 (c_X0_behind X.2.1 E o_p1 a_p1 p1_told p1_barred p1_one p1_other s x2 u7 hu7) dX6_lowestDoor_58 (by decide) rfl (Nat.le_of_ble_eq_true rfl) 3 0 rfl rfl [3, 4, 5] rfl (by decide) rfl rfl rfl rfl ?_
        refine g_ishr (pc := 61) C dX6_lowestDoor_61 ?_
        refine g_iconst (pc := 62) (v := 1) C dX6_lowestDoor_62 (by decide) ?_
        refine g_iand (pc := 63) C dX6_lowestDoor_63 ?_
        refine g_if_eq (pc := 64) (tgt := 70) C dX6_lowestDoor_64 (by decide) h (fun h => ?_) (fun h => ?_)
        · refine g_iincn (pc := 70) (j := 5) (d := 1) (lv' := fun v8 => [(7, .int v8), (1, .ref o_p1), (2, .int x2), (3, .int x3), (5, .int x5), (6, .int x6)]) C dX6_lowestDoor_70 rfl (by decide) (by decide) (fun _ => rfl) h (fun v8 h => ?_)
          refine g_goto (pc := 73) (tgt := 23) C dX6_lowestDoor_73 (by decide) ?_
          refine g_sub [1, 2, 3, 4, 5, 0] rfl ?_
          exact ih _ h
        · refine g_iload (pc := 67) C dX6_lowestDoor_67 5 rfl ?_
          cases h
          exact hret _ _ _ dX6_lowestDoor_69 rfl rfl
set_option maxHeartbeats 4000000 in
set_option maxRecDepth 100000 in
theorem c_X6_lowestDoor (l : Launch) (E : GE) (o_t : Nat) (a_t : Nat → Nat) (o_p1 : Nat) (a_p1 : Nat → Nat) (t_size : Int32) (t_left : (Nat → Int32)) (t_rooms : (Nat → Int32)) (p1_told : Int32) (p1_barred : Int32) (p1_one : (Nat → Int32)) (p1_other : (Nat → Int32)) (p1_fits : (Nat → Int32)) (x2 : Int32) (x3 : Int32) (x4 : Int32) (r : Int32) (h : f_X6_lowestDoor t_left t_rooms p1_told p1_one p1_other p1_fits x2 x3 x4 = some r) : Cn l E yX6_lowestDoor cX6_lowestDoor 8 (some .int) 3 0 0 [.ref o_t, .ref o_p1, .int x2, .int x3, .int x4] (W_X6_lowestDoor E o_t a_t o_p1 a_p1 t_size t_left t_rooms p1_told p1_barred p1_one p1_other p1_fits) (fun w => w = (W_X6_lowestDoor E o_t a_t o_p1 a_p1 t_size t_left t_rooms p1_told p1_barred p1_one p1_other p1_fits)) (some (.int r)) := by
  refine Cn.ofI (by decide +kernel) (Nat.le_of_ble_eq_true rfl) (fun X hX hR C hret => ?_)
  subst hX
  show Gx X E 0 0 (W_X6_lowestDoor E o_t a_t o_p1 a_p1 t_size t_left t_rooms p1_told p1_barred p1_one p1_other p1_fits) 0 [(0, .ref o_t), (1, .ref o_p1), (2, .int x2), (3, .int x3), (4, .int x4)] []
  unfold f_X6_lowestDoor at h
  refine g_aload_n (pc := 0) C dX6_lowestDoor_0 rfl 0 rfl ?_
  refine g_get (pc := 1) C fl_X6_21 dX6_lowestDoor_1 0 rfl rfl ?_
  refine g_iload (pc := 4) C dX6_lowestDoor_4 4 rfl ?_
  obtain ⟨u1, hu1, h⟩ := bs h
  refine g_callS (pc := 6) (st := [.ref (a_t 3)]) (st1 := [.int u1, .ref (a_t 3)]) (ws' := (W_X6_lowestDoor E o_t a_t o_p1 a_p1 t_size t_left t_rooms p1_told p1_barred p1_one p1_other p1_fits)) C mv_X6_placeOf ms_X6_placeOf ml_X6_63 (c_X6_placeOf X.2.1 E x4 u1 hu1) dX6_lowestDoor_6 (by decide) rfl (Nat.le_of_ble_eq_true rfl) [] rfl (by decide) rfl rfl rfl rfl ?_
  refine g_iald (pc := 9) C dX6_lowestDoor_9 2 rfl h (fun v2 h => ?_)
  refine g_istore (pc := 10) (lv' := [(5, .int v2), (0, .ref o_t), (1, .ref o_p1), (2, .int x2), (3, .int x3), (4, .int x4)]) C dX6_lowestDoor_10 (by decide) rfl ?_
  refine g_aload_n (pc := 12) C dX6_lowestDoor_12 rfl 1 rfl ?_
  refine g_iload (pc := 13) C dX6_lowestDoor_13 5 rfl ?_
  obtain ⟨u3, hu3, h⟩ := bs h
  refine g_callV (pc := 15) (st := []) (st1 := [.int u3]) (ws' := (W_X6_lowestDoor E o_t a_t o_p1 a_p1 t_size t_left t_rooms p1_told p1_barred p1_one p1_other p1_fits)) C mv_X6_freeKinds mi_X6_freeKinds ml_X6_67 (c_X6_freeKinds X.2.1 E o_t a_t t_size t_left x4 u3 hu3) dX6_lowestDoor_15 (by decide) rfl (Nat.le_of_ble_eq_true rfl) 0 5 rfl rfl [0, 1] rfl (by decide) rfl rfl rfl rfl ?_
  refine g_istore (pc := 18) (lv' := [(6, .int u3), (5, .int v2), (0, .ref o_t), (1, .ref o_p1), (2, .int x2), (3, .int x3), (4, .int x4)]) C dX6_lowestDoor_18 (by decide) rfl ?_
  refine g_iconst (pc := 20) (v := 0) C dX6_lowestDoor_20 (by decide) ?_
  refine g_istore (pc := 21) (lv' := [(7, .int (0 : Int32)), (6, .int u3), (5, .int v2), (0, .ref o_t), (1, .ref o_p1), (2, .int x2), (3, .int x3), (4, .int x4)]) C dX6_lowestDoor_21 (by decide) rfl ?_
  refine g_sub [4, 5, 6, 2, 1, 0] rfl ?_
  refine kL_X6_lowestDoor_23 C o_t a_t o_p1 a_p1 t_size p1_barred t_left t_rooms p1_told p1_one p1_other p1_fits x2 x3 v2 u3 hret  _ _ h
abbrev W_X6_spread (E : GE) (O_t : Nat) (a_t : Nat → Nat) (O_p1 : Nat) (a_p1 : Nat → Nat) (O_p2 : Nat) (a_p2 : Nat → Nat) (t_size : Int32) (t_next : (Nat → Int32)) (t_left : (Nat → Int32)) (t_used : (Nat → Int32)) (t_rooms : (Nat → Int32)) (p1_told : Int32) (p1_barred : Int32) (p1_one : (Nat → Int32)) (p1_other : (Nat → Int32)) (p1_fits : (Nat → Int32)) (p2_told : Int32) (p2_round : Int32) (p2_x : Int32) (p2_pins : (Nat → Int32)) : va_W := [(O_t, ob_X6 a_t t_size), (a_t 0, .inl (E.2.1, 96, .inl t_next)), (a_t 1, .inl (E.2.1, 6, .inl t_left)), (a_t 2, .inl (E.2.1, 924, .inl t_used)), (a_t 3, .inl (E.2.1, 924, .inl t_rooms)), (O_p1, ob_X0 a_p1 p1_told p1_barred), (a_p1 0, .inl (E.2.1, 24, .inl p1_one)), (a_p1 1, .inl (E.2.1, 24, .inl p1_other)), (a_p1 3, .inl (E.2.1, 24, .inl p1_fits)), (O_p2, ob_X9 a_p2 p2_told p2_round p2_x), (a_p2 3, .inl (E.2.1, 60, .inl p2_pins))]
def L_X6_spread_8 (t_size : Int32) (t_next : (Nat → Int32)) (t_used : (Nat → Int32)) (t_rooms : (Nat → Int32)) (p1_told : Int32) (p1_barred : Int32) (p1_one : (Nat → Int32)) (p1_other : (Nat → Int32)) (p1_fits : (Nat → Int32)) (p2_told : Int32) (p2_pins : (Nat → Int32)) (x3 : Int32) (x4 : Int32) (k0 : (Nat → Int32) → Option (Int32 × (Nat → Int32) × (Nat → Int32) × (Nat → Int32) × (Nat → Int32))) : Nat → Int32 × (Nat → Int32) → Option (Int32 × (Nat → Int32) × (Nat → Int32) × (Nat → Int32) × (Nat → Int32)) := lp fun go s => if (6 : Int32) ≤ s.1 then (k0 s.2) else (f_X9_pinsOfKind p2_told p2_pins x3 s.1).bind fun u2 => wr s.2 6 s.1 u2 fun g3 => nm (s.1 + (1 : Int32)) fun v4 => go (v4, g3)
def L_X6_spread_68 (t_next : (Nat → Int32)) (t_left : (Nat → Int32)) (p1_told : Int32) (p1_barred : Int32) (p1_one : (Nat → Int32)) (p1_other : (Nat → Int32)) (p1_fits : (Nat → Int32)) (p2_told : Int32) (p2_pins : (Nat → Int32)) : Nat → Int32 × Int32 × (Nat → Int32) × (Nat → Int32) → Option (Int32 × (Nat → Int32) × (Nat → Int32) × (Nat → Int32) × (Nat → Int32)) := lp fun go s => if s.2.1 ≤ s.1 then (some (s.2.1, t_next, t_left, s.2.2.1, s.2.2.2)) else if (924 : Int32) ≤ s.1 then (some (s.2.1, t_next, t_left, s.2.2.1, s.2.2.2)) else rd s.2.2.1 924 s.1 fun v9 => if (6 : Int32) ≤ (v9 >>> ((18 : Int32) &&& 31)) then (nm (s.1 + (1 : Int32)) fun v10 => go (v10, s.2.1, s.2.2.1, s.2.2.2)) else rd s.2.2.1 924 s.1 fun v11 => (f_X6_goOn s.2.1 t_next t_left s.2.2.1 s.2.2.2 v11).bind fun u12 => nm (s.1 + (1 : Int32)) fun v13 => go (v13, u12.1, u12.2.1, u12.2.2)
def f_X6_spread (t_size : Int32) (t_next : (Nat → Int32)) (t_left : (Nat → Int32)) (t_used : (Nat → Int32)) (t_rooms : (Nat → Int32)) (p1_told : Int32) (p1_barred : Int32) (p1_one : (Nat → Int32)) (p1_other : (Nat → Int32)) (p1_fits : (Nat → Int32)) (p2_told : Int32) (p2_pins : (Nat → Int32)) (x3 : Int32) (x4 : Int32) : Option (Int32 × (Nat → Int32) × (Nat → Int32) × (Nat → Int32) × (Nat → Int32)) := (f_X6_joinRooms t_next p1_told p1_barred p1_one p1_other p1_fits).bind fun u1 => L_X6_spread_8 t_size u1 t_used t_rooms p1_told p1_barred p1_one p1_other p1_fits p2_told p2_pins x3 x4 (fun s5 => (f_J7_fill_53178 924 t_rooms (0 : Int32)).bind fun u6 => wr t_used 924 (0 : Int32) (0 : Int32) fun g7 => wr u6 924 (0 : Int32) ((1 : Int32) <<< (x4 &&& 31)) fun g8 => L_X6_spread_68 u1 s5 p1_told p1_barred p1_one p1_other p1_fits p2_told p2_pins fu ((0 : Int32), (1 : Int32), g7, g8)) fu ((0 : Int32), t_left)
theorem dX6_spread_0 : decode cX6_spread 0 = .ok (.aload_n 0, 1) := by decide +kernel
theorem dX6_spread_1 : decode cX6_spread 1 = .ok (.aload_n 1, 1) := by decide +kernel
theorem dX6_spread_2 : decode cX6_spread 2 = .ok (.invokevirtual 24, 3) := by decide +kernel
theorem dX6_spread_5 : decode cX6_spread 5 = .ok (.iconst 0, 1) := by decide +kernel
theorem dX6_spread_6 : decode cX6_spread 6 = .ok (.istore 5, 2) := by decide +kernel
theorem dX6_spread_8 : decode cX6_spread 8 = .ok (.iload 5, 2) := by decide +kernel
theorem dX6_spread_10 : decode cX6_spread 10 = .ok (.bipush 6, 2) := by decide +kernel
theorem dX6_spread_12 : decode cX6_spread 12 = .ok (.if_icmp .ge 23, 3) := by decide +kernel
theorem dX6_spread_15 : decode cX6_spread 15 = .ok (.aload_n 0, 1) := by decide +kernel
theorem dX6_spread_16 : decode cX6_spread 16 = .ok (.getfield 15, 3) := by decide +kernel
theorem dX6_spread_19 : decode cX6_spread 19 = .ok (.iload 5, 2) := by decide +kernel
theorem dX6_spread_21 : decode cX6_spread 21 = .ok (.aload_n 2, 1) := by decide +kernel
theorem dX6_spread_22 : decode cX6_spread 22 = .ok (.iload_n 3, 1) := by decide +kernel
theorem dX6_spread_23 : decode cX6_spread 23 = .ok (.iload 5, 2) := by decide +kernel
theorem dX6_spread_25 : decode cX6_spread 25 = .ok (.invokevirtual 28, 3) := by decide +kernel
theorem dX6_spread_28 : decode cX6_spread 28 = .ok (.iastore, 1) := by decide +kernel
theorem dX6_spread_29 : decode cX6_spread 29 = .ok (.iinc 5 1, 3) := by decide +kernel
theorem dX6_spread_32 : decode cX6_spread 32 = .ok (.goto (-24), 3) := by decide +kernel
theorem dX6_spread_35 : decode cX6_spread 35 = .ok (.aload_n 0, 1) := by decide +kernel
theorem dX6_spread_36 : decode cX6_spread 36 = .ok (.getfield 21, 3) := by decide +kernel
theorem dX6_spread_39 : decode cX6_spread 39 = .ok (.iconst 0, 1) := by decide +kernel
theorem dX6_spread_40 : decode cX6_spread 40 = .ok (.invokestatic 34, 3) := by decide +kernel
theorem dX6_spread_43 : decode cX6_spread 43 = .ok (.aload_n 0, 1) := by decide +kernel
theorem dX6_spread_44 : decode cX6_spread 44 = .ok (.getfield 18, 3) := by decide +kernel
theorem dX6_spread_47 : decode cX6_spread 47 = .ok (.iconst 0, 1) := by decide +kernel
theorem dX6_spread_48 : decode cX6_spread 48 = .ok (.iconst 0, 1) := by decide +kernel
theorem dX6_spread_49 : decode cX6_spread 49 = .ok (.iastore, 1) := by decide +kernel
theorem dX6_spread_50 : decode cX6_spread 50 = .ok (.aload_n 0, 1) := by decide +kernel
theorem dX6_spread_51 : decode cX6_spread 51 = .ok (.getfield 21, 3) := by decide +kernel
theorem dX6_spread_54 : decode cX6_spread 54 = .ok (.iconst 0, 1) := by decide +kernel
theorem dX6_spread_55 : decode cX6_spread 55 = .ok (.iconst 1, 1) := by decide +kernel
theorem dX6_spread_56 : decode cX6_spread 56 = .ok (.iload 4, 2) := by decide +kernel
theorem dX6_spread_58 : decode cX6_spread 58 = .ok (.ishl, 1) := by decide +kernel
theorem dX6_spread_59 : decode cX6_spread 59 = .ok (.iastore, 1) := by decide +kernel
theorem dX6_spread_60 : decode cX6_spread 60 = .ok (.aload_n 0, 1) := by decide +kernel
theorem dX6_spread_61 : decode cX6_spread 61 = .ok (.iconst 1, 1) := by decide +kernel
theorem dX6_spread_62 : decode cX6_spread 62 = .ok (.putfield 40, 3) := by decide +kernel
theorem dX6_spread_65 : decode cX6_spread 65 = .ok (.iconst 0, 1) := by decide +kernel
theorem dX6_spread_66 : decode cX6_spread 66 = .ok (.istore 5, 2) := by decide +kernel
theorem dX6_spread_68 : decode cX6_spread 68 = .ok (.iload 5, 2) := by decide +kernel
theorem dX6_spread_70 : decode cX6_spread 70 = .ok (.aload_n 0, 1) := by decide +kernel
theorem dX6_spread_71 : decode cX6_spread 71 = .ok (.getfield 40, 3) := by decide +kernel
theorem dX6_spread_74 : decode cX6_spread 74 = .ok (.if_icmp .ge 43, 3) := by decide +kernel
theorem dX6_spread_77 : decode cX6_spread 77 = .ok (.iload 5, 2) := by decide +kernel
theorem dX6_spread_79 : decode cX6_spread 79 = .ok (.sipush 924, 3) := by decide +kernel
theorem dX6_spread_82 : decode cX6_spread 82 = .ok (.if_icmp .ge 35, 3) := by decide +kernel
theorem dX6_spread_85 : decode cX6_spread 85 = .ok (.aload_n 0, 1) := by decide +kernel
theorem dX6_spread_86 : decode cX6_spread 86 = .ok (.getfield 18, 3) := by decide +kernel
theorem dX6_spread_89 : decode cX6_spread 89 = .ok (.iload 5, 2) := by decide +kernel
theorem dX6_spread_91 : decode cX6_spread 91 = .ok (.iaload, 1) := by decide +kernel
theorem dX6_spread_92 : decode cX6_spread 92 = .ok (.bipush 18, 2) := by decide +kernel
theorem dX6_spread_94 : decode cX6_spread 94 = .ok (.ishr, 1) := by decide +kernel
theorem dX6_spread_95 : decode cX6_spread 95 = .ok (.bipush 6, 2) := by decide +kernel
theorem dX6_spread_97 : decode cX6_spread 97 = .ok (.if_icmp .ge 14, 3) := by decide +kernel
theorem dX6_spread_100 : decode cX6_spread 100 = .ok (.aload_n 0, 1) := by decide +kernel
theorem dX6_spread_101 : decode cX6_spread 101 = .ok (.aload_n 0, 1) := by decide +kernel
theorem dX6_spread_102 : decode cX6_spread 102 = .ok (.getfield 18, 3) := by decide +kernel
theorem dX6_spread_105 : decode cX6_spread 105 = .ok (.iload 5, 2) := by decide +kernel
theorem dX6_spread_107 : decode cX6_spread 107 = .ok (.iaload, 1) := by decide +kernel
theorem dX6_spread_108 : decode cX6_spread 108 = .ok (.invokevirtual 44, 3) := by decide +kernel
theorem dX6_spread_111 : decode cX6_spread 111 = .ok (.iinc 5 1, 3) := by decide +kernel
theorem dX6_spread_114 : decode cX6_spread 114 = .ok (.goto (-46), 3) := by decide +kernel
theorem dX6_spread_117 : decode cX6_spread 117 = .ok (.return_, 1) := by decide +kernel
set_option maxHeartbeats 4000000 in
set_option maxRecDepth 100000 in
theorem kL_X6_spread_8 {X : GC} {E : GE} (C : Cx X E cX6_spread RX6 3 6) (o_t : Nat) (a_t : Nat → Nat) (o_p1 : Nat) (a_p1 : Nat → Nat) (o_p2 : Nat) (a_p2 : Nat → Nat) (p2_round : Int32) (p2_x : Int32) (t_size : Int32) (t_next : (Nat → Int32)) (t_used : (Nat → Int32)) (t_rooms : (Nat → Int32)) (p1_told : Int32) (p1_barred : Int32) (p1_one : (Nat → Int32)) (p1_other : (Nat → Int32)) (p1_fits : (Nat → Int32)) (p2_told : Int32) (p2_pins : (Nat → Int32)) (x3 : Int32) (x4 : Int32) (k0 : (Nat → Int32) → Option (Int32 × (Nat → Int32) × (Nat → Int32) × (Nat → Int32) × (Nat → Int32))) {r : Int32 × (Nat → Int32) × (Nat → Int32) × (Nat → Int32) × (Nat → Int32)} (hret : RtV X E cX6_spread 0 0 (fun w => w = (W_X6_spread E o_t a_t o_p1 a_p1 o_p2 a_p2 r.1 r.2.1 r.2.2.1 r.2.2.2.1 r.2.2.2.2 p1_told p1_barred p1_one p1_other p1_fits p2_told p2_round p2_x p2_pins))) (hk0 : ∀ u, k0 u = some r → Gx X E 0 0 (W_X6_spread E o_t a_t o_p1 a_p1 o_p2 a_p2 t_size t_next u t_used t_rooms p1_told p1_barred p1_one p1_other p1_fits p2_told p2_round p2_x p2_pins) 35 [(0, .ref o_t), (4, .int x4)] []) : ∀ (n : Nat) (s : Int32 × (Nat → Int32)), L_X6_spread_8 t_size t_next t_used t_rooms p1_told p1_barred p1_one p1_other p1_fits p2_told p2_pins x3 x4 k0 n s = some r → Gx X E 0 0 (W_X6_spread E o_t a_t o_p1 a_p1 o_p2 a_p2 t_size t_next s.2 t_used t_rooms p1_told p1_barred p1_one p1_other p1_fits p2_told p2_round p2_x p2_pins) 8 [(0, .ref o_t), (2, .ref o_p2), (3, .int x3), (4, .int x4), (5, .int s.1)] [] := by
  unfold L_X6_spread_8
  refine lp_ind _ (fun go ih s h => ?_)
  refine g_iload (pc := 8) C dX6_spread_8 4 rfl ?_
  refine g_bipush (pc := 10) (v := 6) C dX6_spread_10 (by decide) ?_
  refine g_icmp_ge (pc := 12) (tgt := 35) C dX6_spread_12 (by decide) h (fun h => ?_) (fun h => ?_)
  · refine g_sub [0, 3] rfl ?_
    exact hk0 _ h
  · refine g_aload_n (pc := 15) C dX6_spread_15 rfl 0 rfl ?_
    refine g_get (pc := 16) C fl_X6_15 dX6_spread_16 0 rfl rfl ?_
    refine g_iload (pc := 19) C dX6_spread_19 4 rfl ?_
    refine g_aload_n (pc := 21) C dX6_spread_21 rfl 1 rfl ?_
    refine g_iload_n (pc := 22) C dX6_spread_22 rfl 2 rfl ?_
    refine g_iload (pc := 23) C dX6_spread_23 4 rfl ?_
    obtain ⟨u2, hu2, h⟩ := bs h
    refine g_callV (pc := 25) (st := [.int s.1, .ref (a_t 1)]) (st1 := [.int u2, .int s.1, .ref (a_t 1)]) (ws' := (W_X6_spread E o_t a_t o_p1 a_p1 o_p2 a_p2 t_size t_next s.2 t_used t_rooms p1_told p1_barred p1_one p1_other p1_fits p2_told p2_round p2_x p2_pins)) C mv_X9_pinsOfKind mi_X9_pinsOfKind ml_X6_28 (c_X9_pinsOfKind X.2.1 E o_p2 a_p2 p2_told p2_round p2_x p2_pins x3 s.1 u2 hu2) dX6_spread_25 (by decide) rfl (Nat.le_of_ble_eq_true rfl) 9 8 rfl rfl [9, 10] rfl (by decide) rfl rfl rfl rfl ?_
    refine g_iast (pc := 28) C dX6_spread_28 2 rfl h (fun g3 h => ?_)
    refine g_ws (ws' := (W_X6_spread E o_t a_t o_p1 a_p1 o_p2 a_p2 t_size t_next g3 t_used t_rooms p1_told p1_barred p1_one p1_other p1_fits p2_told p2_round p2_x p2_pins)) rfl ?_
    refine g_iincn (pc := 29) (j := 4) (d := 1) (lv' := fun v4 => [(5, .int v4), (0, .ref o_t), (2, .ref o_p2), (3, .int x3), (4, .int x4)]) C dX6_spread_29 rfl (by decide) (by decide) (fun _ => rfl) h (fun v4 h => ?_)
    refine g_goto (pc := 32) (tgt := 8) C dX6_spread_32 (by decide) ?_
    refine g_sub [1, 2, 3, 4, 0] rfl ?_
    exact ih _ h
set_option maxHeartbeats 4000000 in
set_option maxRecDepth 100000 in
theorem kL_X6_spread_68 {X : GC} {E : GE} (C : Cx X E cX6_spread RX6 3 6) (o_t : Nat) (a_t : Nat → Nat) (o_p1 : Nat) (a_p1 : Nat → Nat) (o_p2 : Nat) (a_p2 : Nat → Nat) (p2_round : Int32) (p2_x : Int32) (t_next : (Nat → Int32)) (t_left : (Nat → Int32)) (p1_told : Int32) (p1_barred : Int32) (p1_one : (Nat → Int32)) (p1_other : (Nat → Int32)) (p1_fits : (Nat → Int32)) (p2_told : Int32) (p2_pins : (Nat → Int32)) {r : Int32 × (Nat → Int32) × (Nat → Int32) × (Nat → Int32) × (Nat → Int32)} (hret : RtV X E cX6_spread 0 0 (fun w => w = (W_X6_spread E o_t a_t o_p1 a_p1 o_p2 a_p2 r.1 r.2.1 r.2.2.1 r.2.2.2.1 r.2.2.2.2 p1_told p1_barred p1_one p1_other p1_fits p2_told p2_round p2_x p2_pins))) : ∀ (n : Nat) (s : Int32 × Int32 × (Nat → Int32) × (Nat → Int32)), L_X6_spread_68 t_next t_left p1_told p1_barred p1_one p1_other p1_fits p2_told p2_pins n s = some r → Gx X E 0 0 (W_X6_spread E o_t a_t o_p1 a_p1 o_p2 a_p2 s.2.1 t_next t_left s.2.2.1 s.2.2.2 p1_told p1_barred p1_one p1_other p1_fits p2_told p2_round p2_x p2_pins) 68 [(0, .ref o_t), (5, .int s.1)] [] := by
  unfold L_X6_spread_68
  refine lp_ind _ (fun go ih s h => ?_)
  refine g_iload (pc := 68) C dX6_spread_68 1 rfl ?_
  refine g_aload_n (pc := 70) C dX6_spread_70 rfl 0 rfl ?_
  refine g_get (pc := 71) C fl_X6_40 dX6_spread_71 0 rfl rfl ?_
  refine g_icmp_ge (pc := 74) (tgt := 117) C dX6_spread_74 (by decide) h (fun h => ?_) (fun h => ?_)
  · cases h
    exact hret _ _ _ dX6_spread_117 rfl
  · refine g_iload (pc := 77) C dX6_spread_77 1 rfl ?_
    refine g_sipush (pc := 79) (v := 924) C dX6_spread_79 (by decide) ?_
    refine g_icmp_ge (pc := 82) (tgt := 117) C dX6_spread_82 (by decide) h (fun h => ?_) (fun h => ?_)
    · cases h
      exact hret _ _ _ dX6_spread_117 rfl
    · refine g_aload_n (pc := 85) C dX6_spread_85 rfl 0 rfl ?_
      refine g_get (pc := 86) C fl_X6_18 dX6_spread_86 0 rfl rfl ?_
      refine g_iload (pc := 89) C dX6_spread_89 1 rfl ?_
      refine g_iald (pc := 91) C dX6_spread_91 3 rfl h (fun v9 h => ?_)
      refine g_bipush (pc := 92) (v := 18) C dX6_spread_92 (by decide) ?_
      refine g_ishr (pc := 94) C dX6_spread_94 ?_
      refine g_bipush (pc := 95) (v := 6) C dX6_spread_95 (by decide) ?_
      refine g_icmp_ge (pc := 97) (tgt := 111) C dX6_spread_97 (by decide) h (fun h => ?_) (fun h => ?_)
      · refine g_iincn (pc := 111) (j := 1) (d := 1) (lv' := fun v10 => [(5, .int v10), (0, .ref o_t)]) C dX6_spread_111 rfl (by decide) (by decide) (fun _ => rfl) h (fun v10 h => ?_)
        refine g_goto (pc := 114) (tgt := 68) C dX6_spread_114 (by decide) ?_
        refine g_sub [1, 0] rfl ?_
        exact ih _ h
      · refine g_aload_n (pc := 100) C dX6_spread_100 rfl 0 rfl ?_
        refine g_aload_n (pc := 101) C dX6_spread_101 rfl 0 rfl ?_
        refine g_get (pc := 102) C fl_X6_18 dX6_spread_102 0 rfl rfl ?_
        refine g_iload (pc := 105) C dX6_spread_105 1 rfl ?_
        refine g_iald (pc := 107) C dX6_spread_107 3 rfl h (fun v11 h => ?_)
        obtain ⟨u12, hu12, h⟩ := bs h
        refine g_callV (pc := 108) (st := []) (st1 := []) (ws' := (W_X6_spread E o_t a_t o_p1 a_p1 o_p2 a_p2 u12.1 t_next t_left u12.2.1 u12.2.2 p1_told p1_barred p1_one p1_other p1_fits p2_told p2_round p2_x p2_pins)) C mv_X6_goOn mi_X6_goOn ml_X6_44 (c_X6_goOn X.2.1 E o_t a_t s.2.1 t_next t_left s.2.2.1 s.2.2.2 v11 u12 hu12) dX6_spread_108 (by decide) rfl (Nat.le_of_ble_eq_true rfl) 0 5 rfl rfl [0, 1, 2, 3, 4] rfl (by decide) rfl rfl rfl rfl ?_
        refine g_iincn (pc := 111) (j := 1) (d := 1) (lv' := fun v13 => [(5, .int v13), (0, .ref o_t)]) C dX6_spread_111 rfl (by decide) (by decide) (fun _ => rfl) h (fun v13 h => ?_)
        refine g_goto (pc := 114) (tgt := 68) C dX6_spread_114 (by decide) ?_
        refine g_sub [1, 0] rfl ?_
        exact ih _ h
set_option maxHeartbeats 4000000 in
set_option maxRecDepth 100000 in
theorem c_X6_spread (l : Launch) (E : GE) (o_t : Nat) (a_t : Nat → Nat) (o_p1 : Nat) (a_p1 : Nat → Nat) (o_p2 : Nat) (a_p2 : Nat → Nat) (t_size : Int32) (t_next : (Nat → Int32)) (t_left : (Nat → Int32)) (t_used : (Nat → Int32)) (t_rooms : (Nat → Int32)) (p1_told : Int32) (p1_barred : Int32) (p1_one : (Nat → Int32)) (p1_other : (Nat → Int32)) (p1_fits : (Nat → Int32)) (p2_told : Int32) (p2_round : Int32) (p2_x : Int32) (p2_pins : (Nat → Int32)) (x3 : Int32) (x4 : Int32) (r : Int32 × (Nat → Int32) × (Nat → Int32) × (Nat → Int32) × (Nat → Int32)) (h : f_X6_spread t_size t_next t_left t_used t_rooms p1_told p1_barred p1_one p1_other p1_fits p2_told p2_pins x3 x4 = some r) : Cn l E yX6_spread cX6_spread 6 none 3 0 0 [.ref o_t, .ref o_p1, .ref o_p2, .int x3, .int x4] (W_X6_spread E o_t a_t o_p1 a_p1 o_p2 a_p2 t_size t_next t_left t_used t_rooms p1_told p1_barred p1_one p1_other p1_fits p2_told p2_round p2_x p2_pins) (fun w => w = (W_X6_spread E o_t a_t o_p1 a_p1 o_p2 a_p2 r.1 r.2.1 r.2.2.1 r.2.2.2.1 r.2.2.2.2 p1_told p1_barred p1_one p1_other p1_fits p2_told p2_round p2_x p2_pins)) none := by
  refine Cn.ofV (by decide +kernel) (Nat.le_of_ble_eq_true rfl) (fun X hX hR C hret => ?_)
  subst hX
  show Gx X E 0 0 (W_X6_spread E o_t a_t o_p1 a_p1 o_p2 a_p2 t_size t_next t_left t_used t_rooms p1_told p1_barred p1_one p1_other p1_fits p2_told p2_round p2_x p2_pins) 0 [(0, .ref o_t), (1, .ref o_p1), (2, .ref o_p2), (3, .int x3), (4, .int x4)] []
  unfold f_X6_spread at h
  refine g_aload_n (pc := 0) C dX6_spread_0 rfl 0 rfl ?_
  refine g_aload_n (pc := 1) C dX6_spread_1 rfl 1 rfl ?_
  obtain ⟨u1, hu1, h⟩ := bs h
  refine g_callV (pc := 2) (st := []) (st1 := []) (ws' := (W_X6_spread E o_t a_t o_p1 a_p1 o_p2 a_p2 t_size u1 t_left t_used t_rooms p1_told p1_barred p1_one p1_other p1_fits p2_told p2_round p2_x p2_pins)) C mv_X6_joinRooms mi_X6_joinRooms ml_X6_24 (c_X6_joinRooms X.2.1 E o_t a_t o_p1 a_p1 t_size t_next p1_told p1_barred p1_one p1_other p1_fits u1 hu1) dX6_spread_2 (by decide) rfl (Nat.le_of_ble_eq_true rfl) 0 5 rfl rfl [0, 1, 5, 6, 7, 8] rfl (by decide) rfl rfl rfl rfl ?_
  refine g_iconst (pc := 5) (v := 0) C dX6_spread_5 (by decide) ?_
  refine g_istore (pc := 6) (lv' := [(5, .int (0 : Int32)), (0, .ref o_t), (1, .ref o_p1), (2, .ref o_p2), (3, .int x3), (4, .int x4)]) C dX6_spread_6 (by decide) rfl ?_
  refine g_sub [1, 3, 4, 5, 0] rfl ?_
  refine kL_X6_spread_8 C o_t a_t o_p1 a_p1 o_p2 a_p2 p2_round p2_x t_size u1 t_used t_rooms p1_told p1_barred p1_one p1_other p1_fits p2_told p2_pins x3 x4 _ hret (fun s5 h => ?_) _ _ h
  refine g_aload_n (pc := 35) C dX6_spread_35 rfl 0 rfl ?_
  refine g_get (pc := 36) C fl_X6_21 dX6_spread_36 0 rfl rfl ?_
  refine g_iconst (pc := 39) (v := 0) C dX6_spread_39 (by decide) ?_
  obtain ⟨u6, hu6, h⟩ := bs h
  refine g_callS (pc := 40) (st := []) (st1 := []) (ws' := (W_X6_spread E o_t a_t o_p1 a_p1 o_p2 a_p2 t_size u1 s5 t_used u6 p1_told p1_barred p1_one p1_other p1_fits p2_told p2_round p2_x p2_pins)) C mv_J7_fill_53178 ms_J7_fill_53178 ml_X6_34 (c_J7_fill_53178 X.2.1 E (a_t 3) 924 t_rooms (0 : Int32) u6 hu6) dX6_spread_40 (by decide) rfl (Nat.le_of_ble_eq_true rfl) [4] rfl (by decide) rfl rfl rfl rfl ?_
  refine g_aload_n (pc := 43) C dX6_spread_43 rfl 0 rfl ?_
  refine g_get (pc := 44) C fl_X6_18 dX6_spread_44 0 rfl rfl ?_
  refine g_iconst (pc := 47) (v := 0) C dX6_spread_47 (by decide) ?_
  refine g_iconst (pc := 48) (v := 0) C dX6_spread_48 (by decide) ?_
  refine g_iast (pc := 49) C dX6_spread_49 3 rfl h (fun g7 h => ?_)
  refine g_ws (ws' := (W_X6_spread E o_t a_t o_p1 a_p1 o_p2 a_p2 t_size u1 s5 g7 u6 p1_told p1_barred p1_one p1_other p1_fits p2_told p2_round p2_x p2_pins)) rfl ?_
  refine g_aload_n (pc := 50) C dX6_spread_50 rfl 0 rfl ?_
  refine g_get (pc := 51) C fl_X6_21 dX6_spread_51 0 rfl rfl ?_
  refine g_iconst (pc := 54) (v := 0) C dX6_spread_54 (by decide) ?_
  refine g_iconst (pc := 55) (v := 1) C dX6_spread_55 (by decide) ?_
  refine g_iload (pc := 56) C dX6_spread_56 1 rfl ?_
  refine g_ishl (pc := 58) C dX6_spread_58 ?_
  refine g_iast (pc := 59) C dX6_spread_59 4 rfl h (fun g8 h => ?_)
  refine g_ws (ws' := (W_X6_spread E o_t a_t o_p1 a_p1 o_p2 a_p2 t_size u1 s5 g7 g8 p1_told p1_barred p1_one p1_other p1_fits p2_told p2_round p2_x p2_pins)) rfl ?_
  refine g_aload_n (pc := 60) C dX6_spread_60 rfl 0 rfl ?_
  refine g_iconst (pc := 61) (v := 1) C dX6_spread_61 (by decide) ?_
  refine g_put (pc := 62) (ws' := (W_X6_spread E o_t a_t o_p1 a_p1 o_p2 a_p2 (1 : Int32) u1 s5 g7 g8 p1_told p1_barred p1_one p1_other p1_fits p2_told p2_round p2_x p2_pins)) C .int fl_X6_40 dX6_spread_62 0 rfl (by decide +kernel) rfl rfl (Nat.le_of_ble_eq_true rfl) rfl ?_
  refine g_iconst (pc := 65) (v := 0) C dX6_spread_65 (by decide) ?_
  refine g_istore (pc := 66) (lv' := [(5, .int (0 : Int32)), (0, .ref o_t), (4, .int x4)]) C dX6_spread_66 (by decide) rfl ?_
  refine g_sub [1, 0] rfl ?_
  refine kL_X6_spread_68 C o_t a_t o_p1 a_p1 o_p2 a_p2 p2_round p2_x u1 s5 p1_told p1_barred p1_one p1_other p1_fits p2_told p2_pins hret  _ _ h
abbrev W_X6_firstDoor (E : GE) (O_t : Nat) (a_t : Nat → Nat) (O_p1 : Nat) (a_p1 : Nat → Nat) (t_size : Int32) (t_left : (Nat → Int32)) (t_used : (Nat → Int32)) (t_rooms : (Nat → Int32)) (p1_told : Int32) (p1_barred : Int32) (p1_one : (Nat → Int32)) (p1_other : (Nat → Int32)) (p1_fits : (Nat → Int32)) : va_W := [(O_t, ob_X6 a_t t_size), (a_t 1, .inl (E.2.1, 6, .inl t_left)), (a_t 2, .inl (E.2.1, 924, .inl t_used)), (a_t 3, .inl (E.2.1, 924, .inl t_rooms)), (O_p1, ob_X0 a_p1 p1_told p1_barred), (a_p1 0, .inl (E.2.1, 24, .inl p1_one)), (a_p1 1, .inl (E.2.1, 24, .inl p1_other)), (a_p1 3, .inl (E.2.1, 24, .inl p1_fits))]
def L_X6_firstDoor_19 (t_size : Int32) (t_left : (Nat → Int32)) (t_used : (Nat → Int32)) (t_rooms : (Nat → Int32)) (p1_told : Int32) (p1_barred : Int32) (p1_one : (Nat → Int32)) (p1_other : (Nat → Int32)) (p1_fits : (Nat → Int32)) (x2 : Int32) (x3 : Int32) (x4 : Int32) : Nat → Int32 × Int32 → Option (Int32) := lp fun go s => if t_size ≤ s.2 then (some s.1) else if (924 : Int32) ≤ s.2 then (some s.1) else rd t_used 924 s.2 fun v4 => if (v4 >>> ((18 : Int32) &&& 31)) = (x3 - (1 : Int32)) then (rd t_used 924 s.2 fun v6 => (f_X6_lowestDoor t_left t_rooms p1_told p1_one p1_other p1_fits x2 x4 v6).bind fun u7 => nm (imin s.1 u7) fun v8 => nm (s.2 + (1 : Int32)) fun v9 => go (v8, v9)) else nm (s.2 + (1 : Int32)) fun v5 => go (s.1, v5)
def f_X6_firstDoor (t_size : Int32) (t_left : (Nat → Int32)) (t_used : (Nat → Int32)) (t_rooms : (Nat → Int32)) (p1_told : Int32) (p1_barred : Int32) (p1_one : (Nat → Int32)) (p1_other : (Nat → Int32)) (p1_fits : (Nat → Int32)) (x2 : Int32) (x3 : Int32) : Option (Int32) := (f_X0_unbarred p1_told p1_barred).bind fun u1 => (f_X0_ofRoom p1_told p1_one p1_other x2).bind fun u2 => nm (u1 &&& u2) fun v3 => L_X6_firstDoor_19 t_size t_left t_used t_rooms p1_told p1_barred p1_one p1_other p1_fits x2 x3 v3 fu ((24 : Int32), (0 : Int32))
theorem dX6_firstDoor_0 : decode cX6_firstDoor 0 = .ok (.aload_n 1, 1) := by decide +kernel
theorem dX6_firstDoor_1 : decode cX6_firstDoor 1 = .ok (.invokevirtual 48, 3) := by decide +kernel
theorem dX6_firstDoor_4 : decode cX6_firstDoor 4 = .ok (.aload_n 1, 1) := by decide +kernel
theorem dX6_firstDoor_5 : decode cX6_firstDoor 5 = .ok (.iload_n 2, 1) := by decide +kernel
theorem dX6_firstDoor_6 : decode cX6_firstDoor 6 = .ok (.invokevirtual 82, 3) := by decide +kernel
theorem dX6_firstDoor_9 : decode cX6_firstDoor 9 = .ok (.iand, 1) := by decide +kernel
theorem dX6_firstDoor_10 : decode cX6_firstDoor 10 = .ok (.istore 4, 2) := by decide +kernel
theorem dX6_firstDoor_12 : decode cX6_firstDoor 12 = .ok (.bipush 24, 2) := by decide +kernel
theorem dX6_firstDoor_14 : decode cX6_firstDoor 14 = .ok (.istore 5, 2) := by decide +kernel
theorem dX6_firstDoor_16 : decode cX6_firstDoor 16 = .ok (.iconst 0, 1) := by decide +kernel
theorem dX6_firstDoor_17 : decode cX6_firstDoor 17 = .ok (.istore 6, 2) := by decide +kernel
theorem dX6_firstDoor_19 : decode cX6_firstDoor 19 = .ok (.iload 6, 2) := by decide +kernel
theorem dX6_firstDoor_21 : decode cX6_firstDoor 21 = .ok (.aload_n 0, 1) := by decide +kernel
theorem dX6_firstDoor_22 : decode cX6_firstDoor 22 = .ok (.getfield 40, 3) := by decide +kernel
theorem dX6_firstDoor_25 : decode cX6_firstDoor 25 = .ok (.if_icmp .ge 55, 3) := by decide +kernel
theorem dX6_firstDoor_28 : decode cX6_firstDoor 28 = .ok (.iload 6, 2) := by decide +kernel
theorem dX6_firstDoor_30 : decode cX6_firstDoor 30 = .ok (.sipush 924, 3) := by decide +kernel
theorem dX6_firstDoor_33 : decode cX6_firstDoor 33 = .ok (.if_icmp .ge 47, 3) := by decide +kernel
theorem dX6_firstDoor_36 : decode cX6_firstDoor 36 = .ok (.aload_n 0, 1) := by decide +kernel
theorem dX6_firstDoor_37 : decode cX6_firstDoor 37 = .ok (.getfield 18, 3) := by decide +kernel
theorem dX6_firstDoor_40 : decode cX6_firstDoor 40 = .ok (.iload 6, 2) := by decide +kernel
theorem dX6_firstDoor_42 : decode cX6_firstDoor 42 = .ok (.iaload, 1) := by decide +kernel
theorem dX6_firstDoor_43 : decode cX6_firstDoor 43 = .ok (.bipush 18, 2) := by decide +kernel
theorem dX6_firstDoor_45 : decode cX6_firstDoor 45 = .ok (.ishr, 1) := by decide +kernel
theorem dX6_firstDoor_46 : decode cX6_firstDoor 46 = .ok (.iload_n 3, 1) := by decide +kernel
theorem dX6_firstDoor_47 : decode cX6_firstDoor 47 = .ok (.iconst 1, 1) := by decide +kernel
theorem dX6_firstDoor_48 : decode cX6_firstDoor 48 = .ok (.isub, 1) := by decide +kernel
theorem dX6_firstDoor_49 : decode cX6_firstDoor 49 = .ok (.if_icmp .ne 25, 3) := by decide +kernel
theorem dX6_firstDoor_52 : decode cX6_firstDoor 52 = .ok (.iload 5, 2) := by decide +kernel
theorem dX6_firstDoor_54 : decode cX6_firstDoor 54 = .ok (.aload_n 0, 1) := by decide +kernel
theorem dX6_firstDoor_55 : decode cX6_firstDoor 55 = .ok (.aload_n 1, 1) := by decide +kernel
theorem dX6_firstDoor_56 : decode cX6_firstDoor 56 = .ok (.iload_n 2, 1) := by decide +kernel
theorem dX6_firstDoor_57 : decode cX6_firstDoor 57 = .ok (.iload 4, 2) := by decide +kernel
theorem dX6_firstDoor_59 : decode cX6_firstDoor 59 = .ok (.aload_n 0, 1) := by decide +kernel
theorem dX6_firstDoor_60 : decode cX6_firstDoor 60 = .ok (.getfield 18, 3) := by decide +kernel
theorem dX6_firstDoor_63 : decode cX6_firstDoor 63 = .ok (.iload 6, 2) := by decide +kernel
theorem dX6_firstDoor_65 : decode cX6_firstDoor 65 = .ok (.iaload, 1) := by decide +kernel
theorem dX6_firstDoor_66 : decode cX6_firstDoor 66 = .ok (.invokevirtual 85, 3) := by decide +kernel
theorem dX6_firstDoor_69 : decode cX6_firstDoor 69 = .ok (.invokestatic 74, 3) := by decide +kernel
theorem dX6_firstDoor_72 : decode cX6_firstDoor 72 = .ok (.istore 5, 2) := by decide +kernel
theorem dX6_firstDoor_74 : decode cX6_firstDoor 74 = .ok (.iinc 6 1, 3) := by decide +kernel
theorem dX6_firstDoor_77 : decode cX6_firstDoor 77 = .ok (.goto (-58), 3) := by decide +kernel
theorem dX6_firstDoor_80 : decode cX6_firstDoor 80 = .ok (.iload 5, 2) := by decide +kernel
theorem dX6_firstDoor_82 : decode cX6_firstDoor 82 = .ok (.ireturn, 1) := by decide +kernel
set_option maxHeartbeats 4000000 in
set_option maxRecDepth 100000 in
theorem kL_X6_firstDoor_19 {X : GC} {E : GE} (C : Cx X E cX6_firstDoor RX6 4 7) (o_t : Nat) (a_t : Nat → Nat) (o_p1 : Nat) (a_p1 : Nat → Nat) (t_size : Int32) (t_left : (Nat → Int32)) (t_used : (Nat → Int32)) (t_rooms : (Nat → Int32)) (p1_told : Int32) (p1_barred : Int32) (p1_one : (Nat → Int32)) (p1_other : (Nat → Int32)) (p1_fits : (Nat → Int32)) (x2 : Int32) (x3 : Int32) (x4 : Int32) {r : Int32} (hret : RtI X E cX6_firstDoor .int 0 0 (fun w => w = (W_X6_firstDoor E o_t a_t o_p1 a_p1 t_size t_left t_used t_rooms p1_told p1_barred p1_one p1_other p1_fits)) r) : ∀ (n : Nat) (s : Int32 × Int32), L_X6_firstDoor_19 t_size t_left t_used t_rooms p1_told p1_barred p1_one p1_other p1_fits x2 x3 x4 n s = some r → Gx X E 0 0 (W_X6_firstDoor E o_t a_t o_p1 a_p1 t_size t_left t_used t_rooms p1_told p1_barred p1_one p1_other p1_fits) 19 [(0, .ref o_t), (1, .ref o_p1), (2, .int x2), (3, .int x3), (4, .int x4), (5, .int s.1), (6, .int s.2)] [] := by
  unfold L_X6_firstDoor_19
  refine lp_ind _ (fun go ih s h => ?_)
  refine g_iload (pc := 19) C dX6_firstDoor_19 6 rfl ?_
  refine g_aload_n (pc := 21) C dX6_firstDoor_21 rfl 0 rfl ?_
  refine g_get (pc := 22) C fl_X6_40 dX6_firstDoor_22 0 rfl rfl ?_
  refine g_icmp_ge (pc := 25) (tgt := 80) C dX6_firstDoor_25 (by decide) h (fun h => ?_) (fun h => ?_)
  · refine g_iload (pc := 80) C dX6_firstDoor_80 5 rfl ?_
    cases h
    exact hret _ _ _ dX6_firstDoor_82 rfl rfl
  · refine g_iload (pc := 28) C dX6_firstDoor_28 6 rfl ?_
    refine g_sipush (pc := 30) (v := 924) C dX6_firstDoor_30 (by decide) ?_
    refine g_icmp_ge (pc := 33) (tgt := 80) C dX6_firstDoor_33 (by decide) h (fun h => ?_) (fun h => ?_)
    · refine g_iload (pc := 80) C dX6_firstDoor_80 5 rfl ?_
      cases h
      exact hret _ _ _ dX6_firstDoor_82 rfl rfl
    · refine g_aload_n (pc := 36) C dX6_firstDoor_36 rfl 0 rfl ?_
      refine g_get (pc := 37) C fl_X6_18 dX6_firstDoor_37 0 rfl rfl ?_
      refine g_iload (pc := 40) C dX6_firstDoor_40 6 rfl ?_
      refine g_iald (pc := 42) C dX6_firstDoor_42 2 rfl h (fun v4 h => ?_)
      refine g_bipush (pc := 43) (v := 18) C dX6_firstDoor_43 (by decide) ?_
      refine g_ishr (pc := 45) C dX6_firstDoor_45 ?_
      refine g_iload_n (pc := 46) C dX6_firstDoor_46 rfl 3 rfl ?_
      refine g_iconst (pc := 47) (v := 1) C dX6_firstDoor_47 (by decide) ?_
      refine g_isub (pc := 48) C dX6_firstDoor_48 ?_
      refine g_icmp_ne (pc := 49) (tgt := 74) C dX6_firstDoor_49 (by decide) h (fun h => ?_) (fun h => ?_)
      · refine g_iincn (pc := 74) (j := 6) (d := 1) (lv' := fun v5 => [(6, .int v5), (0, .ref o_t), (1, .ref o_p1), (2, .int x2), (3, .int x3), (4, .int x4), (5, .int s.1)]) C dX6_firstDoor_74 rfl (by decide) (by decide) (fun _ => rfl) h (fun v5 h => ?_)
        refine g_goto (pc := 77) (tgt := 19) C dX6_firstDoor_77 (by decide) ?_
        refine g_sub [1, 2, 3, 4, 5, 6, 0] rfl ?_
        exact ih _ h
      · refine g_iload (pc := 52) C dX6_firstDoor_52 5 rfl ?_
        refine g_aload_n (pc := 54) C dX6_firstDoor_54 rfl 0 rfl ?_
        refine g_aload_n (pc := 55) C dX6_firstDoor_55 rfl 1 rfl ?_
        refine g_iload_n (pc := 56) C dX6_firstDoor_56 rfl 2 rfl ?_
        refine g_iload (pc := 57) C dX6_firstDoor_57 4 rfl ?_
        refine g_aload_n (pc := 59) C dX6_firstDoor_59 rfl 0 rfl ?_
        refine g_get (pc := 60) C fl_X6_18 dX6_firstDoor_60 0 rfl rfl ?_
        refine g_iload (pc := 63) C dX6_firstDoor_63 6 rfl ?_
        refine g_iald (pc := 65) C dX6_firstDoor_65 2 rfl h (fun v6 h => ?_)
        obtain ⟨u7, hu7, h⟩ := bs h
        refine g_callV (pc := 66) (st := [.int s.1]) (st1 := [.int u7, .int s.1]) (ws' := (W_X6_firstDoor E o_t a_t o_p1 a_p1 t_size t_left t_used t_rooms p1_told p1_barred p1_one p1_other p1_fits)) C mv_X6_lowestDoor mi_X6_lowestDoor ml_X6_85 (c_X6_lowestDoor X.2.1 E o_t a_t o_p1 a_p1 t_size t_left t_rooms p1_told p1_barred p1_one p1_other p1_fits x2 x4 v6 u7 hu7) dX6_firstDoor_66 (by decide) rfl (Nat.le_of_ble_eq_true rfl) 0 5 rfl rfl [0, 1, 3, 4, 5, 6, 7] rfl (by decide) rfl rfl rfl rfl ?_
        refine g_mmin (pc := 69) C ml_X6_74 ms_min mini_Math mcode_min (Nat.le_of_ble_eq_true rfl) ⟨Nat.zero_le _, Nat.zero_le _⟩ dX6_firstDoor_69 ?_
        refine g_nm h (fun v8 h => ?_)
        refine g_istore (pc := 72) (lv' := [(5, .int v8), (0, .ref o_t), (1, .ref o_p1), (2, .int x2), (3, .int x3), (4, .int x4), (6, .int s.2)]) C dX6_firstDoor_72 (by decide) rfl ?_
        refine g_iincn (pc := 74) (j := 6) (d := 1) (lv' := fun v9 => [(6, .int v9), (5, .int v8), (0, .ref o_t), (1, .ref o_p1), (2, .int x2), (3, .int x3), (4, .int x4)]) C dX6_firstDoor_74 rfl (by decide) (by decide) (fun _ => rfl) h (fun v9 h => ?_)
        refine g_goto (pc := 77) (tgt := 19) C dX6_firstDoor_77 (by decide) ?_
        refine g_sub [2, 3, 4, 5, 6, 1, 0] rfl ?_
        exact ih _ h
set_option maxHeartbeats 4000000 in
set_option maxRecDepth 100000 in
theorem c_X6_firstDoor (l : Launch) (E : GE) (o_t : Nat) (a_t : Nat → Nat) (o_p1 : Nat) (a_p1 : Nat → Nat) (t_size : Int32) (t_left : (Nat → Int32)) (t_used : (Nat → Int32)) (t_rooms : (Nat → Int32)) (p1_told : Int32) (p1_barred : Int32) (p1_one : (Nat → Int32)) (p1_other : (Nat → Int32)) (p1_fits : (Nat → Int32)) (x2 : Int32) (x3 : Int32) (r : Int32) (h : f_X6_firstDoor t_size t_left t_used t_rooms p1_told p1_barred p1_one p1_other p1_fits x2 x3 = some r) : Cn l E yX6_firstDoor cX6_firstDoor 7 (some .int) 4 0 0 [.ref o_t, .ref o_p1, .int x2, .int x3] (W_X6_firstDoor E o_t a_t o_p1 a_p1 t_size t_left t_used t_rooms p1_told p1_barred p1_one p1_other p1_fits) (fun w => w = (W_X6_firstDoor E o_t a_t o_p1 a_p1 t_size t_left t_used t_rooms p1_told p1_barred p1_one p1_other p1_fits)) (some (.int r)) := by
  refine Cn.ofI (by decide +kernel) (Nat.le_of_ble_eq_true rfl) (fun X hX hR C hret => ?_)
  subst hX
  show Gx X E 0 0 (W_X6_firstDoor E o_t a_t o_p1 a_p1 t_size t_left t_used t_rooms p1_told p1_barred p1_one p1_other p1_fits) 0 [(0, .ref o_t), (1, .ref o_p1), (2, .int x2), (3, .int x3)] []
  unfold f_X6_firstDoor at h
  refine g_aload_n (pc := 0) C dX6_firstDoor_0 rfl 1 rfl ?_
  obtain ⟨u1, hu1, h⟩ := bs h
  refine g_callV (pc := 1) (st := []) (st1 := [.int u1]) (ws' := (W_X6_firstDoor E o_t a_t o_p1 a_p1 t_size t_left t_used t_rooms p1_told p1_barred p1_one p1_other p1_fits)) C mv_X0_unbarred mi_X0_unbarred ml_X6_48 (c_X0_unbarred X.2.1 E o_p1 a_p1 p1_told p1_barred u1 hu1) dX6_firstDoor_1 (by decide) rfl (Nat.le_of_ble_eq_true rfl) 4 0 rfl rfl [4] rfl (by decide) rfl rfl rfl rfl ?_
  refine g_aload_n (pc := 4) C dX6_firstDoor_4 rfl 1 rfl ?_
  refine g_iload_n (pc := 5) C dX6_firstDoor_5 rfl 2 rfl ?_
  obtain ⟨u2, hu2, h⟩ := bs h
  refine g_callV (pc := 6) (st := [.int u1]) (st1 := [.int u2, .int u1]) (ws' := (W_X6_firstDoor E o_t a_t o_p1 a_p1 t_size t_left t_used t_rooms p1_told p1_barred p1_one p1_other p1_fits)) C mv_X0_ofRoom mi_X0_ofRoom ml_X6_82 (c_X0_ofRoom X.2.1 E o_p1 a_p1 p1_told p1_barred p1_one p1_other x2 u2 hu2) dX6_firstDoor_6 (by decide) rfl (Nat.le_of_ble_eq_true rfl) 4 0 rfl rfl [4, 5, 6] rfl (by decide) rfl rfl rfl rfl ?_
  refine g_iand (pc := 9) C dX6_firstDoor_9 ?_
  refine g_nm h (fun v3 h => ?_)
  refine g_istore (pc := 10) (lv' := [(4, .int v3), (0, .ref o_t), (1, .ref o_p1), (2, .int x2), (3, .int x3)]) C dX6_firstDoor_10 (by decide) rfl ?_
  refine g_bipush (pc := 12) (v := 24) C dX6_firstDoor_12 (by decide) ?_
  refine g_istore (pc := 14) (lv' := [(5, .int (24 : Int32)), (4, .int v3), (0, .ref o_t), (1, .ref o_p1), (2, .int x2), (3, .int x3)]) C dX6_firstDoor_14 (by decide) rfl ?_
  refine g_iconst (pc := 16) (v := 0) C dX6_firstDoor_16 (by decide) ?_
  refine g_istore (pc := 17) (lv' := [(6, .int (0 : Int32)), (5, .int (24 : Int32)), (4, .int v3), (0, .ref o_t), (1, .ref o_p1), (2, .int x2), (3, .int x3)]) C dX6_firstDoor_17 (by decide) rfl ?_
  refine g_sub [3, 4, 5, 6, 2, 1, 0] rfl ?_
  refine kL_X6_firstDoor_19 C o_t a_t o_p1 a_p1 t_size t_left t_used t_rooms p1_told p1_barred p1_one p1_other p1_fits x2 x3 v3 hret  _ _ h
