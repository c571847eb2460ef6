abbrev W_X5_ringMoves (E : GE) : va_W := []
def L_X5_ringMoves_4 : Nat → Int32 × Int32 → Option (Int32) := lp fun go s => if (8 : Int32) < s.2 then (some s.1) else nm (s.1 ^^^ (s.1 >>> (s.2 &&& 31))) fun v1 => nm (s.2 * (2 : Int32)) fun v2 => go (v1, v2)
def f_X5_ringMoves (x0 : Int32) : Option (Int32) := L_X5_ringMoves_4 fu (x0, (1 : Int32))
theorem dX5_ringMoves_0 : decode cX5_ringMoves 0 = .ok (.iload_n 0, 1) := by decide +kernel
theorem dX5_ringMoves_1 : decode cX5_ringMoves 1 = .ok (.istore_n 1, 1) := by decide +kernel
theorem dX5_ringMoves_2 : decode cX5_ringMoves 2 = .ok (.iconst 1, 1) := by decide +kernel
theorem dX5_ringMoves_3 : decode cX5_ringMoves 3 = .ok (.istore_n 2, 1) := by decide +kernel
theorem dX5_ringMoves_4 : decode cX5_ringMoves 4 = .ok (.iload_n 2, 1) := by decide +kernel
theorem dX5_ringMoves_5 : decode cX5_ringMoves 5 = .ok (.bipush 8, 2) := by decide +kernel
theorem dX5_ringMoves_7 : decode cX5_ringMoves 7 = .ok (.if_icmp .gt 16, 3) := by decide +kernel
theorem dX5_ringMoves_10 : decode cX5_ringMoves 10 = .ok (.iload_n 1, 1) := by decide +kernel
theorem dX5_ringMoves_11 : decode cX5_ringMoves 11 = .ok (.iload_n 1, 1) := by decide +kernel
theorem dX5_ringMoves_12 : decode cX5_ringMoves 12 = .ok (.iload_n 2, 1) := by decide +kernel
theorem dX5_ringMoves_13 : decode cX5_ringMoves 13 = .ok (.ishr, 1) := by decide +kernel
theorem dX5_ringMoves_14 : decode cX5_ringMoves 14 = .ok (.ixor, 1) := by decide +kernel
theorem dX5_ringMoves_15 : decode cX5_ringMoves 15 = .ok (.istore_n 1, 1) := by decide +kernel
theorem dX5_ringMoves_16 : decode cX5_ringMoves 16 = .ok (.iload_n 2, 1) := by decide +kernel
theorem dX5_ringMoves_17 : decode cX5_ringMoves 17 = .ok (.iconst 2, 1) := by decide +kernel
theorem dX5_ringMoves_18 : decode cX5_ringMoves 18 = .ok (.imul, 1) := by decide +kernel
theorem dX5_ringMoves_19 : decode cX5_ringMoves 19 = .ok (.istore_n 2, 1) := by decide +kernel
theorem dX5_ringMoves_20 : decode cX5_ringMoves 20 = .ok (.goto (-16), 3) := by decide +kernel
theorem dX5_ringMoves_23 : decode cX5_ringMoves 23 = .ok (.iload_n 1, 1) := by decide +kernel
theorem dX5_ringMoves_24 : decode cX5_ringMoves 24 = .ok (.ireturn, 1) := by decide +kernel
set_option maxHeartbeats 4000000 in
set_option maxRecDepth 100000 in
theorem kL_X5_ringMoves_4 {X : GC} {E : GE} (C : Cx X E cX5_ringMoves RX5 1 3) {r : Int32} (hret : RtI X E cX5_ringMoves .int 0 0 (fun w => w = (W_X5_ringMoves E)) r) : ∀ (n : Nat) (s : Int32 × Int32), L_X5_ringMoves_4 n s = some r → Gx X E 0 0 (W_X5_ringMoves E) 4 [(1, .int s.1), (2, .int s.2)] [] := by
  unfold L_X5_ringMoves_4
  refine lp_ind _ (fun go ih s h => ?_)
  refine g_iload_n (pc := 4) C dX5_ringMoves_4 rfl 1 rfl ?_
  refine g_bipush (pc := 5) (v := 8) C dX5_ringMoves_5 (by decide) ?_
  refine g_icmp_gt (pc := 7) (tgt := 23) C dX5_ringMoves_7 (by decide) h (fun h => ?_) (fun h => ?_)
  · refine g_iload_n (pc := 23) C dX5_ringMoves_23 rfl 0 rfl ?_
    cases h
    exact hret _ _ _ dX5_ringMoves_24 rfl rfl
  · refine g_iload_n (pc := 10) C dX5_ringMoves_10 rfl 0 rfl ?_
    refine g_iload_n (pc := 11) C dX5_ringMoves_11 rfl 0 rfl ?_
    refine g_iload_n (pc := 12) C dX5_ringMoves_12 rfl 1 rfl ?_
    refine g_ishr (pc := 13) C dX5_ringMoves_13 ?_
    refine g_ixor (pc := 14) C dX5_ringMoves_14 ?_
    refine g_nm h (fun v1 h => ?_)
    refine g_istore_n (pc := 15) (lv' := [(1, .int v1), (2, .int s.2)]) C dX5_ringMoves_15 rfl (by decide) rfl ?_
    refine g_iload_n (pc := 16) C dX5_ringMoves_16 rfl 1 rfl ?_
    refine g_iconst (pc := 17) (v := 2) C dX5_ringMoves_17 (by decide) ?_
    refine g_imul (pc := 18) C dX5_ringMoves_18 ?_
    refine g_nm h (fun v2 h => ?_)
    refine g_istore_n (pc := 19) (lv' := [(2, .int v2), (1, .int v1)]) C dX5_ringMoves_19 rfl (by decide) rfl ?_
    refine g_goto (pc := 20) (tgt := 4) C dX5_ringMoves_20 (by decide) ?_
    refine g_sub [1, 0] rfl ?_
    exact ih _ h
set_option maxHeartbeats 4000000 in
set_option maxRecDepth 100000 in
theorem c_X5_ringMoves (l : Launch) (E : GE) (x0 : Int32) (r : Int32) (h : f_X5_ringMoves x0 = some r) : Cn l E yX5_ringMoves cX5_ringMoves 3 (some .int) 1 0 0 [.int x0] (W_X5_ringMoves E) (fun w => w = (W_X5_ringMoves E)) (some (.int r)) := by
  refine Cn.ofI (by decide +kernel) (Nat.le_of_ble_eq_true rfl) (fun X hX hR C hret => ?_)
  subst hX
  show Gx X E 0 0 (W_X5_ringMoves E) 0 [(0, .int x0)] []
  unfold f_X5_ringMoves at h
  refine g_iload_n (pc := 0) C dX5_ringMoves_0 rfl 0 rfl ?_
  refine g_istore_n (pc := 1) (lv' := [(1, .int x0), (0, .int x0)]) C dX5_ringMoves_1 rfl (by decide) rfl ?_
  refine g_iconst (pc := 2) (v := 1) C dX5_ringMoves_2 (by decide) ?_
  refine g_istore_n (pc := 3) (lv' := [(2, .int (1 : Int32)), (1, .int x0), (0, .int x0)]) C dX5_ringMoves_3 rfl (by decide) rfl ?_
  refine g_sub [1, 0] rfl ?_
  refine kL_X5_ringMoves_4 C  hret  _ _ h
abbrev W_X5_areColours (E : GE) (O_p0 : Nat) (a_p0 : Nat → Nat) (p0_size : Int32) (p0_bytes : (Nat → Int32)) : va_W := [(O_p0, ob_X8 a_p0 p0_size), (a_p0 0, .inl (E.2.1, 260, .inl p0_bytes))]
def L_X5_areColours_9 (p0_size : Int32) (p0_bytes : (Nat → Int32)) (x1 : Int32) (x2 : Int32) (k0 : Unit → Option (Int32)) : Nat → Int32 → Option (Int32) := lp fun go s => if (4 : Int32) ≤ s then (k0 ()) else (f_X8_at p0_size p0_bytes (((6 : Int32) * x2) + s)).bind fun u1 => if u1 < (6 : Int32) then (nm (s + (1 : Int32)) fun v2 => go v2) else some (0 : Int32)
def L_X5_areColours_2 (p0_size : Int32) (p0_bytes : (Nat → Int32)) (x1 : Int32) : Nat → Int32 → Option (Int32) := lp fun go s => if x1 ≤ s then (some (1 : Int32)) else L_X5_areColours_9 p0_size p0_bytes x1 s (fun s3 => nm (s + (1 : Int32)) fun v4 => go v4) fu (0 : Int32)
def f_X5_areColours (p0_size : Int32) (p0_bytes : (Nat → Int32)) (x1 : Int32) : Option (Int32) := L_X5_areColours_2 p0_size p0_bytes x1 fu (0 : Int32)
theorem dX5_areColours_0 : decode cX5_areColours 0 = .ok (.iconst 0, 1) := by decide +kernel
theorem dX5_areColours_1 : decode cX5_areColours 1 = .ok (.istore_n 2, 1) := by decide +kernel
theorem dX5_areColours_2 : decode cX5_areColours 2 = .ok (.iload_n 2, 1) := by decide +kernel
theorem dX5_areColours_3 : decode cX5_areColours 3 = .ok (.iload_n 1, 1) := by decide +kernel
theorem dX5_areColours_4 : decode cX5_areColours 4 = .ok (.if_icmp .ge 39, 3) := by decide +kernel
theorem dX5_areColours_7 : decode cX5_areColours 7 = .ok (.iconst 0, 1) := by decide +kernel
theorem dX5_areColours_8 : decode cX5_areColours 8 = .ok (.istore_n 3, 1) := by decide +kernel
theorem dX5_areColours_9 : decode cX5_areColours 9 = .ok (.iload_n 3, 1) := by decide +kernel
theorem dX5_areColours_10 : decode cX5_areColours 10 = .ok (.iconst 4, 1) := by decide +kernel
theorem dX5_areColours_11 : decode cX5_areColours 11 = .ok (.if_icmp .ge 26, 3) := by decide +kernel
theorem dX5_areColours_14 : decode cX5_areColours 14 = .ok (.aload_n 0, 1) := by decide +kernel
theorem dX5_areColours_15 : decode cX5_areColours 15 = .ok (.bipush 6, 2) := by decide +kernel
theorem dX5_areColours_17 : decode cX5_areColours 17 = .ok (.iload_n 2, 1) := by decide +kernel
theorem dX5_areColours_18 : decode cX5_areColours 18 = .ok (.imul, 1) := by decide +kernel
theorem dX5_areColours_19 : decode cX5_areColours 19 = .ok (.iload_n 3, 1) := by decide +kernel
theorem dX5_areColours_20 : decode cX5_areColours 20 = .ok (.iadd, 1) := by decide +kernel
theorem dX5_areColours_21 : decode cX5_areColours 21 = .ok (.invokevirtual 11, 3) := by decide +kernel
theorem dX5_areColours_24 : decode cX5_areColours 24 = .ok (.bipush 6, 2) := by decide +kernel
theorem dX5_areColours_26 : decode cX5_areColours 26 = .ok (.if_icmp .lt 5, 3) := by decide +kernel
theorem dX5_areColours_29 : decode cX5_areColours 29 = .ok (.iconst 0, 1) := by decide +kernel
theorem dX5_areColours_30 : decode cX5_areColours 30 = .ok (.ireturn, 1) := by decide +kernel
theorem dX5_areColours_31 : decode cX5_areColours 31 = .ok (.iinc 3 1, 3) := by decide +kernel
theorem dX5_areColours_34 : decode cX5_areColours 34 = .ok (.goto (-25), 3) := by decide +kernel
theorem dX5_areColours_37 : decode cX5_areColours 37 = .ok (.iinc 2 1, 3) := by decide +kernel
theorem dX5_areColours_40 : decode cX5_areColours 40 = .ok (.goto (-38), 3) := by decide +kernel
theorem dX5_areColours_43 : decode cX5_areColours 43 = .ok (.iconst 1, 1) := by decide +kernel
theorem dX5_areColours_44 : decode cX5_areColours 44 = .ok (.ireturn, 1) := by decide +kernel
set_option maxHeartbeats 4000000 in
set_option maxRecDepth 100000 in
theorem kL_X5_areColours_9 {X : GC} {E : GE} (C : Cx X E cX5_areColours RX5 2 4) (o_p0 : Nat) (a_p0 : Nat → Nat) (p0_size : Int32) (p0_bytes : (Nat → Int32)) (x1 : Int32) (x2 : Int32) (k0 : Unit → Option (Int32)) {r : Int32} (hret : RtI X E cX5_areColours .boolean 0 0 (fun w => w = (W_X5_areColours E o_p0 a_p0 p0_size p0_bytes)) r) (hk0 : ∀ u, k0 u = some r → Gx X E 0 0 (W_X5_areColours E o_p0 a_p0 p0_size p0_bytes) 37 [(0, .ref o_p0), (1, .int x1), (2, .int x2)] []) : ∀ (n : Nat) (s : Int32), L_X5_areColours_9 p0_size p0_bytes x1 x2 k0 n s = some r → Gx X E 0 0 (W_X5_areColours E o_p0 a_p0 p0_size p0_bytes) 9 [(0, .ref o_p0), (1, .int x1), (2, .int x2), (3, .int s)] [] := by
  unfold L_X5_areColours_9
  refine lp_ind _ (fun go ih s h => ?_)
  refine g_iload_n (pc := 9) C dX5_areColours_9 rfl 3 rfl ?_
  refine g_iconst (pc := 10) (v := 4) C dX5_areColours_10 (by decide) ?_
  refine g_icmp_ge (pc := 11) (tgt := 37) C dX5_areColours_11 (by decide) h (fun h => ?_) (fun h => ?_)
  · refine g_sub [0, 1, 2] rfl ?_
    exact hk0 _ h
  · refine g_aload_n (pc := 14) C dX5_areColours_14 rfl 0 rfl ?_
    refine g_bipush (pc := 15) (v := 6) C dX5_areColours_15 (by decide) ?_
    refine g_iload_n (pc := 17) C dX5_areColours_17 rfl 2 rfl ?_
    refine g_imul (pc := 18) C dX5_areColours_18 ?_
    refine g_iload_n (pc := 19) C dX5_areColours_19 rfl 3 rfl ?_
    refine g_iadd (pc := 20) C dX5_areColours_20 ?_
    obtain ⟨u1, hu1, h⟩ := bs h
    refine g_callV (pc := 21) (st := []) (st1 := [.int u1]) (ws' := (W_X5_areColours E o_p0 a_p0 p0_size p0_bytes)) C mv_X8_at mi_X8_at ml_X5_11 (c_X8_at X.2.1 E o_p0 a_p0 p0_size p0_bytes (((6 : Int32) * x2) + s) u1 hu1) dX5_areColours_21 (by decide) rfl (Nat.le_of_ble_eq_true rfl) 0 7 rfl rfl [0, 1] rfl (by decide) rfl rfl rfl rfl ?_
    refine g_bipush (pc := 24) (v := 6) C dX5_areColours_24 (by decide) ?_
    refine g_icmp_lt (pc := 26) (tgt := 31) C dX5_areColours_26 (by decide) h (fun h => ?_) (fun h => ?_)
    · refine g_iincn (pc := 31) (j := 3) (d := 1) (lv' := fun v2 => [(3, .int v2), (0, .ref o_p0), (1, .int x1), (2, .int x2)]) C dX5_areColours_31 rfl (by decide) (by decide) (fun _ => rfl) h (fun v2 h => ?_)
      refine g_goto (pc := 34) (tgt := 9) C dX5_areColours_34 (by decide) ?_
      refine g_sub [1, 2, 3, 0] rfl ?_
      exact ih _ h
    · refine g_iconst (pc := 29) (v := 0) C dX5_areColours_29 (by decide) ?_
      cases h
      exact hret _ _ _ dX5_areColours_30 nb0 rfl
set_option maxHeartbeats 4000000 in
set_option maxRecDepth 100000 in
theorem kL_X5_areColours_2 {X : GC} {E : GE} (C : Cx X E cX5_areColours RX5 2 4) (o_p0 : Nat) (a_p0 : Nat → Nat) (p0_size : Int32) (p0_bytes : (Nat → Int32)) (x1 : Int32) {r : Int32} (hret : RtI X E cX5_areColours .boolean 0 0 (fun w => w = (W_X5_areColours E o_p0 a_p0 p0_size p0_bytes)) r) : ∀ (n : Nat) (s : Int32), L_X5_areColours_2 p0_size p0_bytes x1 n s = some r → Gx X E 0 0 (W_X5_areColours E o_p0 a_p0 p0_size p0_bytes) 2 [(0, .ref o_p0), (1, .int x1), (2, .int s)] [] := by
  unfold L_X5_areColours_2
  refine lp_ind _ (fun go ih s h => ?_)
  refine g_iload_n (pc := 2) C dX5_areColours_2 rfl 2 rfl ?_
  refine g_iload_n (pc := 3) C dX5_areColours_3 rfl 1 rfl ?_
  refine g_icmp_ge (pc := 4) (tgt := 43) C dX5_areColours_4 (by decide) h (fun h => ?_) (fun h => ?_)
  · refine g_iconst (pc := 43) (v := 1) C dX5_areColours_43 (by decide) ?_
    cases h
    exact hret _ _ _ dX5_areColours_44 nb1 rfl
  · refine g_iconst (pc := 7) (v := 0) C dX5_areColours_7 (by decide) ?_
    refine g_istore_n (pc := 8) (lv' := [(3, .int (0 : Int32)), (0, .ref o_p0), (1, .int x1), (2, .int s)]) C dX5_areColours_8 rfl (by decide) rfl ?_
    refine g_sub [1, 2, 3, 0] rfl ?_
    refine kL_X5_areColours_9 C o_p0 a_p0 p0_size p0_bytes x1 s _ hret (fun s3 h => ?_) _ _ h
    refine g_iincn (pc := 37) (j := 2) (d := 1) (lv' := fun v4 => [(2, .int v4), (0, .ref o_p0), (1, .int x1)]) C dX5_areColours_37 rfl (by decide) (by decide) (fun _ => rfl) h (fun v4 h => ?_)
    refine g_goto (pc := 40) (tgt := 2) C dX5_areColours_40 (by decide) ?_
    refine g_sub [1, 2, 0] rfl ?_
    exact ih _ h
set_option maxHeartbeats 4000000 in
set_option maxRecDepth 100000 in
theorem c_X5_areColours (l : Launch) (E : GE) (o_p0 : Nat) (a_p0 : Nat → Nat) (p0_size : Int32) (p0_bytes : (Nat → Int32)) (x1 : Int32) (r : Int32) (h : f_X5_areColours p0_size p0_bytes x1 = some r) : Cn l E yX5_areColours cX5_areColours 4 (some .boolean) 2 0 0 [.ref o_p0, .int x1] (W_X5_areColours E o_p0 a_p0 p0_size p0_bytes) (fun w => w = (W_X5_areColours E o_p0 a_p0 p0_size p0_bytes)) (some (.int r)) := by
  refine Cn.ofI (by decide +kernel) (Nat.le_of_ble_eq_true rfl) (fun X hX hR C hret => ?_)
  subst hX
  show Gx X E 0 0 (W_X5_areColours E o_p0 a_p0 p0_size p0_bytes) 0 [(0, .ref o_p0), (1, .int x1)] []
  unfold f_X5_areColours at h
  refine g_iconst (pc := 0) (v := 0) C dX5_areColours_0 (by decide) ?_
  refine g_istore_n (pc := 1) (lv' := [(2, .int (0 : Int32)), (0, .ref o_p0), (1, .int x1)]) C dX5_areColours_1 rfl (by decide) rfl ?_
  refine g_sub [1, 2, 0] rfl ?_
  refine kL_X5_areColours_2 C o_p0 a_p0 p0_size p0_bytes x1 hret  _ _ h
abbrev W_X5_areDials (E : GE) (O_p0 : Nat) (a_p0 : Nat → Nat) (p0_size : Int32) (p0_bytes : (Nat → Int32)) : va_W := [(O_p0, ob_X8 a_p0 p0_size), (a_p0 0, .inl (E.2.1, 260, .inl p0_bytes))]
def L_X5_areDials_2 (p0_size : Int32) (p0_bytes : (Nat → Int32)) (x1 : Int32) : Nat → Int32 → Option (Int32) := lp fun go s => if x1 ≤ s then (some (1 : Int32)) else (f_X8_at p0_size p0_bytes s).bind fun u1 => if u1 < (6 : Int32) then (nm (s + (1 : Int32)) fun v2 => go v2) else some (0 : Int32)
def f_X5_areDials (p0_size : Int32) (p0_bytes : (Nat → Int32)) (x1 : Int32) : Option (Int32) := L_X5_areDials_2 p0_size p0_bytes x1 fu (0 : Int32)
theorem dX5_areDials_0 : decode cX5_areDials 0 = .ok (.iconst 0, 1) := by decide +kernel
theorem dX5_areDials_1 : decode cX5_areDials 1 = .ok (.istore_n 2, 1) := by decide +kernel
theorem dX5_areDials_2 : decode cX5_areDials 2 = .ok (.iload_n 2, 1) := by decide +kernel
theorem dX5_areDials_3 : decode cX5_areDials 3 = .ok (.iload_n 1, 1) := by decide +kernel
theorem dX5_areDials_4 : decode cX5_areDials 4 = .ok (.if_icmp .ge 21, 3) := by decide +kernel
theorem dX5_areDials_7 : decode cX5_areDials 7 = .ok (.aload_n 0, 1) := by decide +kernel
theorem dX5_areDials_8 : decode cX5_areDials 8 = .ok (.iload_n 2, 1) := by decide +kernel
theorem dX5_areDials_9 : decode cX5_areDials 9 = .ok (.invokevirtual 11, 3) := by decide +kernel
theorem dX5_areDials_12 : decode cX5_areDials 12 = .ok (.bipush 6, 2) := by decide +kernel
theorem dX5_areDials_14 : decode cX5_areDials 14 = .ok (.if_icmp .lt 5, 3) := by decide +kernel
theorem dX5_areDials_17 : decode cX5_areDials 17 = .ok (.iconst 0, 1) := by decide +kernel
theorem dX5_areDials_18 : decode cX5_areDials 18 = .ok (.ireturn, 1) := by decide +kernel
theorem dX5_areDials_19 : decode cX5_areDials 19 = .ok (.iinc 2 1, 3) := by decide +kernel
theorem dX5_areDials_22 : decode cX5_areDials 22 = .ok (.goto (-20), 3) := by decide +kernel
theorem dX5_areDials_25 : decode cX5_areDials 25 = .ok (.iconst 1, 1) := by decide +kernel
theorem dX5_areDials_26 : decode cX5_areDials 26 = .ok (.ireturn, 1) := by decide +kernel
set_option maxHeartbeats 4000000 in
set_option maxRecDepth 100000 in
theorem kL_X5_areDials_2 {X : GC} {E : GE} (C : Cx X E cX5_areDials RX5 2 3) (o_p0 : Nat) (a_p0 : Nat → Nat) (p0_size : Int32) (p0_bytes : (Nat → Int32)) (x1 : Int32) {r : Int32} (hret : RtI X E cX5_areDials .boolean 0 0 (fun w => w = (W_X5_areDials E o_p0 a_p0 p0_size p0_bytes)) r) : ∀ (n : Nat) (s : Int32), L_X5_areDials_2 p0_size p0_bytes x1 n s = some r → Gx X E 0 0 (W_X5_areDials E o_p0 a_p0 p0_size p0_bytes) 2 [(0, .ref o_p0), (1, .int x1), (2, .int s)] [] := by
  unfold L_X5_areDials_2
  refine lp_ind _ (fun go ih s h => ?_)
  refine g_iload_n (pc := 2) C dX5_areDials_2 rfl 2 rfl ?_
  refine g_iload_n (pc := 3) C dX5_areDials_3 rfl 1 rfl ?_
  refine g_icmp_ge (pc := 4) (tgt := 25) C dX5_areDials_4 (by decide) h (fun h => ?_) (fun h => ?_)
  · refine g_iconst (pc := 25) (v := 1) C dX5_areDials_25 (by decide) ?_
    cases h
    exact hret _ _ _ dX5_areDials_26 nb1 rfl
  · refine g_aload_n (pc := 7) C dX5_areDials_7 rfl 0 rfl ?_
    refine g_iload_n (pc := 8) C dX5_areDials_8 rfl 2 rfl ?_
    obtain ⟨u1, hu1, h⟩ := bs h
    refine g_callV (pc := 9) (st := []) (st1 := [.int u1]) (ws' := (W_X5_areDials E o_p0 a_p0 p0_size p0_bytes)) C mv_X8_at mi_X8_at ml_X5_11 (c_X8_at X.2.1 E o_p0 a_p0 p0_size p0_bytes s u1 hu1) dX5_areDials_9 (by decide) rfl (Nat.le_of_ble_eq_true rfl) 0 7 rfl rfl [0, 1] rfl (by decide) rfl rfl rfl rfl ?_
    refine g_bipush (pc := 12) (v := 6) C dX5_areDials_12 (by decide) ?_
    refine g_icmp_lt (pc := 14) (tgt := 19) C dX5_areDials_14 (by decide) h (fun h => ?_) (fun h => ?_)
    · refine g_iincn (pc := 19) (j := 2) (d := 1) (lv' := fun v2 => [(2, .int v2), (0, .ref o_p0), (1, .int x1)]) C dX5_areDials_19 rfl (by decide) (by decide) (fun _ => rfl) h (fun v2 h => ?_)
      refine g_goto (pc := 22) (tgt := 2) C dX5_areDials_22 (by decide) ?_
      refine g_sub [1, 2, 0] rfl ?_
      exact ih _ h
    · refine g_iconst (pc := 17) (v := 0) C dX5_areDials_17 (by decide) ?_
      cases h
      exact hret _ _ _ dX5_areDials_18 nb0 rfl
set_option maxHeartbeats 4000000 in
set_option maxRecDepth 100000 in
theorem c_X5_areDials (l : Launch) (E : GE) (o_p0 : Nat) (a_p0 : Nat → Nat) (p0_size : Int32) (p0_bytes : (Nat → Int32)) (x1 : Int32) (r : Int32) (h : f_X5_areDials p0_size p0_bytes x1 = some r) : Cn l E yX5_areDials cX5_areDials 3 (some .boolean) 2 0 0 [.ref o_p0, .int x1] (W_X5_areDials E o_p0 a_p0 p0_size p0_bytes) (fun w => w = (W_X5_areDials E o_p0 a_p0 p0_size p0_bytes)) (some (.int r)) := by
  refine Cn.ofI (by decide +kernel) (Nat.le_of_ble_eq_true rfl) (fun X hX hR C hret => ?_)
  subst hX
  show Gx X E 0 0 (W_X5_areDials E o_p0 a_p0 p0_size p0_bytes) 0 [(0, .ref o_p0), (1, .int x1)] []
  unfold f_X5_areDials at h
  refine g_iconst (pc := 0) (v := 0) C dX5_areDials_0 (by decide) ?_
  refine g_istore_n (pc := 1) (lv' := [(2, .int (0 : Int32)), (0, .ref o_p0), (1, .int x1)]) C dX5_areDials_1 rfl (by decide) rfl ?_
  refine g_sub [1, 2, 0] rfl ?_
  refine kL_X5_areDials_2 C o_p0 a_p0 p0_size p0_bytes x1 hret  _ _ h
abbrev W_X5_firstOfAnother (E : GE) (O_p0 : Nat) (a_p0 : Nat → Nat) (p0_size : Int32) (p0_bytes : (Nat → Int32)) : va_W := [(O_p0, ob_X8 a_p0 p0_size), (a_p0 0, .inl (E.2.1, 260, .inl p0_bytes))]
def L_X5_firstOfAnother_2 (p0_size : Int32) (p0_bytes : (Nat → Int32)) (x1 : Int32) (x2 : Int32) : Nat → Int32 → Option (Int32) := lp fun go s => if x1 ≤ s then (some (-2 : Int32)) else (f_X8_at p0_size p0_bytes s).bind fun u1 => if u1 = x2 then (nm (s + (1 : Int32)) fun v2 => go v2) else some s
def f_X5_firstOfAnother (p0_size : Int32) (p0_bytes : (Nat → Int32)) (x1 : Int32) (x2 : Int32) : Option (Int32) := L_X5_firstOfAnother_2 p0_size p0_bytes x1 x2 fu (0 : Int32)
theorem dX5_firstOfAnother_0 : decode cX5_firstOfAnother 0 = .ok (.iconst 0, 1) := by decide +kernel
theorem dX5_firstOfAnother_1 : decode cX5_firstOfAnother 1 = .ok (.istore_n 3, 1) := by decide +kernel
theorem dX5_firstOfAnother_2 : decode cX5_firstOfAnother 2 = .ok (.iload_n 3, 1) := by decide +kernel
theorem dX5_firstOfAnother_3 : decode cX5_firstOfAnother 3 = .ok (.iload_n 1, 1) := by decide +kernel
theorem dX5_firstOfAnother_4 : decode cX5_firstOfAnother 4 = .ok (.if_icmp .ge 20, 3) := by decide +kernel
theorem dX5_firstOfAnother_7 : decode cX5_firstOfAnother 7 = .ok (.aload_n 0, 1) := by decide +kernel
theorem dX5_firstOfAnother_8 : decode cX5_firstOfAnother 8 = .ok (.iload_n 3, 1) := by decide +kernel
theorem dX5_firstOfAnother_9 : decode cX5_firstOfAnother 9 = .ok (.invokevirtual 11, 3) := by decide +kernel
theorem dX5_firstOfAnother_12 : decode cX5_firstOfAnother 12 = .ok (.iload_n 2, 1) := by decide +kernel
theorem dX5_firstOfAnother_13 : decode cX5_firstOfAnother 13 = .ok (.if_icmp .eq 5, 3) := by decide +kernel
theorem dX5_firstOfAnother_16 : decode cX5_firstOfAnother 16 = .ok (.iload_n 3, 1) := by decide +kernel
theorem dX5_firstOfAnother_17 : decode cX5_firstOfAnother 17 = .ok (.ireturn, 1) := by decide +kernel
theorem dX5_firstOfAnother_18 : decode cX5_firstOfAnother 18 = .ok (.iinc 3 1, 3) := by decide +kernel
theorem dX5_firstOfAnother_21 : decode cX5_firstOfAnother 21 = .ok (.goto (-19), 3) := by decide +kernel
theorem dX5_firstOfAnother_24 : decode cX5_firstOfAnother 24 = .ok (.bipush (-2), 2) := by decide +kernel
theorem dX5_firstOfAnother_26 : decode cX5_firstOfAnother 26 = .ok (.ireturn, 1) := by decide +kernel
set_option maxHeartbeats 4000000 in
set_option maxRecDepth 100000 in
theorem kL_X5_firstOfAnother_2 {X : GC} {E : GE} (C : Cx X E cX5_firstOfAnother RX5 2 4) (o_p0 : Nat) (a_p0 : Nat → Nat) (p0_size : Int32) (p0_bytes : (Nat → Int32)) (x1 : Int32) (x2 : Int32) {r : Int32} (hret : RtI X E cX5_firstOfAnother .int 0 0 (fun w => w = (W_X5_firstOfAnother E o_p0 a_p0 p0_size p0_bytes)) r) : ∀ (n : Nat) (s : Int32), L_X5_firstOfAnother_2 p0_size p0_bytes x1 x2 n s = some r → Gx X E 0 0 (W_X5_firstOfAnother E o_p0 a_p0 p0_size p0_bytes) 2 [(0, .ref o_p0), (1, .int x1), (2, .int x2), (3, .int s)] [] := by
  unfold L_X5_firstOfAnother_2
  refine lp_ind _ (fun go ih s h => ?_)
  refine g_iload_n (pc := 2) C dX5_firstOfAnother_2 rfl 3 rfl ?_
  refine g_iload_n (pc := 3) C dX5_firstOfAnother_3 rfl 1 rfl ?_
  refine g_icmp_ge (pc := 4) (tgt := 24) C dX5_firstOfAnother_4 (by decide) h (fun h => ?_) (fun h => ?_)
  · refine g_bipush (pc := 24) (v := -2) C dX5_firstOfAnother_24 (by decide) ?_
    cases h
    exact hret _ _ _ dX5_firstOfAnother_26 rfl rfl
  · refine g_aload_n (pc := 7) C dX5_firstOfAnother_7 rfl 0 rfl ?_
    refine g_iload_n (pc := 8) C dX5_firstOfAnother_8 rfl 3 rfl ?_
    obtain ⟨u1, hu1, h⟩ := bs h
    refine g_callV (pc := 9) (st := []) (st1 := [.int u1]) (ws' := (W_X5_firstOfAnother E o_p0 a_p0 p0_size p0_bytes)) C mv_X8_at mi_X8_at ml_X5_11 (c_X8_at X.2.1 E o_p0 a_p0 p0_size p0_bytes s u1 hu1) dX5_firstOfAnother_9 (by decide) rfl (Nat.le_of_ble_eq_true rfl) 0 7 rfl rfl [0, 1] rfl (by decide) rfl rfl rfl rfl ?_
    refine g_iload_n (pc := 12) C dX5_firstOfAnother_12 rfl 2 rfl ?_
    refine g_icmp_eq (pc := 13) (tgt := 18) C dX5_firstOfAnother_13 (by decide) h (fun h => ?_) (fun h => ?_)
    · refine g_iincn (pc := 18) (j := 3) (d := 1) (lv' := fun v2 => [(3, .int v2), (0, .ref o_p0), (1, .int x1), (2, .int x2)]) C dX5_firstOfAnother_18 rfl (by decide) (by decide) (fun _ => rfl) h (fun v2 h => ?_)
      refine g_goto (pc := 21) (tgt := 2) C dX5_firstOfAnother_21 (by decide) ?_
      refine g_sub [1, 2, 3, 0] rfl ?_
      exact ih _ h
    · refine g_iload_n (pc := 16) C dX5_firstOfAnother_16 rfl 3 rfl ?_
      cases h
      exact hret _ _ _ dX5_firstOfAnother_17 rfl rfl
set_option maxHeartbeats 4000000 in
set_option maxRecDepth 100000 in
theorem c_X5_firstOfAnother (l : Launch) (E : GE) (o_p0 : Nat) (a_p0 : Nat → Nat) (p0_size : Int32) (p0_bytes : (Nat → Int32)) (x1 : Int32) (x2 : Int32) (r : Int32) (h : f_X5_firstOfAnother p0_size p0_bytes x1 x2 = some r) : Cn l E yX5_firstOfAnother cX5_firstOfAnother 4 (some .int) 2 0 0 [.ref o_p0, .int x1, .int x2] (W_X5_firstOfAnother E o_p0 a_p0 p0_size p0_bytes) (fun w => w = (W_X5_firstOfAnother E o_p0 a_p0 p0_size p0_bytes)) (some (.int r)) := by
  refine Cn.ofI (by decide +kernel) (Nat.le_of_ble_eq_true rfl) (fun X hX hR C hret => ?_)
  subst hX
  show Gx X E 0 0 (W_X5_firstOfAnother E o_p0 a_p0 p0_size p0_bytes) 0 [(0, .ref o_p0), (1, .int x1), (2, .int x2)] []
  unfold f_X5_firstOfAnother at h
  refine g_iconst (pc := 0) (v := 0) C dX5_firstOfAnother_0 (by decide) ?_
  refine g_istore_n (pc := 1) (lv' := [(3, .int (0 : Int32)), (0, .ref o_p0), (1, .int x1), (2, .int x2)]) C dX5_firstOfAnother_1 rfl (by decide) rfl ?_
  refine g_sub [1, 2, 3, 0] rfl ?_
  refine kL_X5_firstOfAnother_2 C o_p0 a_p0 p0_size p0_bytes x1 x2 hret  _ _ h
abbrev W_X5_howManyWeigh (E : GE) (O_p0 : Nat) (a_p0 : Nat → Nat) (p0_size : Int32) (p0_bytes : (Nat → Int32)) : va_W := [(O_p0, ob_X8 a_p0 p0_size), (a_p0 0, .inl (E.2.1, 260, .inl p0_bytes))]
def L_X5_howManyWeigh_5 (p0_size : Int32) (p0_bytes : (Nat → Int32)) (x1 : Int32) (x2 : Int32) : Nat → Int32 × Int32 → Option (Int32) := lp fun go s => if x1 ≤ s.2 then (some s.1) else (f_X8_at p0_size p0_bytes s.2).bind fun u1 => if u1 = x2 then (nm (s.1 + (1 : Int32)) fun v3 => nm (s.2 + (1 : Int32)) fun v4 => go (v3, v4)) else nm (s.2 + (1 : Int32)) fun v2 => go (s.1, v2)
def f_X5_howManyWeigh (p0_size : Int32) (p0_bytes : (Nat → Int32)) (x1 : Int32) (x2 : Int32) : Option (Int32) := L_X5_howManyWeigh_5 p0_size p0_bytes x1 x2 fu ((0 : Int32), (0 : Int32))
theorem dX5_howManyWeigh_0 : decode cX5_howManyWeigh 0 = .ok (.iconst 0, 1) := by decide +kernel
theorem dX5_howManyWeigh_1 : decode cX5_howManyWeigh 1 = .ok (.istore_n 3, 1) := by decide +kernel
theorem dX5_howManyWeigh_2 : decode cX5_howManyWeigh 2 = .ok (.iconst 0, 1) := by decide +kernel
theorem dX5_howManyWeigh_3 : decode cX5_howManyWeigh 3 = .ok (.istore 4, 2) := by decide +kernel
theorem dX5_howManyWeigh_5 : decode cX5_howManyWeigh 5 = .ok (.iload 4, 2) := by decide +kernel
theorem dX5_howManyWeigh_7 : decode cX5_howManyWeigh 7 = .ok (.iload_n 1, 1) := by decide +kernel
theorem dX5_howManyWeigh_8 : decode cX5_howManyWeigh 8 = .ok (.if_icmp .ge 22, 3) := by decide +kernel
theorem dX5_howManyWeigh_11 : decode cX5_howManyWeigh 11 = .ok (.aload_n 0, 1) := by decide +kernel
theorem dX5_howManyWeigh_12 : decode cX5_howManyWeigh 12 = .ok (.iload 4, 2) := by decide +kernel
theorem dX5_howManyWeigh_14 : decode cX5_howManyWeigh 14 = .ok (.invokevirtual 11, 3) := by decide +kernel
theorem dX5_howManyWeigh_17 : decode cX5_howManyWeigh 17 = .ok (.iload_n 2, 1) := by decide +kernel
theorem dX5_howManyWeigh_18 : decode cX5_howManyWeigh 18 = .ok (.if_icmp .ne 6, 3) := by decide +kernel
theorem dX5_howManyWeigh_21 : decode cX5_howManyWeigh 21 = .ok (.iinc 3 1, 3) := by decide +kernel
theorem dX5_howManyWeigh_24 : decode cX5_howManyWeigh 24 = .ok (.iinc 4 1, 3) := by decide +kernel
theorem dX5_howManyWeigh_27 : decode cX5_howManyWeigh 27 = .ok (.goto (-22), 3) := by decide +kernel
theorem dX5_howManyWeigh_30 : decode cX5_howManyWeigh 30 = .ok (.iload_n 3, 1) := by decide +kernel
theorem dX5_howManyWeigh_31 : decode cX5_howManyWeigh 31 = .ok (.ireturn, 1) := by decide +kernel
set_option maxHeartbeats 4000000 in
set_option maxRecDepth 100000 in
theorem kL_X5_howManyWeigh_5 {X : GC} {E : GE} (C : Cx X E cX5_howManyWeigh RX5 2 5) (o_p0 : Nat) (a_p0 : Nat → Nat) (p0_size : Int32) (p0_bytes : (Nat → Int32)) (x1 : Int32) (x2 : Int32) {r : Int32} (hret : RtI X E cX5_howManyWeigh .int 0 0 (fun w => w = (W_X5_howManyWeigh E o_p0 a_p0 p0_size p0_bytes)) r) : ∀ (n : Nat) (s : Int32 × Int32), L_X5_howManyWeigh_5 p0_size p0_bytes x1 x2 n s = some r → Gx X E 0 0 (W_X5_howManyWeigh E o_p0 a_p0 p0_size p0_bytes) 5 [(0, .ref o_p0), (1, .int x1), (2, .int x2), (3, .int s.1), (4, .int s.2)] [] := by
  unfold L_X5_howManyWeigh_5
  refine lp_ind _ (fun go ih s h => ?_)
  refine g_iload (pc := 5) C dX5_howManyWeigh_5 4 rfl ?_
  refine g_iload_n (pc := 7) C dX5_howManyWeigh_7 rfl 1 rfl ?_
  refine g_icmp_ge (pc := 8) (tgt := 30) C dX5_howManyWeigh_8 (by decide) h (fun h => ?_) (fun h => ?_)
  · refine g_iload_n (pc := 30) C dX5_howManyWeigh_30 rfl 3 rfl ?_
    cases h
    exact hret _ _ _ dX5_howManyWeigh_31 rfl rfl
  · refine g_aload_n (pc := 11) C dX5_howManyWeigh_11 rfl 0 rfl ?_
    refine g_iload (pc := 12) C dX5_howManyWeigh_12 4 rfl ?_
    obtain ⟨u1, hu1, h⟩ := bs h
    refine g_callV (pc := 14) (st := []) (st1 := [.int u1]) (ws' := (W_X5_howManyWeigh E o_p0 a_p0 p0_size p0_bytes)) C mv_X8_at mi_X8_at ml_X5_11 (c_X8_at X.2.1 E o_p0 a_p0 p0_size p0_bytes s.2 u1 hu1) dX5_howManyWeigh_14 (by decide) rfl (Nat.le_of_ble_eq_true rfl) 0 7 rfl rfl [0, 1] rfl (by decide) rfl rfl rfl rfl ?_
    refine g_iload_n (pc := 17) C dX5_howManyWeigh_17 rfl 2 rfl ?_
    refine g_icmp_ne (pc := 18) (tgt := 24) C dX5_howManyWeigh_18 (by decide) h (fun h => ?_) (fun h => ?_)
    · refine g_iincn (pc := 24) (j := 4) (d := 1) (lv' := fun v2 => [(4, .int v2), (0, .ref o_p0), (1, .int x1), (2, .int x2), (3, .int s.1)]) C dX5_howManyWeigh_24 rfl (by decide) (by decide) (fun _ => rfl) h (fun v2 h => ?_)
      refine g_goto (pc := 27) (tgt := 5) C dX5_howManyWeigh_27 (by decide) ?_
      refine g_sub [1, 2, 3, 4, 0] rfl ?_
      exact ih _ h
    · refine g_iincn (pc := 21) (j := 3) (d := 1) (lv' := fun v3 => [(3, .int v3), (0, .ref o_p0), (1, .int x1), (2, .int x2), (4, .int s.2)]) C dX5_howManyWeigh_21 rfl (by decide) (by decide) (fun _ => rfl) h (fun v3 h => ?_)
      refine g_iincn (pc := 24) (j := 4) (d := 1) (lv' := fun v4 => [(4, .int v4), (3, .int v3), (0, .ref o_p0), (1, .int x1), (2, .int x2)]) C dX5_howManyWeigh_24 rfl (by decide) (by decide) (fun _ => rfl) h (fun v4 h => ?_)
      refine g_goto (pc := 27) (tgt := 5) C dX5_howManyWeigh_27 (by decide) ?_
      refine g_sub [2, 3, 4, 1, 0] rfl ?_
      exact ih _ h
set_option maxHeartbeats 4000000 in
set_option maxRecDepth 100000 in
theorem c_X5_howManyWeigh (l : Launch) (E : GE) (o_p0 : Nat) (a_p0 : Nat → Nat) (p0_size : Int32) (p0_bytes : (Nat → Int32)) (x1 : Int32) (x2 : Int32) (r : Int32) (h : f_X5_howManyWeigh p0_size p0_bytes x1 x2 = some r) : Cn l E yX5_howManyWeigh cX5_howManyWeigh 5 (some .int) 2 0 0 [.ref o_p0, .int x1, .int x2] (W_X5_howManyWeigh E o_p0 a_p0 p0_size p0_bytes) (fun w => w = (W_X5_howManyWeigh E o_p0 a_p0 p0_size p0_bytes)) (some (.int r)) := by
  refine Cn.ofI (by decide +kernel) (Nat.le_of_ble_eq_true rfl) (fun X hX hR C hret => ?_)
  subst hX
  show Gx X E 0 0 (W_X5_howManyWeigh E o_p0 a_p0 p0_size p0_bytes) 0 [(0, .ref o_p0), (1, .int x1), (2, .int x2)] []
  unfold f_X5_howManyWeigh at h
  refine g_iconst (pc := 0) (v := 0) C dX5_howManyWeigh_0 (by decide) ?_
  refine g_istore_n (pc := 1) (lv' := [(3, .int (0 : Int32)), (0, .ref o_p0), (1, .int x1), (2, .int x2)]) C dX5_howManyWeigh_1 rfl (by decide) rfl ?_
  refine g_iconst (pc := 2) (v := 0) C dX5_howManyWeigh_2 (by decide) ?_
  refine g_istore (pc := 3) (lv' := [(4, .int (0 : Int32)), (3, .int (0 : Int32)), (0, .ref o_p0), (1, .int x1), (2, .int x2)]) C dX5_howManyWeigh_3 (by decide) rfl ?_
  refine g_sub [2, 3, 4, 1, 0] rfl ?_
  refine kL_X5_howManyWeigh_5 C o_p0 a_p0 p0_size p0_bytes x1 x2 hret  _ _ h
abbrev W_X5_rightOnes (E : GE) (O_p0 : Nat) (a_p0 : Nat → Nat) (p0_size : Int32) (p0_bytes : (Nat → Int32)) : va_W := [(O_p0, ob_X8 a_p0 p0_size), (a_p0 0, .inl (E.2.1, 260, .inl p0_bytes))]
def L_X5_rightOnes_8 (p0_size : Int32) (p0_bytes : (Nat → Int32)) (x1 : Int32) : Nat → Int32 × Int32 × Int32 → Option (Int32) := lp fun go s => if s.2.2 < 0 then (some s.1) else (f_X8_at p0_size p0_bytes (x1 + s.2.2)).bind fun u1 => rm s.2.1 (6 : Int32) fun v2 => jn (fun s3 : Int32 => dv s.2.1 (6 : Int32) fun v4 => nm (s.2.2 + (-1 : Int32)) fun v5 => go (s3, v4, v5)) fun j32 => if u1 = v2 then (nm (s.1 + (1 : Int32)) fun v6 => j32 v6) else j32 s.1
def f_X5_rightOnes (p0_size : Int32) (p0_bytes : (Nat → Int32)) (x1 : Int32) (x2 : Int32) : Option (Int32) := L_X5_rightOnes_8 p0_size p0_bytes x1 fu ((0 : Int32), x2, (3 : Int32))
theorem dX5_rightOnes_0 : decode cX5_rightOnes 0 = .ok (.iconst 0, 1) := by decide +kernel
theorem dX5_rightOnes_1 : decode cX5_rightOnes 1 = .ok (.istore_n 3, 1) := by decide +kernel
theorem dX5_rightOnes_2 : decode cX5_rightOnes 2 = .ok (.iload_n 2, 1) := by decide +kernel
theorem dX5_rightOnes_3 : decode cX5_rightOnes 3 = .ok (.istore 4, 2) := by decide +kernel
theorem dX5_rightOnes_5 : decode cX5_rightOnes 5 = .ok (.iconst 3, 1) := by decide +kernel
theorem dX5_rightOnes_6 : decode cX5_rightOnes 6 = .ok (.istore 5, 2) := by decide +kernel
theorem dX5_rightOnes_8 : decode cX5_rightOnes 8 = .ok (.iload 5, 2) := by decide +kernel
theorem dX5_rightOnes_10 : decode cX5_rightOnes 10 = .ok (.ifCond .lt 35, 3) := by decide +kernel
theorem dX5_rightOnes_13 : decode cX5_rightOnes 13 = .ok (.aload_n 0, 1) := by decide +kernel
theorem dX5_rightOnes_14 : decode cX5_rightOnes 14 = .ok (.iload_n 1, 1) := by decide +kernel
theorem dX5_rightOnes_15 : decode cX5_rightOnes 15 = .ok (.iload 5, 2) := by decide +kernel
theorem dX5_rightOnes_17 : decode cX5_rightOnes 17 = .ok (.iadd, 1) := by decide +kernel
theorem dX5_rightOnes_18 : decode cX5_rightOnes 18 = .ok (.invokevirtual 11, 3) := by decide +kernel
theorem dX5_rightOnes_21 : decode cX5_rightOnes 21 = .ok (.iload 4, 2) := by decide +kernel
theorem dX5_rightOnes_23 : decode cX5_rightOnes 23 = .ok (.bipush 6, 2) := by decide +kernel
theorem dX5_rightOnes_25 : decode cX5_rightOnes 25 = .ok (.irem, 1) := by decide +kernel
theorem dX5_rightOnes_26 : decode cX5_rightOnes 26 = .ok (.if_icmp .ne 6, 3) := by decide +kernel
theorem dX5_rightOnes_29 : decode cX5_rightOnes 29 = .ok (.iinc 3 1, 3) := by decide +kernel
theorem dX5_rightOnes_32 : decode cX5_rightOnes 32 = .ok (.iload 4, 2) := by decide +kernel
theorem dX5_rightOnes_34 : decode cX5_rightOnes 34 = .ok (.bipush 6, 2) := by decide +kernel
theorem dX5_rightOnes_36 : decode cX5_rightOnes 36 = .ok (.idiv, 1) := by decide +kernel
theorem dX5_rightOnes_37 : decode cX5_rightOnes 37 = .ok (.istore 4, 2) := by decide +kernel
theorem dX5_rightOnes_39 : decode cX5_rightOnes 39 = .ok (.iinc 5 (-1), 3) := by decide +kernel
theorem dX5_rightOnes_42 : decode cX5_rightOnes 42 = .ok (.goto (-34), 3) := by decide +kernel
theorem dX5_rightOnes_45 : decode cX5_rightOnes 45 = .ok (.iload_n 3, 1) := by decide +kernel
theorem dX5_rightOnes_46 : decode cX5_rightOnes 46 = .ok (.ireturn, 1) := by decide +kernel
set_option maxHeartbeats 4000000 in
set_option maxRecDepth 100000 in
theorem kL_X5_rightOnes_8 {X : GC} {E : GE} (C : Cx X E cX5_rightOnes RX5 2 6) (o_p0 : Nat) (a_p0 : Nat → Nat) (p0_size : Int32) (p0_bytes : (Nat → Int32)) (x1 : Int32) {r : Int32} (hret : RtI X E cX5_rightOnes .int 0 0 (fun w => w = (W_X5_rightOnes E o_p0 a_p0 p0_size p0_bytes)) r) : ∀ (n : Nat) (s : Int32 × Int32 × Int32), L_X5_rightOnes_8 p0_size p0_bytes x1 n s = some r → Gx X E 0 0 (W_X5_rightOnes E o_p0 a_p0 p0_size p0_bytes) 8 [(0, .ref o_p0), (1, .int x1), (3, .int s.1), (4, .int s.2.1), (5, .int s.2.2)] [] := by
  unfold L_X5_rightOnes_8
  refine lp_ind _ (fun go ih s h => ?_)
  refine g_iload (pc := 8) C dX5_rightOnes_8 4 rfl ?_
  refine g_if_lt (pc := 10) (tgt := 45) C dX5_rightOnes_10 (by decide) h (fun h => ?_) (fun h => ?_)
  · refine g_iload_n (pc := 45) C dX5_rightOnes_45 rfl 2 rfl ?_
    cases h
    exact hret _ _ _ dX5_rightOnes_46 rfl rfl
  · refine g_aload_n (pc := 13) C dX5_rightOnes_13 rfl 0 rfl ?_
    refine g_iload_n (pc := 14) C dX5_rightOnes_14 rfl 1 rfl ?_
    refine g_iload (pc := 15) C dX5_rightOnes_15 4 rfl ?_
    refine g_iadd (pc := 17) C dX5_rightOnes_17 ?_
    obtain ⟨u1, hu1, h⟩ := bs h
    refine g_callV (pc := 18) (st := []) (st1 := [.int u1]) (ws' := (W_X5_rightOnes E o_p0 a_p0 p0_size p0_bytes)) C mv_X8_at mi_X8_at ml_X5_11 (c_X8_at X.2.1 E o_p0 a_p0 p0_size p0_bytes (x1 + s.2.2) u1 hu1) dX5_rightOnes_18 (by decide) rfl (Nat.le_of_ble_eq_true rfl) 0 7 rfl rfl [0, 1] rfl (by decide) rfl rfl rfl rfl ?_
    refine g_iload (pc := 21) C dX5_rightOnes_21 3 rfl ?_
    refine g_bipush (pc := 23) (v := 6) C dX5_rightOnes_23 (by decide) ?_
    refine g_irem (pc := 25) C dX5_rightOnes_25 h (fun v2 h => ?_)
    refine g_jn (fun s3 : Int32 => Gx X E 0 0 (W_X5_rightOnes E o_p0 a_p0 p0_size p0_bytes) 32 [(0, .ref o_p0), (1, .int x1), (3, .int s3), (4, .int s.2.1), (5, .int s.2.2)] []) h (fun s3 h => ?_) (fun j32 hj32 h => ?_)
    · refine g_iload (pc := 32) C dX5_rightOnes_32 3 rfl ?_
      refine g_bipush (pc := 34) (v := 6) C dX5_rightOnes_34 (by decide) ?_
      refine g_idiv (pc := 36) C dX5_rightOnes_36 h (fun v4 h => ?_)
      refine g_istore (pc := 37) (lv' := [(4, .int v4), (0, .ref o_p0), (1, .int x1), (3, .int s3), (5, .int s.2.2)]) C dX5_rightOnes_37 (by decide) rfl ?_
      refine g_iincn (pc := 39) (j := 4) (d := -1) (lv' := fun v5 => [(5, .int v5), (4, .int v4), (0, .ref o_p0), (1, .int x1), (3, .int s3)]) C dX5_rightOnes_39 rfl (by decide) (by decide) (fun _ => rfl) h (fun v5 h => ?_)
      refine g_goto (pc := 42) (tgt := 8) C dX5_rightOnes_42 (by decide) ?_
      refine g_sub [2, 3, 4, 1, 0] rfl ?_
      exact ih _ h
    refine g_icmp_ne (pc := 26) (tgt := 32) C dX5_rightOnes_26 (by decide) h (fun h => ?_) (fun h => ?_)
    · exact hj32 _ h
    · refine g_iincn (pc := 29) (j := 2) (d := 1) (lv' := fun v6 => [(3, .int v6), (0, .ref o_p0), (1, .int x1), (4, .int s.2.1), (5, .int s.2.2)]) C dX5_rightOnes_29 rfl (by decide) (by decide) (fun _ => rfl) h (fun v6 h => ?_)
      refine g_sub [1, 2, 0, 3, 4] rfl ?_
      exact hj32 _ h
set_option maxHeartbeats 4000000 in
set_option maxRecDepth 100000 in
theorem c_X5_rightOnes (l : Launch) (E : GE) (o_p0 : Nat) (a_p0 : Nat → Nat) (p0_size : Int32) (p0_bytes : (Nat → Int32)) (x1 : Int32) (x2 : Int32) (r : Int32) (h : f_X5_rightOnes p0_size p0_bytes x1 x2 = some r) : Cn l E yX5_rightOnes cX5_rightOnes 6 (some .int) 2 0 0 [.ref o_p0, .int x1, .int x2] (W_X5_rightOnes E o_p0 a_p0 p0_size p0_bytes) (fun w => w = (W_X5_rightOnes E o_p0 a_p0 p0_size p0_bytes)) (some (.int r)) := by
  refine Cn.ofI (by decide +kernel) (Nat.le_of_ble_eq_true rfl) (fun X hX hR C hret => ?_)
  subst hX
  show Gx X E 0 0 (W_X5_rightOnes E o_p0 a_p0 p0_size p0_bytes) 0 [(0, .ref o_p0), (1, .int x1), (2, .int x2)] []
  unfold f_X5_rightOnes at h
  refine g_iconst (pc := 0) (v := 0) C dX5_rightOnes_0 (by decide) ?_
  refine g_istore_n (pc := 1) (lv' := [(3, .int (0 : Int32)), (0, .ref o_p0), (1, .int x1), (2, .int x2)]) C dX5_rightOnes_1 rfl (by decide) rfl ?_
  refine g_iload_n (pc := 2) C dX5_rightOnes_2 rfl 3 rfl ?_
  refine g_istore (pc := 3) (lv' := [(4, .int x2), (3, .int (0 : Int32)), (0, .ref o_p0), (1, .int x1), (2, .int x2)]) C dX5_rightOnes_3 (by decide) rfl ?_
  refine g_iconst (pc := 5) (v := 3) C dX5_rightOnes_5 (by decide) ?_
  refine g_istore (pc := 6) (lv' := [(5, .int (3 : Int32)), (4, .int x2), (3, .int (0 : Int32)), (0, .ref o_p0), (1, .int x1), (2, .int x2)]) C dX5_rightOnes_6 (by decide) rfl ?_
  refine g_sub [3, 4, 2, 1, 0] rfl ?_
  refine kL_X5_rightOnes_8 C o_p0 a_p0 p0_size p0_bytes x1 hret  _ _ h
abbrev W_X5_sharedOnes (E : GE) (O_p0 : Nat) (a_p0 : Nat → Nat) (p0_size : Int32) (p0_bytes : (Nat → Int32)) : va_W := [(O_p0, ob_X8 a_p0 p0_size), (a_p0 0, .inl (E.2.1, 260, .inl p0_bytes))]
def L_X5_sharedOnes_11 (p0_size : Int32) (p0_bytes : (Nat → Int32)) (x1 : Int32) (k0 : Int32 × Int32 → Option (Int32)) : Nat → Int32 × Int32 × Int32 × Int32 → Option (Int32) := lp fun go s => if (4 : Int32) ≤ s.2.2.2 then (k0 (s.1, s.2.1)) else (f_X8_at p0_size p0_bytes (x1 + s.2.2.2)).bind fun u1 => nm (s.1 + ((1 : Int32) <<< (((4 : Int32) * u1) &&& 31))) fun v2 => rm s.2.2.1 (6 : Int32) fun v3 => nm (s.2.1 + ((1 : Int32) <<< (((4 : Int32) * v3) &&& 31))) fun v4 => dv s.2.2.1 (6 : Int32) fun v5 => nm (s.2.2.2 + (1 : Int32)) fun v6 => go (v2, v4, v5, v6)
def L_X5_sharedOnes_65 (p0_size : Int32) (p0_bytes : (Nat → Int32)) (x3 : Int32) (x4 : Int32) : Nat → Int32 × Int32 → Option (Int32) := lp fun go s => if (6 : Int32) ≤ s.2 then (some s.1) else nm (s.1 + (imin ((x3 >>> (((4 : Int32) * s.2) &&& 31)) &&& (15 : Int32)) ((x4 >>> (((4 : Int32) * s.2) &&& 31)) &&& (15 : Int32)))) fun v8 => nm (s.2 + (1 : Int32)) fun v9 => go (v8, v9)
def f_X5_sharedOnes (p0_size : Int32) (p0_bytes : (Nat → Int32)) (x1 : Int32) (x2 : Int32) : Option (Int32) := L_X5_sharedOnes_11 p0_size p0_bytes x1 (fun s7 => L_X5_sharedOnes_65 p0_size p0_bytes s7.1 s7.2 fu ((0 : Int32), (0 : Int32))) fu ((0 : Int32), (0 : Int32), x2, (0 : Int32))
theorem dX5_sharedOnes_0 : decode cX5_sharedOnes 0 = .ok (.iconst 0, 1) := by decide +kernel
theorem dX5_sharedOnes_1 : decode cX5_sharedOnes 1 = .ok (.istore_n 3, 1) := by decide +kernel
theorem dX5_sharedOnes_2 : decode cX5_sharedOnes 2 = .ok (.iconst 0, 1) := by decide +kernel
theorem dX5_sharedOnes_3 : decode cX5_sharedOnes 3 = .ok (.istore 4, 2) := by decide +kernel
theorem dX5_sharedOnes_5 : decode cX5_sharedOnes 5 = .ok (.iload_n 2, 1) := by decide +kernel
theorem dX5_sharedOnes_6 : decode cX5_sharedOnes 6 = .ok (.istore 5, 2) := by decide +kernel
theorem dX5_sharedOnes_8 : decode cX5_sharedOnes 8 = .ok (.iconst 0, 1) := by decide +kernel
theorem dX5_sharedOnes_9 : decode cX5_sharedOnes 9 = .ok (.istore 6, 2) := by decide +kernel
theorem dX5_sharedOnes_11 : decode cX5_sharedOnes 11 = .ok (.iload 6, 2) := by decide +kernel
theorem dX5_sharedOnes_13 : decode cX5_sharedOnes 13 = .ok (.iconst 4, 1) := by decide +kernel
theorem dX5_sharedOnes_14 : decode cX5_sharedOnes 14 = .ok (.if_icmp .ge 45, 3) := by decide +kernel
theorem dX5_sharedOnes_17 : decode cX5_sharedOnes 17 = .ok (.iload_n 3, 1) := by decide +kernel
theorem dX5_sharedOnes_18 : decode cX5_sharedOnes 18 = .ok (.iconst 1, 1) := by decide +kernel
theorem dX5_sharedOnes_19 : decode cX5_sharedOnes 19 = .ok (.iconst 4, 1) := by decide +kernel
theorem dX5_sharedOnes_20 : decode cX5_sharedOnes 20 = .ok (.aload_n 0, 1) := by decide +kernel
theorem dX5_sharedOnes_21 : decode cX5_sharedOnes 21 = .ok (.iload_n 1, 1) := by decide +kernel
theorem dX5_sharedOnes_22 : decode cX5_sharedOnes 22 = .ok (.iload 6, 2) := by decide +kernel
theorem dX5_sharedOnes_24 : decode cX5_sharedOnes 24 = .ok (.iadd, 1) := by decide +kernel
theorem dX5_sharedOnes_25 : decode cX5_sharedOnes 25 = .ok (.invokevirtual 11, 3) := by decide +kernel
theorem dX5_sharedOnes_28 : decode cX5_sharedOnes 28 = .ok (.imul, 1) := by decide +kernel
theorem dX5_sharedOnes_29 : decode cX5_sharedOnes 29 = .ok (.ishl, 1) := by decide +kernel
theorem dX5_sharedOnes_30 : decode cX5_sharedOnes 30 = .ok (.iadd, 1) := by decide +kernel
theorem dX5_sharedOnes_31 : decode cX5_sharedOnes 31 = .ok (.istore_n 3, 1) := by decide +kernel
theorem dX5_sharedOnes_32 : decode cX5_sharedOnes 32 = .ok (.iload 4, 2) := by decide +kernel
theorem dX5_sharedOnes_34 : decode cX5_sharedOnes 34 = .ok (.iconst 1, 1) := by decide +kernel
theorem dX5_sharedOnes_35 : decode cX5_sharedOnes 35 = .ok (.iconst 4, 1) := by decide +kernel
theorem dX5_sharedOnes_36 : decode cX5_sharedOnes 36 = .ok (.iload 5, 2) := by decide +kernel
theorem dX5_sharedOnes_38 : decode cX5_sharedOnes 38 = .ok (.bipush 6, 2) := by decide +kernel
theorem dX5_sharedOnes_40 : decode cX5_sharedOnes 40 = .ok (.irem, 1) := by decide +kernel
theorem dX5_sharedOnes_41 : decode cX5_sharedOnes 41 = .ok (.imul, 1) := by decide +kernel
theorem dX5_sharedOnes_42 : decode cX5_sharedOnes 42 = .ok (.ishl, 1) := by decide +kernel
theorem dX5_sharedOnes_43 : decode cX5_sharedOnes 43 = .ok (.iadd, 1) := by decide +kernel
theorem dX5_sharedOnes_44 : decode cX5_sharedOnes 44 = .ok (.istore 4, 2) := by decide +kernel
theorem dX5_sharedOnes_46 : decode cX5_sharedOnes 46 = .ok (.iload 5, 2) := by decide +kernel
theorem dX5_sharedOnes_48 : decode cX5_sharedOnes 48 = .ok (.bipush 6, 2) := by decide +kernel
theorem dX5_sharedOnes_50 : decode cX5_sharedOnes 50 = .ok (.idiv, 1) := by decide +kernel
theorem dX5_sharedOnes_51 : decode cX5_sharedOnes 51 = .ok (.istore 5, 2) := by decide +kernel
theorem dX5_sharedOnes_53 : decode cX5_sharedOnes 53 = .ok (.iinc 6 1, 3) := by decide +kernel
theorem dX5_sharedOnes_56 : decode cX5_sharedOnes 56 = .ok (.goto (-45), 3) := by decide +kernel
theorem dX5_sharedOnes_59 : decode cX5_sharedOnes 59 = .ok (.iconst 0, 1) := by decide +kernel
theorem dX5_sharedOnes_60 : decode cX5_sharedOnes 60 = .ok (.istore 6, 2) := by decide +kernel
theorem dX5_sharedOnes_62 : decode cX5_sharedOnes 62 = .ok (.iconst 0, 1) := by decide +kernel
theorem dX5_sharedOnes_63 : decode cX5_sharedOnes 63 = .ok (.istore 7, 2) := by decide +kernel
theorem dX5_sharedOnes_65 : decode cX5_sharedOnes 65 = .ok (.iload 7, 2) := by decide +kernel
theorem dX5_sharedOnes_67 : decode cX5_sharedOnes 67 = .ok (.bipush 6, 2) := by decide +kernel
theorem dX5_sharedOnes_69 : decode cX5_sharedOnes 69 = .ok (.if_icmp .ge 36, 3) := by decide +kernel
theorem dX5_sharedOnes_72 : decode cX5_sharedOnes 72 = .ok (.iload 6, 2) := by decide +kernel
theorem dX5_sharedOnes_74 : decode cX5_sharedOnes 74 = .ok (.iload_n 3, 1) := by decide +kernel
theorem dX5_sharedOnes_75 : decode cX5_sharedOnes 75 = .ok (.iconst 4, 1) := by decide +kernel
theorem dX5_sharedOnes_76 : decode cX5_sharedOnes 76 = .ok (.iload 7, 2) := by decide +kernel
theorem dX5_sharedOnes_78 : decode cX5_sharedOnes 78 = .ok (.imul, 1) := by decide +kernel
theorem dX5_sharedOnes_79 : decode cX5_sharedOnes 79 = .ok (.ishr, 1) := by decide +kernel
theorem dX5_sharedOnes_80 : decode cX5_sharedOnes 80 = .ok (.bipush 15, 2) := by decide +kernel
theorem dX5_sharedOnes_82 : decode cX5_sharedOnes 82 = .ok (.iand, 1) := by decide +kernel
theorem dX5_sharedOnes_83 : decode cX5_sharedOnes 83 = .ok (.iload 4, 2) := by decide +kernel
theorem dX5_sharedOnes_85 : decode cX5_sharedOnes 85 = .ok (.iconst 4, 1) := by decide +kernel
theorem dX5_sharedOnes_86 : decode cX5_sharedOnes 86 = .ok (.iload 7, 2) := by decide +kernel
theorem dX5_sharedOnes_88 : decode cX5_sharedOnes 88 = .ok (.imul, 1) := by decide +kernel
theorem dX5_sharedOnes_89 : decode cX5_sharedOnes 89 = .ok (.ishr, 1) := by decide +kernel
theorem dX5_sharedOnes_90 : decode cX5_sharedOnes 90 = .ok (.bipush 15, 2) := by decide +kernel
theorem dX5_sharedOnes_92 : decode cX5_sharedOnes 92 = .ok (.iand, 1) := by decide +kernel
theorem dX5_sharedOnes_93 : decode cX5_sharedOnes 93 = .ok (.invokestatic 28, 3) := by decide +kernel
theorem dX5_sharedOnes_96 : decode cX5_sharedOnes 96 = .ok (.iadd, 1) := by decide +kernel
theorem dX5_sharedOnes_97 : decode cX5_sharedOnes 97 = .ok (.istore 6, 2) := by decide +kernel
theorem dX5_sharedOnes_99 : decode cX5_sharedOnes 99 = .ok (.iinc 7 1, 3) := by decide +kernel
theorem dX5_sharedOnes_102 : decode cX5_sharedOnes 102 = .ok (.goto (-37), 3) := by decide +kernel
theorem dX5_sharedOnes_105 : decode cX5_sharedOnes 105 = .ok (.iload 6, 2) := by decide +kernel
theorem dX5_sharedOnes_107 : decode cX5_sharedOnes 107 = .ok (.ireturn, 1) := by decide +kernel
set_option maxHeartbeats 4000000 in
set_option maxRecDepth 100000 in
theorem kL_X5_sharedOnes_11 {X : GC} {E : GE} (C : Cx X E cX5_sharedOnes RX5 2 8) (o_p0 : Nat) (a_p0 : Nat → Nat) (p0_size : Int32) (p0_bytes : (Nat → Int32)) (x1 : Int32) (k0 : Int32 × Int32 → Option (Int32)) {r : Int32} (hret : RtI X E cX5_sharedOnes .int 0 0 (fun w => w = (W_X5_sharedOnes E o_p0 a_p0 p0_size p0_bytes)) r) (hk0 : ∀ u, k0 u = some r → Gx X E 0 0 (W_X5_sharedOnes E o_p0 a_p0 p0_size p0_bytes) 59 [(3, .int u.1), (4, .int u.2)] []) : ∀ (n : Nat) (s : Int32 × Int32 × Int32 × Int32), L_X5_sharedOnes_11 p0_size p0_bytes x1 k0 n s = some r → Gx X E 0 0 (W_X5_sharedOnes E o_p0 a_p0 p0_size p0_bytes) 11 [(0, .ref o_p0), (1, .int x1), (3, .int s.1), (4, .int s.2.1), (5, .int s.2.2.1), (6, .int s.2.2.2)] [] := by
  unfold L_X5_sharedOnes_11
  refine lp_ind _ (fun go ih s h => ?_)
  refine g_iload (pc := 11) C dX5_sharedOnes_11 5 rfl ?_
  refine g_iconst (pc := 13) (v := 4) C dX5_sharedOnes_13 (by decide) ?_
  refine g_icmp_ge (pc := 14) (tgt := 59) C dX5_sharedOnes_14 (by decide) h (fun h => ?_) (fun h => ?_)
  · refine g_sub [2, 3] rfl ?_
    exact hk0 _ h
  · refine g_iload_n (pc := 17) C dX5_sharedOnes_17 rfl 2 rfl ?_
    refine g_iconst (pc := 18) (v := 1) C dX5_sharedOnes_18 (by decide) ?_
    refine g_iconst (pc := 19) (v := 4) C dX5_sharedOnes_19 (by decide) ?_
    refine g_aload_n (pc := 20) C dX5_sharedOnes_20 rfl 0 rfl ?_
    refine g_iload_n (pc := 21) C dX5_sharedOnes_21 rfl 1 rfl ?_
    refine g_iload (pc := 22) C dX5_sharedOnes_22 5 rfl ?_
    refine g_iadd (pc := 24) C dX5_sharedOnes_24 ?_
    obtain ⟨u1, hu1, h⟩ := bs h
    refine g_callV (pc := 25) (st := [.int (4 : Int32), .int (1 : Int32), .int s.1]) (st1 := [.int u1, .int (4 : Int32), .int (1 : Int32), .int s.1]) (ws' := (W_X5_sharedOnes E o_p0 a_p0 p0_size p0_bytes)) C mv_X8_at mi_X8_at ml_X5_11 (c_X8_at X.2.1 E o_p0 a_p0 p0_size p0_bytes (x1 + s.2.2.2) u1 hu1) dX5_sharedOnes_25 (by decide) rfl (Nat.le_of_ble_eq_true rfl) 0 7 rfl rfl [0, 1] rfl (by decide) rfl rfl rfl rfl ?_
    refine g_imul (pc := 28) C dX5_sharedOnes_28 ?_
    refine g_ishl (pc := 29) C dX5_sharedOnes_29 ?_
    refine g_iadd (pc := 30) C dX5_sharedOnes_30 ?_
    refine g_nm h (fun v2 h => ?_)
    refine g_istore_n (pc := 31) (lv' := [(3, .int v2), (0, .ref o_p0), (1, .int x1), (4, .int s.2.1), (5, .int s.2.2.1), (6, .int s.2.2.2)]) C dX5_sharedOnes_31 rfl (by decide) rfl ?_
    refine g_iload (pc := 32) C dX5_sharedOnes_32 3 rfl ?_
    refine g_iconst (pc := 34) (v := 1) C dX5_sharedOnes_34 (by decide) ?_
    refine g_iconst (pc := 35) (v := 4) C dX5_sharedOnes_35 (by decide) ?_
    refine g_iload (pc := 36) C dX5_sharedOnes_36 4 rfl ?_
    refine g_bipush (pc := 38) (v := 6) C dX5_sharedOnes_38 (by decide) ?_
    refine g_irem (pc := 40) C dX5_sharedOnes_40 h (fun v3 h => ?_)
    refine g_imul (pc := 41) C dX5_sharedOnes_41 ?_
    refine g_ishl (pc := 42) C dX5_sharedOnes_42 ?_
    refine g_iadd (pc := 43) C dX5_sharedOnes_43 ?_
    refine g_nm h (fun v4 h => ?_)
    refine g_istore (pc := 44) (lv' := [(4, .int v4), (3, .int v2), (0, .ref o_p0), (1, .int x1), (5, .int s.2.2.1), (6, .int s.2.2.2)]) C dX5_sharedOnes_44 (by decide) rfl ?_
    refine g_iload (pc := 46) C dX5_sharedOnes_46 4 rfl ?_
    refine g_bipush (pc := 48) (v := 6) C dX5_sharedOnes_48 (by decide) ?_
    refine g_idiv (pc := 50) C dX5_sharedOnes_50 h (fun v5 h => ?_)
    refine g_istore (pc := 51) (lv' := [(5, .int v5), (4, .int v4), (3, .int v2), (0, .ref o_p0), (1, .int x1), (6, .int s.2.2.2)]) C dX5_sharedOnes_51 (by decide) rfl ?_
    refine g_iincn (pc := 53) (j := 5) (d := 1) (lv' := fun v6 => [(6, .int v6), (5, .int v5), (4, .int v4), (3, .int v2), (0, .ref o_p0), (1, .int x1)]) C dX5_sharedOnes_53 rfl (by decide) (by decide) (fun _ => rfl) h (fun v6 h => ?_)
    refine g_goto (pc := 56) (tgt := 11) C dX5_sharedOnes_56 (by decide) ?_
    refine g_sub [4, 5, 3, 2, 1, 0] rfl ?_
    exact ih _ h
set_option maxHeartbeats 4000000 in
set_option maxRecDepth 100000 in
theorem kL_X5_sharedOnes_65 {X : GC} {E : GE} (C : Cx X E cX5_sharedOnes RX5 2 8) (o_p0 : Nat) (a_p0 : Nat → Nat) (p0_size : Int32) (p0_bytes : (Nat → Int32)) (x3 : Int32) (x4 : Int32) {r : Int32} (hret : RtI X E cX5_sharedOnes .int 0 0 (fun w => w = (W_X5_sharedOnes E o_p0 a_p0 p0_size p0_bytes)) r) : ∀ (n : Nat) (s : Int32 × Int32), L_X5_sharedOnes_65 p0_size p0_bytes x3 x4 n s = some r → Gx X E 0 0 (W_X5_sharedOnes E o_p0 a_p0 p0_size p0_bytes) 65 [(3, .int x3), (4, .int x4), (6, .int s.1), (7, .int s.2)] [] := by
  unfold L_X5_sharedOnes_65
  refine lp_ind _ (fun go ih s h => ?_)
  refine g_iload (pc := 65) C dX5_sharedOnes_65 3 rfl ?_
  refine g_bipush (pc := 67) (v := 6) C dX5_sharedOnes_67 (by decide) ?_
  refine g_icmp_ge (pc := 69) (tgt := 105) C dX5_sharedOnes_69 (by decide) h (fun h => ?_) (fun h => ?_)
  · refine g_iload (pc := 105) C dX5_sharedOnes_105 2 rfl ?_
    cases h
    exact hret _ _ _ dX5_sharedOnes_107 rfl rfl
  · refine g_iload (pc := 72) C dX5_sharedOnes_72 2 rfl ?_
    refine g_iload_n (pc := 74) C dX5_sharedOnes_74 rfl 0 rfl ?_
    refine g_iconst (pc := 75) (v := 4) C dX5_sharedOnes_75 (by decide) ?_
    refine g_iload (pc := 76) C dX5_sharedOnes_76 3 rfl ?_
    refine g_imul (pc := 78) C dX5_sharedOnes_78 ?_
    refine g_ishr (pc := 79) C dX5_sharedOnes_79 ?_
    refine g_bipush (pc := 80) (v := 15) C dX5_sharedOnes_80 (by decide) ?_
    refine g_iand (pc := 82) C dX5_sharedOnes_82 ?_
    refine g_iload (pc := 83) C dX5_sharedOnes_83 1 rfl ?_
    refine g_iconst (pc := 85) (v := 4) C dX5_sharedOnes_85 (by decide) ?_
    refine g_iload (pc := 86) C dX5_sharedOnes_86 3 rfl ?_
    refine g_imul (pc := 88) C dX5_sharedOnes_88 ?_
    refine g_ishr (pc := 89) C dX5_sharedOnes_89 ?_
    refine g_bipush (pc := 90) (v := 15) C dX5_sharedOnes_90 (by decide) ?_
    refine g_iand (pc := 92) C dX5_sharedOnes_92 ?_
    refine g_mmin (pc := 93) C ml_X5_28 ms_min mini_Math mcode_min (Nat.le_of_ble_eq_true rfl) ⟨Nat.zero_le _, Nat.zero_le _⟩ dX5_sharedOnes_93 ?_
    refine g_iadd (pc := 96) C dX5_sharedOnes_96 ?_
    refine g_nm h (fun v8 h => ?_)
    refine g_istore (pc := 97) (lv' := [(6, .int v8), (3, .int x3), (4, .int x4), (7, .int s.2)]) C dX5_sharedOnes_97 (by decide) rfl ?_
    refine g_iincn (pc := 99) (j := 3) (d := 1) (lv' := fun v9 => [(7, .int v9), (6, .int v8), (3, .int x3), (4, .int x4)]) C dX5_sharedOnes_99 rfl (by decide) (by decide) (fun _ => rfl) h (fun v9 h => ?_)
    refine g_goto (pc := 102) (tgt := 65) C dX5_sharedOnes_102 (by decide) ?_
    refine g_sub [2, 3, 1, 0] rfl ?_
    exact ih _ h
set_option maxHeartbeats 4000000 in
set_option maxRecDepth 100000 in
theorem c_X5_sharedOnes (l : Launch) (E : GE) (o_p0 : Nat) (a_p0 : Nat → Nat) (p0_size : Int32) (p0_bytes : (Nat → Int32)) (x1 : Int32) (x2 : Int32) (r : Int32) (h : f_X5_sharedOnes p0_size p0_bytes x1 x2 = some r) : Cn l E yX5_sharedOnes cX5_sharedOnes 8 (some .int) 2 0 0 [.ref o_p0, .int x1, .int x2] (W_X5_sharedOnes E o_p0 a_p0 p0_size p0_bytes) (fun w => w = (W_X5_sharedOnes E o_p0 a_p0 p0_size p0_bytes)) (some (.int r)) := by
  refine Cn.ofI (by decide +kernel) (Nat.le_of_ble_eq_true rfl) (fun X hX hR C hret => ?_)
  subst hX
  show Gx X E 0 0 (W_X5_sharedOnes E o_p0 a_p0 p0_size p0_bytes) 0 [(0, .ref o_p0), (1, .int x1), (2, .int x2)] []
  unfold f_X5_sharedOnes at h
  refine g_iconst (pc := 0) (v := 0) C dX5_sharedOnes_0 (by decide) ?_
  refine g_istore_n (pc := 1) (lv' := [(3, .int (0 : Int32)), (0, .ref o_p0), (1, .int x1), (2, .int x2)]) C dX5_sharedOnes_1 rfl (by decide) rfl ?_
  refine g_iconst (pc := 2) (v := 0) C dX5_sharedOnes_2 (by decide) ?_
  refine g_istore (pc := 3) (lv' := [(4, .int (0 : Int32)), (3, .int (0 : Int32)), (0, .ref o_p0), (1, .int x1), (2, .int x2)]) C dX5_sharedOnes_3 (by decide) rfl ?_
  refine g_iload_n (pc := 5) C dX5_sharedOnes_5 rfl 4 rfl ?_
  refine g_istore (pc := 6) (lv' := [(5, .int x2), (4, .int (0 : Int32)), (3, .int (0 : Int32)), (0, .ref o_p0), (1, .int x1), (2, .int x2)]) C dX5_sharedOnes_6 (by decide) rfl ?_
  refine g_iconst (pc := 8) (v := 0) C dX5_sharedOnes_8 (by decide) ?_
  refine g_istore (pc := 9) (lv' := [(6, .int (0 : Int32)), (5, .int x2), (4, .int (0 : Int32)), (3, .int (0 : Int32)), (0, .ref o_p0), (1, .int x1), (2, .int x2)]) C dX5_sharedOnes_9 (by decide) rfl ?_
  refine g_sub [4, 5, 3, 2, 1, 0] rfl ?_
  refine kL_X5_sharedOnes_11 C o_p0 a_p0 p0_size p0_bytes x1 _ hret (fun s7 h => ?_) _ _ h
  refine g_iconst (pc := 59) (v := 0) C dX5_sharedOnes_59 (by decide) ?_
  refine g_istore (pc := 60) (lv' := [(6, .int (0 : Int32)), (3, .int s7.1), (4, .int s7.2)]) C dX5_sharedOnes_60 (by decide) rfl ?_
  refine g_iconst (pc := 62) (v := 0) C dX5_sharedOnes_62 (by decide) ?_
  refine g_istore (pc := 63) (lv' := [(7, .int (0 : Int32)), (6, .int (0 : Int32)), (3, .int s7.1), (4, .int s7.2)]) C dX5_sharedOnes_63 (by decide) rfl ?_
  refine g_sub [2, 3, 1, 0] rfl ?_
  refine kL_X5_sharedOnes_65 C o_p0 a_p0 p0_size p0_bytes s7.1 s7.2 hret  _ _ h
abbrev W_X5_stepsFrom (E : GE) (O_p0 : Nat) (a_p0 : Nat → Nat) (p0_size : Int32) (p0_bytes : (Nat → Int32)) : va_W := [(O_p0, ob_X8 a_p0 p0_size), (a_p0 0, .inl (E.2.1, 260, .inl p0_bytes))]
def L_X5_stepsFrom_8 (p0_size : Int32) (p0_bytes : (Nat → Int32)) (x1 : Int32) (x2 : Int32) : Nat → Int32 × Int32 × Int32 → Option (Int32) := lp fun go s => if (7 : Int32) ≤ s.2.2 then (some s.2.1) else rm (x1 + s.2.2) (7 : Int32) fun v1 => (f_X8_at p0_size p0_bytes v1).bind fun u2 => nm (s.1 + (u2 - x2)) fun v3 => (f_J9_abs_0f7a4 v3).bind fun u4 => nm (s.2.1 + u4) fun v5 => nm (s.2.2 + (1 : Int32)) fun v6 => go (v3, v5, v6)
def f_X5_stepsFrom (p0_size : Int32) (p0_bytes : (Nat → Int32)) (x1 : Int32) (x2 : Int32) : Option (Int32) := L_X5_stepsFrom_8 p0_size p0_bytes x1 x2 fu ((0 : Int32), (0 : Int32), (0 : Int32))
theorem dX5_stepsFrom_0 : decode cX5_stepsFrom 0 = .ok (.iconst 0, 1) := by decide +kernel
theorem dX5_stepsFrom_1 : decode cX5_stepsFrom 1 = .ok (.istore_n 3, 1) := by decide +kernel
theorem dX5_stepsFrom_2 : decode cX5_stepsFrom 2 = .ok (.iconst 0, 1) := by decide +kernel
theorem dX5_stepsFrom_3 : decode cX5_stepsFrom 3 = .ok (.istore 4, 2) := by decide +kernel
theorem dX5_stepsFrom_5 : decode cX5_stepsFrom 5 = .ok (.iconst 0, 1) := by decide +kernel
theorem dX5_stepsFrom_6 : decode cX5_stepsFrom 6 = .ok (.istore 5, 2) := by decide +kernel
theorem dX5_stepsFrom_8 : decode cX5_stepsFrom 8 = .ok (.iload 5, 2) := by decide +kernel
theorem dX5_stepsFrom_10 : decode cX5_stepsFrom 10 = .ok (.bipush 7, 2) := by decide +kernel
theorem dX5_stepsFrom_12 : decode cX5_stepsFrom 12 = .ok (.if_icmp .ge 34, 3) := by decide +kernel
theorem dX5_stepsFrom_15 : decode cX5_stepsFrom 15 = .ok (.iload_n 3, 1) := by decide +kernel
theorem dX5_stepsFrom_16 : decode cX5_stepsFrom 16 = .ok (.aload_n 0, 1) := by decide +kernel
theorem dX5_stepsFrom_17 : decode cX5_stepsFrom 17 = .ok (.iload_n 1, 1) := by decide +kernel
theorem dX5_stepsFrom_18 : decode cX5_stepsFrom 18 = .ok (.iload 5, 2) := by decide +kernel
theorem dX5_stepsFrom_20 : decode cX5_stepsFrom 20 = .ok (.iadd, 1) := by decide +kernel
theorem dX5_stepsFrom_21 : decode cX5_stepsFrom 21 = .ok (.bipush 7, 2) := by decide +kernel
theorem dX5_stepsFrom_23 : decode cX5_stepsFrom 23 = .ok (.irem, 1) := by decide +kernel
theorem dX5_stepsFrom_24 : decode cX5_stepsFrom 24 = .ok (.invokevirtual 11, 3) := by decide +kernel
theorem dX5_stepsFrom_27 : decode cX5_stepsFrom 27 = .ok (.iload_n 2, 1) := by decide +kernel
theorem dX5_stepsFrom_28 : decode cX5_stepsFrom 28 = .ok (.isub, 1) := by decide +kernel
theorem dX5_stepsFrom_29 : decode cX5_stepsFrom 29 = .ok (.iadd, 1) := by decide +kernel
theorem dX5_stepsFrom_30 : decode cX5_stepsFrom 30 = .ok (.istore_n 3, 1) := by decide +kernel
theorem dX5_stepsFrom_31 : decode cX5_stepsFrom 31 = .ok (.iload 4, 2) := by decide +kernel
theorem dX5_stepsFrom_33 : decode cX5_stepsFrom 33 = .ok (.iload_n 3, 1) := by decide +kernel
theorem dX5_stepsFrom_34 : decode cX5_stepsFrom 34 = .ok (.invokestatic 46, 3) := by decide +kernel
theorem dX5_stepsFrom_37 : decode cX5_stepsFrom 37 = .ok (.iadd, 1) := by decide +kernel
theorem dX5_stepsFrom_38 : decode cX5_stepsFrom 38 = .ok (.istore 4, 2) := by decide +kernel
theorem dX5_stepsFrom_40 : decode cX5_stepsFrom 40 = .ok (.iinc 5 1, 3) := by decide +kernel
theorem dX5_stepsFrom_43 : decode cX5_stepsFrom 43 = .ok (.goto (-35), 3) := by decide +kernel
theorem dX5_stepsFrom_46 : decode cX5_stepsFrom 46 = .ok (.iload 4, 2) := by decide +kernel
theorem dX5_stepsFrom_48 : decode cX5_stepsFrom 48 = .ok (.ireturn, 1) := by decide +kernel
set_option maxHeartbeats 4000000 in
set_option maxRecDepth 100000 in
theorem kL_X5_stepsFrom_8 {X : GC} {E : GE} (C : Cx X E cX5_stepsFrom RX5 2 6) (o_p0 : Nat) (a_p0 : Nat → Nat) (p0_size : Int32) (p0_bytes : (Nat → Int32)) (x1 : Int32) (x2 : Int32) {r : Int32} (hret : RtI X E cX5_stepsFrom .int 0 0 (fun w => w = (W_X5_stepsFrom E o_p0 a_p0 p0_size p0_bytes)) r) : ∀ (n : Nat) (s : Int32 × Int32 × Int32), L_X5_stepsFrom_8 p0_size p0_bytes x1 x2 n s = some r → Gx X E 0 0 (W_X5_stepsFrom E o_p0 a_p0 p0_size p0_bytes) 8 [(0, .ref o_p0), (1, .int x1), (2, .int x2), (3, .int s.1), (4, .int s.2.1), (5, .int s.2.2)] [] := by
  unfold L_X5_stepsFrom_8
  refine lp_ind _ (fun go ih s h => ?_)
  refine g_iload (pc := 8) C dX5_stepsFrom_8 5 rfl ?_
  refine g_bipush (pc := 10) (v := 7) C dX5_stepsFrom_10 (by decide) ?_
  refine g_icmp_ge (pc := 12) (tgt := 46) C dX5_stepsFrom_12 (by decide) h (fun h => ?_) (fun h => ?_)
  · refine g_iload (pc := 46) C dX5_stepsFrom_46 4 rfl ?_
    cases h
    exact hret _ _ _ dX5_stepsFrom_48 rfl rfl
  · refine g_iload_n (pc := 15) C dX5_stepsFrom_15 rfl 3 rfl ?_
    refine g_aload_n (pc := 16) C dX5_stepsFrom_16 rfl 0 rfl ?_
    refine g_iload_n (pc := 17) C dX5_stepsFrom_17 rfl 1 rfl ?_
    refine g_iload (pc := 18) C dX5_stepsFrom_18 5 rfl ?_
    refine g_iadd (pc := 20) C dX5_stepsFrom_20 ?_
    refine g_bipush (pc := 21) (v := 7) C dX5_stepsFrom_21 (by decide) ?_
    refine g_irem (pc := 23) C dX5_stepsFrom_23 h (fun v1 h => ?_)
    obtain ⟨u2, hu2, h⟩ := bs h
    refine g_callV (pc := 24) (st := [.int s.1]) (st1 := [.int u2, .int s.1]) (ws' := (W_X5_stepsFrom E o_p0 a_p0 p0_size p0_bytes)) C mv_X8_at mi_X8_at ml_X5_11 (c_X8_at X.2.1 E o_p0 a_p0 p0_size p0_bytes v1 u2 hu2) dX5_stepsFrom_24 (by decide) rfl (Nat.le_of_ble_eq_true rfl) 0 7 rfl rfl [0, 1] rfl (by decide) rfl rfl rfl rfl ?_
    refine g_iload_n (pc := 27) C dX5_stepsFrom_27 rfl 2 rfl ?_
    refine g_isub (pc := 28) C dX5_stepsFrom_28 ?_
    refine g_iadd (pc := 29) C dX5_stepsFrom_29 ?_
    refine g_nm h (fun v3 h => ?_)
    refine g_istore_n (pc := 30) (lv' := [(3, .int v3), (0, .ref o_p0), (1, .int x1), (2, .int x2), (4, .int s.2.1), (5, .int s.2.2)]) C dX5_stepsFrom_30 rfl (by decide) rfl ?_
    refine g_iload (pc := 31) C dX5_stepsFrom_31 4 rfl ?_
    refine g_iload_n (pc := 33) C dX5_stepsFrom_33 rfl 0 rfl ?_
    obtain ⟨u4, hu4, h⟩ := bs h
    refine g_callS (pc := 34) (st := [.int s.2.1]) (st1 := [.int u4, .int s.2.1]) (ws' := (W_X5_stepsFrom E o_p0 a_p0 p0_size p0_bytes)) C mv_J9_abs_0f7a4 ms_J9_abs_0f7a4 ml_X5_46 (c_J9_abs_0f7a4 X.2.1 E v3 u4 hu4) dX5_stepsFrom_34 (by decide) rfl (Nat.le_of_ble_eq_true rfl) [] rfl (by decide) rfl rfl rfl rfl ?_
    refine g_iadd (pc := 37) C dX5_stepsFrom_37 ?_
    refine g_nm h (fun v5 h => ?_)
    refine g_istore (pc := 38) (lv' := [(4, .int v5), (3, .int v3), (0, .ref o_p0), (1, .int x1), (2, .int x2), (5, .int s.2.2)]) C dX5_stepsFrom_38 (by decide) rfl ?_
    refine g_iincn (pc := 40) (j := 5) (d := 1) (lv' := fun v6 => [(5, .int v6), (4, .int v5), (3, .int v3), (0, .ref o_p0), (1, .int x1), (2, .int x2)]) C dX5_stepsFrom_40 rfl (by decide) (by decide) (fun _ => rfl) h (fun v6 h => ?_)
    refine g_goto (pc := 43) (tgt := 8) C dX5_stepsFrom_43 (by decide) ?_
    refine g_sub [3, 4, 5, 2, 1, 0] rfl ?_
    exact ih _ h
set_option maxHeartbeats 4000000 in
set_option maxRecDepth 100000 in
theorem c_X5_stepsFrom (l : Launch) (E : GE) (o_p0 : Nat) (a_p0 : Nat → Nat) (p0_size : Int32) (p0_bytes : (Nat → Int32)) (x1 : Int32) (x2 : Int32) (r : Int32) (h : f_X5_stepsFrom p0_size p0_bytes x1 x2 = some r) : Cn l E yX5_stepsFrom cX5_stepsFrom 6 (some .int) 2 0 0 [.ref o_p0, .int x1, .int x2] (W_X5_stepsFrom E o_p0 a_p0 p0_size p0_bytes) (fun w => w = (W_X5_stepsFrom E o_p0 a_p0 p0_size p0_bytes)) (some (.int r)) := by
  refine Cn.ofI (by decide +kernel) (Nat.le_of_ble_eq_true rfl) (fun X hX hR C hret => ?_)
  subst hX
  show Gx X E 0 0 (W_X5_stepsFrom E o_p0 a_p0 p0_size p0_bytes) 0 [(0, .ref o_p0), (1, .int x1), (2, .int x2)] []
  unfold f_X5_stepsFrom at h
  refine g_iconst (pc := 0) (v := 0) C dX5_stepsFrom_0 (by decide) ?_
  refine g_istore_n (pc := 1) (lv' := [(3, .int (0 : Int32)), (0, .ref o_p0), (1, .int x1), (2, .int x2)]) C dX5_stepsFrom_1 rfl (by decide) rfl ?_
  refine g_iconst (pc := 2) (v := 0) C dX5_stepsFrom_2 (by decide) ?_
  refine g_istore (pc := 3) (lv' := [(4, .int (0 : Int32)), (3, .int (0 : Int32)), (0, .ref o_p0), (1, .int x1), (2, .int x2)]) C dX5_stepsFrom_3 (by decide) rfl ?_
  refine g_iconst (pc := 5) (v := 0) C dX5_stepsFrom_5 (by decide) ?_
  refine g_istore (pc := 6) (lv' := [(5, .int (0 : Int32)), (4, .int (0 : Int32)), (3, .int (0 : Int32)), (0, .ref o_p0), (1, .int x1), (2, .int x2)]) C dX5_stepsFrom_6 (by decide) rfl ?_
  refine g_sub [3, 4, 5, 2, 1, 0] rfl ?_
  refine kL_X5_stepsFrom_8 C o_p0 a_p0 p0_size p0_bytes x1 x2 hret  _ _ h
abbrev W_X5_turnsFrom (E : GE) (O_p0 : Nat) (a_p0 : Nat → Nat) (p0_size : Int32) (p0_bytes : (Nat → Int32)) : va_W := [(O_p0, ob_X8 a_p0 p0_size), (a_p0 0, .inl (E.2.1, 260, .inl p0_bytes))]
def L_X5_turnsFrom_11 (p0_size : Int32) (p0_bytes : (Nat → Int32)) (x1 : Int32) (k0 : Int32 × Int32 → Option (Int32)) : Nat → Int32 × Int32 × Int32 × Int32 → Option (Int32) := lp fun go s => if x1 ≤ s.2.2.2 then (k0 (s.2.1, s.2.2.1)) else (f_X8_at p0_size p0_bytes s.2.2.2).bind fun u1 => (f_J9_floorMod_7cf53 (-((u1 + s.1) + s.2.1)) (6 : Int32)).bind fun u2 => nm (s.2.2.1 + u2) fun v3 => nm (s.2.2.2 + (1 : Int32)) fun v4 => go (s.2.1, u2, v3, v4)
def f_X5_turnsFrom (p0_size : Int32) (p0_bytes : (Nat → Int32)) (x1 : Int32) (x2 : Int32) : Option (Int32) := L_X5_turnsFrom_11 p0_size p0_bytes x1 (fun s5 => if s5.1 = 0 then (some s5.2) else some (-2 : Int32)) fu ((0 : Int32), x2, x2, (0 : Int32))
theorem dX5_turnsFrom_0 : decode cX5_turnsFrom 0 = .ok (.iconst 0, 1) := by decide +kernel
theorem dX5_turnsFrom_1 : decode cX5_turnsFrom 1 = .ok (.istore_n 3, 1) := by decide +kernel
theorem dX5_turnsFrom_2 : decode cX5_turnsFrom 2 = .ok (.iload_n 2, 1) := by decide +kernel
theorem dX5_turnsFrom_3 : decode cX5_turnsFrom 3 = .ok (.istore 4, 2) := by decide +kernel
theorem dX5_turnsFrom_5 : decode cX5_turnsFrom 5 = .ok (.iload_n 2, 1) := by decide +kernel
theorem dX5_turnsFrom_6 : decode cX5_turnsFrom 6 = .ok (.istore 5, 2) := by decide +kernel
theorem dX5_turnsFrom_8 : decode cX5_turnsFrom 8 = .ok (.iconst 0, 1) := by decide +kernel
theorem dX5_turnsFrom_9 : decode cX5_turnsFrom 9 = .ok (.istore 6, 2) := by decide +kernel
theorem dX5_turnsFrom_11 : decode cX5_turnsFrom 11 = .ok (.iload 6, 2) := by decide +kernel
theorem dX5_turnsFrom_13 : decode cX5_turnsFrom 13 = .ok (.iload_n 1, 1) := by decide +kernel
theorem dX5_turnsFrom_14 : decode cX5_turnsFrom 14 = .ok (.if_icmp .ge 42, 3) := by decide +kernel
theorem dX5_turnsFrom_17 : decode cX5_turnsFrom 17 = .ok (.aload_n 0, 1) := by decide +kernel
theorem dX5_turnsFrom_18 : decode cX5_turnsFrom 18 = .ok (.iload 6, 2) := by decide +kernel
theorem dX5_turnsFrom_20 : decode cX5_turnsFrom 20 = .ok (.invokevirtual 11, 3) := by decide +kernel
theorem dX5_turnsFrom_23 : decode cX5_turnsFrom 23 = .ok (.iload_n 3, 1) := by decide +kernel
theorem dX5_turnsFrom_24 : decode cX5_turnsFrom 24 = .ok (.iadd, 1) := by decide +kernel
theorem dX5_turnsFrom_25 : decode cX5_turnsFrom 25 = .ok (.iload 4, 2) := by decide +kernel
theorem dX5_turnsFrom_27 : decode cX5_turnsFrom 27 = .ok (.iadd, 1) := by decide +kernel
theorem dX5_turnsFrom_28 : decode cX5_turnsFrom 28 = .ok (.ineg, 1) := by decide +kernel
theorem dX5_turnsFrom_29 : decode cX5_turnsFrom 29 = .ok (.bipush 6, 2) := by decide +kernel
theorem dX5_turnsFrom_31 : decode cX5_turnsFrom 31 = .ok (.invokestatic 37, 3) := by decide +kernel
theorem dX5_turnsFrom_34 : decode cX5_turnsFrom 34 = .ok (.istore 7, 2) := by decide +kernel
theorem dX5_turnsFrom_36 : decode cX5_turnsFrom 36 = .ok (.iload 4, 2) := by decide +kernel
theorem dX5_turnsFrom_38 : decode cX5_turnsFrom 38 = .ok (.istore_n 3, 1) := by decide +kernel
theorem dX5_turnsFrom_39 : decode cX5_turnsFrom 39 = .ok (.iload 7, 2) := by decide +kernel
theorem dX5_turnsFrom_41 : decode cX5_turnsFrom 41 = .ok (.istore 4, 2) := by decide +kernel
theorem dX5_turnsFrom_43 : decode cX5_turnsFrom 43 = .ok (.iload 5, 2) := by decide +kernel
theorem dX5_turnsFrom_45 : decode cX5_turnsFrom 45 = .ok (.iload 7, 2) := by decide +kernel
theorem dX5_turnsFrom_47 : decode cX5_turnsFrom 47 = .ok (.iadd, 1) := by decide +kernel
theorem dX5_turnsFrom_48 : decode cX5_turnsFrom 48 = .ok (.istore 5, 2) := by decide +kernel
theorem dX5_turnsFrom_50 : decode cX5_turnsFrom 50 = .ok (.iinc 6 1, 3) := by decide +kernel
theorem dX5_turnsFrom_53 : decode cX5_turnsFrom 53 = .ok (.goto (-42), 3) := by decide +kernel
theorem dX5_turnsFrom_56 : decode cX5_turnsFrom 56 = .ok (.iload 4, 2) := by decide +kernel
theorem dX5_turnsFrom_58 : decode cX5_turnsFrom 58 = .ok (.ifCond .ne 8, 3) := by decide +kernel
theorem dX5_turnsFrom_61 : decode cX5_turnsFrom 61 = .ok (.iload 5, 2) := by decide +kernel
theorem dX5_turnsFrom_63 : decode cX5_turnsFrom 63 = .ok (.goto 5, 3) := by decide +kernel
theorem dX5_turnsFrom_66 : decode cX5_turnsFrom 66 = .ok (.bipush (-2), 2) := by decide +kernel
theorem dX5_turnsFrom_68 : decode cX5_turnsFrom 68 = .ok (.ireturn, 1) := by decide +kernel
set_option maxHeartbeats 4000000 in
set_option maxRecDepth 100000 in
theorem kL_X5_turnsFrom_11 {X : GC} {E : GE} (C : Cx X E cX5_turnsFrom RX5 2 8) (o_p0 : Nat) (a_p0 : Nat → Nat) (p0_size : Int32) (p0_bytes : (Nat → Int32)) (x1 : Int32) (k0 : Int32 × Int32 → Option (Int32)) {r : Int32} (hret : RtI X E cX5_turnsFrom .int 0 0 (fun w => w = (W_X5_turnsFrom E o_p0 a_p0 p0_size p0_bytes)) r) (hk0 : ∀ u, k0 u = some r → Gx X E 0 0 (W_X5_turnsFrom E o_p0 a_p0 p0_size p0_bytes) 56 [(4, .int u.1), (5, .int u.2)] []) : ∀ (n : Nat) (s : Int32 × Int32 × Int32 × Int32), L_X5_turnsFrom_11 p0_size p0_bytes x1 k0 n s = some r → Gx X E 0 0 (W_X5_turnsFrom E o_p0 a_p0 p0_size p0_bytes) 11 [(0, .ref o_p0), (1, .int x1), (3, .int s.1), (4, .int s.2.1), (5, .int s.2.2.1), (6, .int s.2.2.2)] [] := by
  unfold L_X5_turnsFrom_11
  refine lp_ind _ (fun go ih s h => ?_)
  refine g_iload (pc := 11) C dX5_turnsFrom_11 5 rfl ?_
  refine g_iload_n (pc := 13) C dX5_turnsFrom_13 rfl 1 rfl ?_
  refine g_icmp_ge (pc := 14) (tgt := 56) C dX5_turnsFrom_14 (by decide) h (fun h => ?_) (fun h => ?_)
  · refine g_sub [3, 4] rfl ?_
    exact hk0 _ h
  · refine g_aload_n (pc := 17) C dX5_turnsFrom_17 rfl 0 rfl ?_
    refine g_iload (pc := 18) C dX5_turnsFrom_18 5 rfl ?_
    obtain ⟨u1, hu1, h⟩ := bs h
    refine g_callV (pc := 20) (st := []) (st1 := [.int u1]) (ws' := (W_X5_turnsFrom E o_p0 a_p0 p0_size p0_bytes)) C mv_X8_at mi_X8_at ml_X5_11 (c_X8_at X.2.1 E o_p0 a_p0 p0_size p0_bytes s.2.2.2 u1 hu1) dX5_turnsFrom_20 (by decide) rfl (Nat.le_of_ble_eq_true rfl) 0 7 rfl rfl [0, 1] rfl (by decide) rfl rfl rfl rfl ?_
    refine g_iload_n (pc := 23) C dX5_turnsFrom_23 rfl 2 rfl ?_
    refine g_iadd (pc := 24) C dX5_turnsFrom_24 ?_
    refine g_iload (pc := 25) C dX5_turnsFrom_25 3 rfl ?_
    refine g_iadd (pc := 27) C dX5_turnsFrom_27 ?_
    refine g_ineg (pc := 28) C dX5_turnsFrom_28 ?_
    refine g_bipush (pc := 29) (v := 6) C dX5_turnsFrom_29 (by decide) ?_
    obtain ⟨u2, hu2, h⟩ := bs h
    refine g_callS (pc := 31) (st := []) (st1 := [.int u2]) (ws' := (W_X5_turnsFrom E o_p0 a_p0 p0_size p0_bytes)) C mv_J9_floorMod_7cf53 ms_J9_floorMod_7cf53 ml_X5_37 (c_J9_floorMod_7cf53 X.2.1 E (-((u1 + s.1) + s.2.1)) (6 : Int32) u2 hu2) dX5_turnsFrom_31 (by decide) rfl (Nat.le_of_ble_eq_true rfl) [] rfl (by decide) rfl rfl rfl rfl ?_
    refine g_istore (pc := 34) (lv' := [(7, .int u2), (0, .ref o_p0), (1, .int x1), (3, .int s.1), (4, .int s.2.1), (5, .int s.2.2.1), (6, .int s.2.2.2)]) C dX5_turnsFrom_34 (by decide) rfl ?_
    refine g_iload (pc := 36) C dX5_turnsFrom_36 4 rfl ?_
    refine g_istore_n (pc := 38) (lv' := [(3, .int s.2.1), (7, .int u2), (0, .ref o_p0), (1, .int x1), (4, .int s.2.1), (5, .int s.2.2.1), (6, .int s.2.2.2)]) C dX5_turnsFrom_38 rfl (by decide) rfl ?_
    refine g_iload (pc := 39) C dX5_turnsFrom_39 1 rfl ?_
    refine g_istore (pc := 41) (lv' := [(4, .int u2), (3, .int s.2.1), (7, .int u2), (0, .ref o_p0), (1, .int x1), (5, .int s.2.2.1), (6, .int s.2.2.2)]) C dX5_turnsFrom_41 (by decide) rfl ?_
    refine g_iload (pc := 43) C dX5_turnsFrom_43 5 rfl ?_
    refine g_iload (pc := 45) C dX5_turnsFrom_45 2 rfl ?_
    refine g_iadd (pc := 47) C dX5_turnsFrom_47 ?_
    refine g_nm h (fun v3 h => ?_)
    refine g_istore (pc := 48) (lv' := [(5, .int v3), (4, .int u2), (3, .int s.2.1), (7, .int u2), (0, .ref o_p0), (1, .int x1), (6, .int s.2.2.2)]) C dX5_turnsFrom_48 (by decide) rfl ?_
    refine g_iincn (pc := 50) (j := 6) (d := 1) (lv' := fun v4 => [(6, .int v4), (5, .int v3), (4, .int u2), (3, .int s.2.1), (7, .int u2), (0, .ref o_p0), (1, .int x1)]) C dX5_turnsFrom_50 rfl (by decide) (by decide) (fun _ => rfl) h (fun v4 h => ?_)
    refine g_goto (pc := 53) (tgt := 11) C dX5_turnsFrom_53 (by decide) ?_
    refine g_sub [5, 6, 3, 2, 1, 0] rfl ?_
    exact ih _ h
set_option maxHeartbeats 4000000 in
set_option maxRecDepth 100000 in
theorem c_X5_turnsFrom (l : Launch) (E : GE) (o_p0 : Nat) (a_p0 : Nat → Nat) (p0_size : Int32) (p0_bytes : (Nat → Int32)) (x1 : Int32) (x2 : Int32) (r : Int32) (h : f_X5_turnsFrom p0_size p0_bytes x1 x2 = some r) : Cn l E yX5_turnsFrom cX5_turnsFrom 8 (some .int) 2 0 0 [.ref o_p0, .int x1, .int x2] (W_X5_turnsFrom E o_p0 a_p0 p0_size p0_bytes) (fun w => w = (W_X5_turnsFrom E o_p0 a_p0 p0_size p0_bytes)) (some (.int r)) := by
  refine Cn.ofI (by decide +kernel) (Nat.le_of_ble_eq_true rfl) (fun X hX hR C hret => ?_)
  subst hX
  show Gx X E 0 0 (W_X5_turnsFrom E o_p0 a_p0 p0_size p0_bytes) 0 [(0, .ref o_p0), (1, .int x1), (2, .int x2)] []
  unfold f_X5_turnsFrom at h
  refine g_iconst (pc := 0) (v := 0) C dX5_turnsFrom_0 (by decide) ?_
  refine g_istore_n (pc := 1) (lv' := [(3, .int (0 : Int32)), (0, .ref o_p0), (1, .int x1), (2, .int x2)]) C dX5_turnsFrom_1 rfl (by decide) rfl ?_
  refine g_iload_n (pc := 2) C dX5_turnsFrom_2 rfl 3 rfl ?_
  refine g_istore (pc := 3) (lv' := [(4, .int x2), (3, .int (0 : Int32)), (0, .ref o_p0), (1, .int x1), (2, .int x2)]) C dX5_turnsFrom_3 (by decide) rfl ?_
  refine g_iload_n (pc := 5) C dX5_turnsFrom_5 rfl 4 rfl ?_
  refine g_istore (pc := 6) (lv' := [(5, .int x2), (4, .int x2), (3, .int (0 : Int32)), (0, .ref o_p0), (1, .int x1), (2, .int x2)]) C dX5_turnsFrom_6 (by decide) rfl ?_
  refine g_iconst (pc := 8) (v := 0) C dX5_turnsFrom_8 (by decide) ?_
  refine g_istore (pc := 9) (lv' := [(6, .int (0 : Int32)), (5, .int x2), (4, .int x2), (3, .int (0 : Int32)), (0, .ref o_p0), (1, .int x1), (2, .int x2)]) C dX5_turnsFrom_9 (by decide) rfl ?_
  refine g_sub [4, 5, 3, 2, 1, 0] rfl ?_
  refine kL_X5_turnsFrom_11 C o_p0 a_p0 p0_size p0_bytes x1 _ hret (fun s5 h => ?_) _ _ h
  refine g_iload (pc := 56) C dX5_turnsFrom_56 0 rfl ?_
  refine g_if_ne (pc := 58) (tgt := 66) C dX5_turnsFrom_58 (by decide) h (fun h => ?_) (fun h => ?_)
  · refine g_bipush (pc := 66) (v := -2) C dX5_turnsFrom_66 (by decide) ?_
    cases h
    exact hret _ _ _ dX5_turnsFrom_68 rfl rfl
  · refine g_iload (pc := 61) C dX5_turnsFrom_61 1 rfl ?_
    refine g_goto (pc := 63) (tgt := 68) C dX5_turnsFrom_63 (by decide) ?_
    cases h
    exact hret _ _ _ dX5_turnsFrom_68 rfl rfl
abbrev W_X5_couldBe (E : GE) (O_p0 : Nat) (a_p0 : Nat → Nat) (p0_size : Int32) (p0_bytes : (Nat → Int32)) : va_W := [(O_p0, ob_X8 a_p0 p0_size), (a_p0 0, .inl (E.2.1, 260, .inl p0_bytes))]
def L_X5_couldBe_2 (p0_size : Int32) (p0_bytes : (Nat → Int32)) (x1 : Int32) (x2 : Int32) : Nat → Int32 → Option (Int32) := lp fun go s => if x1 ≤ s then (some (1 : Int32)) else nm ((6 : Int32) * s) fun v1 => (f_X8_at p0_size p0_bytes (v1 + (4 : Int32))).bind fun u2 => (f_X8_at p0_size p0_bytes ((v1 + (4 : Int32)) + (1 : Int32))).bind fun u3 => (f_X5_rightOnes p0_size p0_bytes v1 x2).bind fun u4 => if u4 = u2 then ((f_X5_sharedOnes p0_size p0_bytes v1 x2).bind fun u5 => if u5 = (u2 + u3) then (nm (s + (1 : Int32)) fun v6 => go v6) else some (0 : Int32)) else some (0 : Int32)
def f_X5_couldBe (p0_size : Int32) (p0_bytes : (Nat → Int32)) (x1 : Int32) (x2 : Int32) : Option (Int32) := L_X5_couldBe_2 p0_size p0_bytes x1 x2 fu (0 : Int32)
theorem dX5_couldBe_0 : decode cX5_couldBe 0 = .ok (.iconst 0, 1) := by decide +kernel
theorem dX5_couldBe_1 : decode cX5_couldBe 1 = .ok (.istore_n 3, 1) := by decide +kernel
theorem dX5_couldBe_2 : decode cX5_couldBe 2 = .ok (.iload_n 3, 1) := by decide +kernel
theorem dX5_couldBe_3 : decode cX5_couldBe 3 = .ok (.iload_n 1, 1) := by decide +kernel
theorem dX5_couldBe_4 : decode cX5_couldBe 4 = .ok (.if_icmp .ge 66, 3) := by decide +kernel
theorem dX5_couldBe_7 : decode cX5_couldBe 7 = .ok (.bipush 6, 2) := by decide +kernel
theorem dX5_couldBe_9 : decode cX5_couldBe 9 = .ok (.iload_n 3, 1) := by decide +kernel
theorem dX5_couldBe_10 : decode cX5_couldBe 10 = .ok (.imul, 1) := by decide +kernel
theorem dX5_couldBe_11 : decode cX5_couldBe 11 = .ok (.istore 4, 2) := by decide +kernel
theorem dX5_couldBe_13 : decode cX5_couldBe 13 = .ok (.aload_n 0, 1) := by decide +kernel
theorem dX5_couldBe_14 : decode cX5_couldBe 14 = .ok (.iload 4, 2) := by decide +kernel
theorem dX5_couldBe_16 : decode cX5_couldBe 16 = .ok (.iconst 4, 1) := by decide +kernel
theorem dX5_couldBe_17 : decode cX5_couldBe 17 = .ok (.iadd, 1) := by decide +kernel
theorem dX5_couldBe_18 : decode cX5_couldBe 18 = .ok (.invokevirtual 11, 3) := by decide +kernel
theorem dX5_couldBe_21 : decode cX5_couldBe 21 = .ok (.istore 5, 2) := by decide +kernel
theorem dX5_couldBe_23 : decode cX5_couldBe 23 = .ok (.aload_n 0, 1) := by decide +kernel
theorem dX5_couldBe_24 : decode cX5_couldBe 24 = .ok (.iload 4, 2) := by decide +kernel
theorem dX5_couldBe_26 : decode cX5_couldBe 26 = .ok (.iconst 4, 1) := by decide +kernel
theorem dX5_couldBe_27 : decode cX5_couldBe 27 = .ok (.iadd, 1) := by decide +kernel
theorem dX5_couldBe_28 : decode cX5_couldBe 28 = .ok (.iconst 1, 1) := by decide +kernel
theorem dX5_couldBe_29 : decode cX5_couldBe 29 = .ok (.iadd, 1) := by decide +kernel
theorem dX5_couldBe_30 : decode cX5_couldBe 30 = .ok (.invokevirtual 11, 3) := by decide +kernel
theorem dX5_couldBe_33 : decode cX5_couldBe 33 = .ok (.istore 6, 2) := by decide +kernel
theorem dX5_couldBe_35 : decode cX5_couldBe 35 = .ok (.aload_n 0, 1) := by decide +kernel
theorem dX5_couldBe_36 : decode cX5_couldBe 36 = .ok (.iload 4, 2) := by decide +kernel
theorem dX5_couldBe_38 : decode cX5_couldBe 38 = .ok (.iload_n 2, 1) := by decide +kernel
theorem dX5_couldBe_39 : decode cX5_couldBe 39 = .ok (.invokestatic 21, 3) := by decide +kernel
theorem dX5_couldBe_42 : decode cX5_couldBe 42 = .ok (.iload 5, 2) := by decide +kernel
theorem dX5_couldBe_44 : decode cX5_couldBe 44 = .ok (.if_icmp .ne 18, 3) := by decide +kernel
theorem dX5_couldBe_47 : decode cX5_couldBe 47 = .ok (.aload_n 0, 1) := by decide +kernel
theorem dX5_couldBe_48 : decode cX5_couldBe 48 = .ok (.iload 4, 2) := by decide +kernel
theorem dX5_couldBe_50 : decode cX5_couldBe 50 = .ok (.iload_n 2, 1) := by decide +kernel
theorem dX5_couldBe_51 : decode cX5_couldBe 51 = .ok (.invokestatic 25, 3) := by decide +kernel
theorem dX5_couldBe_54 : decode cX5_couldBe 54 = .ok (.iload 5, 2) := by decide +kernel
theorem dX5_couldBe_56 : decode cX5_couldBe 56 = .ok (.iload 6, 2) := by decide +kernel
theorem dX5_couldBe_58 : decode cX5_couldBe 58 = .ok (.iadd, 1) := by decide +kernel
theorem dX5_couldBe_59 : decode cX5_couldBe 59 = .ok (.if_icmp .eq 5, 3) := by decide +kernel
theorem dX5_couldBe_62 : decode cX5_couldBe 62 = .ok (.iconst 0, 1) := by decide +kernel
theorem dX5_couldBe_63 : decode cX5_couldBe 63 = .ok (.ireturn, 1) := by decide +kernel
theorem dX5_couldBe_64 : decode cX5_couldBe 64 = .ok (.iinc 3 1, 3) := by decide +kernel
theorem dX5_couldBe_67 : decode cX5_couldBe 67 = .ok (.goto (-65), 3) := by decide +kernel
theorem dX5_couldBe_70 : decode cX5_couldBe 70 = .ok (.iconst 1, 1) := by decide +kernel
theorem dX5_couldBe_71 : decode cX5_couldBe 71 = .ok (.ireturn, 1) := by decide +kernel
set_option maxHeartbeats 4000000 in
set_option maxRecDepth 100000 in
theorem kL_X5_couldBe_2 {X : GC} {E : GE} (C : Cx X E cX5_couldBe RX5 3 7) (o_p0 : Nat) (a_p0 : Nat → Nat) (p0_size : Int32) (p0_bytes : (Nat → Int32)) (x1 : Int32) (x2 : Int32) {r : Int32} (hret : RtI X E cX5_couldBe .boolean 0 0 (fun w => w = (W_X5_couldBe E o_p0 a_p0 p0_size p0_bytes)) r) : ∀ (n : Nat) (s : Int32), L_X5_couldBe_2 p0_size p0_bytes x1 x2 n s = some r → Gx X E 0 0 (W_X5_couldBe E o_p0 a_p0 p0_size p0_bytes) 2 [(0, .ref o_p0), (1, .int x1), (2, .int x2), (3, .int s)] [] := by
  unfold L_X5_couldBe_2
  refine lp_ind _ (fun go ih s h => ?_)
  refine g_iload_n (pc := 2) C dX5_couldBe_2 rfl 3 rfl ?_
  refine g_iload_n (pc := 3) C dX5_couldBe_3 rfl 1 rfl ?_
  refine g_icmp_ge (pc := 4) (tgt := 70) C dX5_couldBe_4 (by decide) h (fun h => ?_) (fun h => ?_)
  · refine g_iconst (pc := 70) (v := 1) C dX5_couldBe_70 (by decide) ?_
    cases h
    exact hret _ _ _ dX5_couldBe_71 nb1 rfl
  · refine g_bipush (pc := 7) (v := 6) C dX5_couldBe_7 (by decide) ?_
    refine g_iload_n (pc := 9) C dX5_couldBe_9 rfl 3 rfl ?_
    refine g_imul (pc := 10) C dX5_couldBe_10 ?_
    refine g_nm h (fun v1 h => ?_)
    refine g_istore (pc := 11) (lv' := [(4, .int v1), (0, .ref o_p0), (1, .int x1), (2, .int x2), (3, .int s)]) C dX5_couldBe_11 (by decide) rfl ?_
    refine g_aload_n (pc := 13) C dX5_couldBe_13 rfl 1 rfl ?_
    refine g_iload (pc := 14) C dX5_couldBe_14 0 rfl ?_
    refine g_iconst (pc := 16) (v := 4) C dX5_couldBe_16 (by decide) ?_
    refine g_iadd (pc := 17) C dX5_couldBe_17 ?_
    obtain ⟨u2, hu2, h⟩ := bs h
    refine g_callV (pc := 18) (st := []) (st1 := [.int u2]) (ws' := (W_X5_couldBe E o_p0 a_p0 p0_size p0_bytes)) C mv_X8_at mi_X8_at ml_X5_11 (c_X8_at X.2.1 E o_p0 a_p0 p0_size p0_bytes (v1 + (4 : Int32)) u2 hu2) dX5_couldBe_18 (by decide) rfl (Nat.le_of_ble_eq_true rfl) 0 7 rfl rfl [0, 1] rfl (by decide) rfl rfl rfl rfl ?_
    refine g_istore (pc := 21) (lv' := [(5, .int u2), (4, .int v1), (0, .ref o_p0), (1, .int x1), (2, .int x2), (3, .int s)]) C dX5_couldBe_21 (by decide) rfl ?_
    refine g_aload_n (pc := 23) C dX5_couldBe_23 rfl 2 rfl ?_
    refine g_iload (pc := 24) C dX5_couldBe_24 1 rfl ?_
    refine g_iconst (pc := 26) (v := 4) C dX5_couldBe_26 (by decide) ?_
    refine g_iadd (pc := 27) C dX5_couldBe_27 ?_
    refine g_iconst (pc := 28) (v := 1) C dX5_couldBe_28 (by decide) ?_
    refine g_iadd (pc := 29) C dX5_couldBe_29 ?_
    obtain ⟨u3, hu3, h⟩ := bs h
    refine g_callV (pc := 30) (st := []) (st1 := [.int u3]) (ws' := (W_X5_couldBe E o_p0 a_p0 p0_size p0_bytes)) C mv_X8_at mi_X8_at ml_X5_11 (c_X8_at X.2.1 E o_p0 a_p0 p0_size p0_bytes ((v1 + (4 : Int32)) + (1 : Int32)) u3 hu3) dX5_couldBe_30 (by decide) rfl (Nat.le_of_ble_eq_true rfl) 0 7 rfl rfl [0, 1] rfl (by decide) rfl rfl rfl rfl ?_
    refine g_istore (pc := 33) (lv' := [(6, .int u3), (5, .int u2), (4, .int v1), (0, .ref o_p0), (1, .int x1), (2, .int x2), (3, .int s)]) C dX5_couldBe_33 (by decide) rfl ?_
    refine g_aload_n (pc := 35) C dX5_couldBe_35 rfl 3 rfl ?_
    refine g_iload (pc := 36) C dX5_couldBe_36 2 rfl ?_
    refine g_iload_n (pc := 38) C dX5_couldBe_38 rfl 5 rfl ?_
    obtain ⟨u4, hu4, h⟩ := bs h
    refine g_callS (pc := 39) (st := []) (st1 := [.int u4]) (ws' := (W_X5_couldBe E o_p0 a_p0 p0_size p0_bytes)) C mv_X5_rightOnes ms_X5_rightOnes ml_X5_21 (c_X5_rightOnes X.2.1 E o_p0 a_p0 p0_size p0_bytes v1 x2 u4 hu4) dX5_couldBe_39 (by decide) rfl (Nat.le_of_ble_eq_true rfl) [0, 1] rfl (by decide) rfl rfl rfl rfl ?_
    refine g_iload (pc := 42) C dX5_couldBe_42 1 rfl ?_
    refine g_icmp_ne (pc := 44) (tgt := 62) C dX5_couldBe_44 (by decide) h (fun h => ?_) (fun h => ?_)
    · refine g_iconst (pc := 62) (v := 0) C dX5_couldBe_62 (by decide) ?_
      cases h
      exact hret _ _ _ dX5_couldBe_63 nb0 rfl
    · refine g_aload_n (pc := 47) C dX5_couldBe_47 rfl 3 rfl ?_
      refine g_iload (pc := 48) C dX5_couldBe_48 2 rfl ?_
      refine g_iload_n (pc := 50) C dX5_couldBe_50 rfl 5 rfl ?_
      obtain ⟨u5, hu5, h⟩ := bs h
      refine g_callS (pc := 51) (st := []) (st1 := [.int u5]) (ws' := (W_X5_couldBe E o_p0 a_p0 p0_size p0_bytes)) C mv_X5_sharedOnes ms_X5_sharedOnes ml_X5_25 (c_X5_sharedOnes X.2.1 E o_p0 a_p0 p0_size p0_bytes v1 x2 u5 hu5) dX5_couldBe_51 (by decide) rfl (Nat.le_of_ble_eq_true rfl) [0, 1] rfl (by decide) rfl rfl rfl rfl ?_
      refine g_iload (pc := 54) C dX5_couldBe_54 1 rfl ?_
      refine g_iload (pc := 56) C dX5_couldBe_56 0 rfl ?_
      refine g_iadd (pc := 58) C dX5_couldBe_58 ?_
      refine g_icmp_eq (pc := 59) (tgt := 64) C dX5_couldBe_59 (by decide) h (fun h => ?_) (fun h => ?_)
      · refine g_iincn (pc := 64) (j := 6) (d := 1) (lv' := fun v6 => [(3, .int v6), (6, .int u3), (5, .int u2), (4, .int v1), (0, .ref o_p0), (1, .int x1), (2, .int x2)]) C dX5_couldBe_64 rfl (by decide) (by decide) (fun _ => rfl) h (fun v6 h => ?_)
        refine g_goto (pc := 67) (tgt := 2) C dX5_couldBe_67 (by decide) ?_
        refine g_sub [4, 5, 6, 0] rfl ?_
        exact ih _ h
      · refine g_iconst (pc := 62) (v := 0) C dX5_couldBe_62 (by decide) ?_
        cases h
        exact hret _ _ _ dX5_couldBe_63 nb0 rfl
set_option maxHeartbeats 4000000 in
set_option maxRecDepth 100000 in
theorem c_X5_couldBe (l : Launch) (E : GE) (o_p0 : Nat) (a_p0 : Nat → Nat) (p0_size : Int32) (p0_bytes : (Nat → Int32)) (x1 : Int32) (x2 : Int32) (r : Int32) (h : f_X5_couldBe p0_size p0_bytes x1 x2 = some r) : Cn l E yX5_couldBe cX5_couldBe 7 (some .boolean) 3 0 0 [.ref o_p0, .int x1, .int x2] (W_X5_couldBe E o_p0 a_p0 p0_size p0_bytes) (fun w => w = (W_X5_couldBe E o_p0 a_p0 p0_size p0_bytes)) (some (.int r)) := by
  refine Cn.ofI (by decide +kernel) (Nat.le_of_ble_eq_true rfl) (fun X hX hR C hret => ?_)
  subst hX
  show Gx X E 0 0 (W_X5_couldBe E o_p0 a_p0 p0_size p0_bytes) 0 [(0, .ref o_p0), (1, .int x1), (2, .int x2)] []
  unfold f_X5_couldBe at h
  refine g_iconst (pc := 0) (v := 0) C dX5_couldBe_0 (by decide) ?_
  refine g_istore_n (pc := 1) (lv' := [(3, .int (0 : Int32)), (0, .ref o_p0), (1, .int x1), (2, .int x2)]) C dX5_couldBe_1 rfl (by decide) rfl ?_
  refine g_sub [1, 2, 3, 0] rfl ?_
  refine kL_X5_couldBe_2 C o_p0 a_p0 p0_size p0_bytes x1 x2 hret  _ _ h
abbrev W_X5_dialTurns (E : GE) (O_p0 : Nat) (a_p0 : Nat → Nat) (p0_size : Int32) (p0_bytes : (Nat → Int32)) : va_W := [(O_p0, ob_X8 a_p0 p0_size), (a_p0 0, .inl (E.2.1, 260, .inl p0_bytes))]
def L_X5_dialTurns_5 (p0_size : Int32) (p0_bytes : (Nat → Int32)) (x1 : Int32) : Nat → Int32 × Int32 → Option (Int32) := lp fun go s => if (6 : Int32) ≤ s.2 then (some s.1) else (f_X5_turnsFrom p0_size p0_bytes x1 s.2).bind fun u1 => if u1 = (-2 : Int32) then (nm (s.2 + (1 : Int32)) fun v2 => go (s.1, v2)) else if s.1 = (-2 : Int32) then (nm (s.2 + (1 : Int32)) fun v3 => go (u1, v3)) else if s.1 ≤ u1 then (nm (s.2 + (1 : Int32)) fun v4 => go (s.1, v4)) else nm (s.2 + (1 : Int32)) fun v5 => go (u1, v5)
def f_X5_dialTurns (p0_size : Int32) (p0_bytes : (Nat → Int32)) (x1 : Int32) : Option (Int32) := L_X5_dialTurns_5 p0_size p0_bytes x1 fu ((-2 : Int32), (0 : Int32))
theorem dX5_dialTurns_0 : decode cX5_dialTurns 0 = .ok (.bipush (-2), 2) := by decide +kernel
theorem dX5_dialTurns_2 : decode cX5_dialTurns 2 = .ok (.istore_n 2, 1) := by decide +kernel
theorem dX5_dialTurns_3 : decode cX5_dialTurns 3 = .ok (.iconst 0, 1) := by decide +kernel
theorem dX5_dialTurns_4 : decode cX5_dialTurns 4 = .ok (.istore_n 3, 1) := by decide +kernel
theorem dX5_dialTurns_5 : decode cX5_dialTurns 5 = .ok (.iload_n 3, 1) := by decide +kernel
theorem dX5_dialTurns_6 : decode cX5_dialTurns 6 = .ok (.bipush 6, 2) := by decide +kernel
theorem dX5_dialTurns_8 : decode cX5_dialTurns 8 = .ok (.if_icmp .ge 39, 3) := by decide +kernel
theorem dX5_dialTurns_11 : decode cX5_dialTurns 11 = .ok (.aload_n 0, 1) := by decide +kernel
theorem dX5_dialTurns_12 : decode cX5_dialTurns 12 = .ok (.iload_n 1, 1) := by decide +kernel
theorem dX5_dialTurns_13 : decode cX5_dialTurns 13 = .ok (.iload_n 3, 1) := by decide +kernel
theorem dX5_dialTurns_14 : decode cX5_dialTurns 14 = .ok (.invokestatic 34, 3) := by decide +kernel
theorem dX5_dialTurns_17 : decode cX5_dialTurns 17 = .ok (.istore 4, 2) := by decide +kernel
theorem dX5_dialTurns_19 : decode cX5_dialTurns 19 = .ok (.iload 4, 2) := by decide +kernel
theorem dX5_dialTurns_21 : decode cX5_dialTurns 21 = .ok (.bipush (-2), 2) := by decide +kernel
theorem dX5_dialTurns_23 : decode cX5_dialTurns 23 = .ok (.if_icmp .eq 18, 3) := by decide +kernel
theorem dX5_dialTurns_26 : decode cX5_dialTurns 26 = .ok (.iload_n 2, 1) := by decide +kernel
theorem dX5_dialTurns_27 : decode cX5_dialTurns 27 = .ok (.bipush (-2), 2) := by decide +kernel
theorem dX5_dialTurns_29 : decode cX5_dialTurns 29 = .ok (.if_icmp .eq 9, 3) := by decide +kernel
theorem dX5_dialTurns_32 : decode cX5_dialTurns 32 = .ok (.iload 4, 2) := by decide +kernel
theorem dX5_dialTurns_34 : decode cX5_dialTurns 34 = .ok (.iload_n 2, 1) := by decide +kernel
theorem dX5_dialTurns_35 : decode cX5_dialTurns 35 = .ok (.if_icmp .ge 6, 3) := by decide +kernel
theorem dX5_dialTurns_38 : decode cX5_dialTurns 38 = .ok (.iload 4, 2) := by decide +kernel
theorem dX5_dialTurns_40 : decode cX5_dialTurns 40 = .ok (.istore_n 2, 1) := by decide +kernel
theorem dX5_dialTurns_41 : decode cX5_dialTurns 41 = .ok (.iinc 3 1, 3) := by decide +kernel
theorem dX5_dialTurns_44 : decode cX5_dialTurns 44 = .ok (.goto (-39), 3) := by decide +kernel
theorem dX5_dialTurns_47 : decode cX5_dialTurns 47 = .ok (.iload_n 2, 1) := by decide +kernel
theorem dX5_dialTurns_48 : decode cX5_dialTurns 48 = .ok (.ireturn, 1) := by decide +kernel
set_option maxHeartbeats 4000000 in
set_option maxRecDepth 100000 in
theorem kL_X5_dialTurns_5 {X : GC} {E : GE} (C : Cx X E cX5_dialTurns RX5 3 5) (o_p0 : Nat) (a_p0 : Nat → Nat) (p0_size : Int32) (p0_bytes : (Nat → Int32)) (x1 : Int32) {r : Int32} (hret : RtI X E cX5_dialTurns .int 0 0 (fun w => w = (W_X5_dialTurns E o_p0 a_p0 p0_size p0_bytes)) r) : ∀ (n : Nat) (s : Int32 × Int32), L_X5_dialTurns_5 p0_size p0_bytes x1 n s = some r → Gx X E 0 0 (W_X5_dialTurns E o_p0 a_p0 p0_size p0_bytes) 5 [(0, .ref o_p0), (1, .int x1), (2, .int s.1), (3, .int s.2)] [] := by
  unfold L_X5_dialTurns_5
  refine lp_ind _ (fun go ih s h => ?_)
  refine g_iload_n (pc := 5) C dX5_dialTurns_5 rfl 3 rfl ?_
  refine g_bipush (pc := 6) (v := 6) C dX5_dialTurns_6 (by decide) ?_
  refine g_icmp_ge (pc := 8) (tgt := 47) C dX5_dialTurns_8 (by decide) h (fun h => ?_) (fun h => ?_)
  · refine g_iload_n (pc := 47) C dX5_dialTurns_47 rfl 2 rfl ?_
    cases h
    exact hret _ _ _ dX5_dialTurns_48 rfl rfl
  · refine g_aload_n (pc := 11) C dX5_dialTurns_11 rfl 0 rfl ?_
    refine g_iload_n (pc := 12) C dX5_dialTurns_12 rfl 1 rfl ?_
    refine g_iload_n (pc := 13) C dX5_dialTurns_13 rfl 3 rfl ?_
    obtain ⟨u1, hu1, h⟩ := bs h
    refine g_callS (pc := 14) (st := []) (st1 := [.int u1]) (ws' := (W_X5_dialTurns E o_p0 a_p0 p0_size p0_bytes)) C mv_X5_turnsFrom ms_X5_turnsFrom ml_X5_34 (c_X5_turnsFrom X.2.1 E o_p0 a_p0 p0_size p0_bytes x1 s.2 u1 hu1) dX5_dialTurns_14 (by decide) rfl (Nat.le_of_ble_eq_true rfl) [0, 1] rfl (by decide) rfl rfl rfl rfl ?_
    refine g_istore (pc := 17) (lv' := [(4, .int u1), (0, .ref o_p0), (1, .int x1), (2, .int s.1), (3, .int s.2)]) C dX5_dialTurns_17 (by decide) rfl ?_
    refine g_iload (pc := 19) C dX5_dialTurns_19 0 rfl ?_
    refine g_bipush (pc := 21) (v := -2) C dX5_dialTurns_21 (by decide) ?_
    refine g_icmp_eq (pc := 23) (tgt := 41) C dX5_dialTurns_23 (by decide) h (fun h => ?_) (fun h => ?_)
    · refine g_iincn (pc := 41) (j := 4) (d := 1) (lv' := fun v2 => [(3, .int v2), (4, .int u1), (0, .ref o_p0), (1, .int x1), (2, .int s.1)]) C dX5_dialTurns_41 rfl (by decide) (by decide) (fun _ => rfl) h (fun v2 h => ?_)
      refine g_goto (pc := 44) (tgt := 5) C dX5_dialTurns_44 (by decide) ?_
      refine g_sub [2, 3, 4, 0] rfl ?_
      exact ih _ h
    · refine g_iload_n (pc := 26) C dX5_dialTurns_26 rfl 3 rfl ?_
      refine g_bipush (pc := 27) (v := -2) C dX5_dialTurns_27 (by decide) ?_
      refine g_icmp_eq (pc := 29) (tgt := 38) C dX5_dialTurns_29 (by decide) h (fun h => ?_) (fun h => ?_)
      · refine g_iload (pc := 38) C dX5_dialTurns_38 0 rfl ?_
        refine g_istore_n (pc := 40) (lv' := [(2, .int u1), (4, .int u1), (0, .ref o_p0), (1, .int x1), (3, .int s.2)]) C dX5_dialTurns_40 rfl (by decide) rfl ?_
        refine g_iincn (pc := 41) (j := 4) (d := 1) (lv' := fun v3 => [(3, .int v3), (2, .int u1), (4, .int u1), (0, .ref o_p0), (1, .int x1)]) C dX5_dialTurns_41 rfl (by decide) (by decide) (fun _ => rfl) h (fun v3 h => ?_)
        refine g_goto (pc := 44) (tgt := 5) C dX5_dialTurns_44 (by decide) ?_
        refine g_sub [3, 4, 1, 0] rfl ?_
        exact ih _ h
      · refine g_iload (pc := 32) C dX5_dialTurns_32 0 rfl ?_
        refine g_iload_n (pc := 34) C dX5_dialTurns_34 rfl 3 rfl ?_
        refine g_icmp_ge (pc := 35) (tgt := 41) C dX5_dialTurns_35 (by decide) h (fun h => ?_) (fun h => ?_)
        · refine g_iincn (pc := 41) (j := 4) (d := 1) (lv' := fun v4 => [(3, .int v4), (4, .int u1), (0, .ref o_p0), (1, .int x1), (2, .int s.1)]) C dX5_dialTurns_41 rfl (by decide) (by decide) (fun _ => rfl) h (fun v4 h => ?_)
          refine g_goto (pc := 44) (tgt := 5) C dX5_dialTurns_44 (by decide) ?_
          refine g_sub [2, 3, 4, 0] rfl ?_
          exact ih _ h
        · refine g_iload (pc := 38) C dX5_dialTurns_38 0 rfl ?_
          refine g_istore_n (pc := 40) (lv' := [(2, .int u1), (4, .int u1), (0, .ref o_p0), (1, .int x1), (3, .int s.2)]) C dX5_dialTurns_40 rfl (by decide) rfl ?_
          refine g_iincn (pc := 41) (j := 4) (d := 1) (lv' := fun v5 => [(3, .int v5), (2, .int u1), (4, .int u1), (0, .ref o_p0), (1, .int x1)]) C dX5_dialTurns_41 rfl (by decide) (by decide) (fun _ => rfl) h (fun v5 h => ?_)
          refine g_goto (pc := 44) (tgt := 5) C dX5_dialTurns_44 (by decide) ?_
          refine g_sub [3, 4, 1, 0] rfl ?_
          exact ih _ h
set_option maxHeartbeats 4000000 in
set_option maxRecDepth 100000 in
theorem c_X5_dialTurns (l : Launch) (E : GE) (o_p0 : Nat) (a_p0 : Nat → Nat) (p0_size : Int32) (p0_bytes : (Nat → Int32)) (x1 : Int32) (r : Int32) (h : f_X5_dialTurns p0_size p0_bytes x1 = some r) : Cn l E yX5_dialTurns cX5_dialTurns 5 (some .int) 3 0 0 [.ref o_p0, .int x1] (W_X5_dialTurns E o_p0 a_p0 p0_size p0_bytes) (fun w => w = (W_X5_dialTurns E o_p0 a_p0 p0_size p0_bytes)) (some (.int r)) := by
  refine Cn.ofI (by decide +kernel) (Nat.le_of_ble_eq_true rfl) (fun X hX hR C hret => ?_)
  subst hX
  show Gx X E 0 0 (W_X5_dialTurns E o_p0 a_p0 p0_size p0_bytes) 0 [(0, .ref o_p0), (1, .int x1)] []
  unfold f_X5_dialTurns at h
  refine g_bipush (pc := 0) (v := -2) C dX5_dialTurns_0 (by decide) ?_
  refine g_istore_n (pc := 2) (lv' := [(2, .int (-2 : Int32)), (0, .ref o_p0), (1, .int x1)]) C dX5_dialTurns_2 rfl (by decide) rfl ?_
  refine g_iconst (pc := 3) (v := 0) C dX5_dialTurns_3 (by decide) ?_
  refine g_istore_n (pc := 4) (lv' := [(3, .int (0 : Int32)), (2, .int (-2 : Int32)), (0, .ref o_p0), (1, .int x1)]) C dX5_dialTurns_4 rfl (by decide) rfl ?_
  refine g_sub [2, 3, 1, 0] rfl ?_
  refine kL_X5_dialTurns_5 C o_p0 a_p0 p0_size p0_bytes x1 hret  _ _ h
abbrev W_X5_mostWeight (E : GE) (O_p0 : Nat) (a_p0 : Nat → Nat) (p0_size : Int32) (p0_bytes : (Nat → Int32)) : va_W := [(O_p0, ob_X8 a_p0 p0_size), (a_p0 0, .inl (E.2.1, 260, .inl p0_bytes))]
def L_X5_mostWeight_7 (p0_size : Int32) (p0_bytes : (Nat → Int32)) (x1 : Int32) : Nat → Int32 × Int32 × Int32 → Option (Int32) := lp fun go s => if x1 ≤ s.2.2 then (some s.1) else (f_X8_at p0_size p0_bytes s.2.2).bind fun u1 => (f_X5_howManyWeigh p0_size p0_bytes x1 u1).bind fun u2 => if s.2.1 < u2 then (nm (s.2.2 + (1 : Int32)) fun v3 => go (u1, u2, v3)) else if u2 = s.2.1 then (if s.1 ≤ u1 then (nm (s.2.2 + (1 : Int32)) fun v5 => go (s.1, s.2.1, v5)) else nm (s.2.2 + (1 : Int32)) fun v6 => go (u1, u2, v6)) else nm (s.2.2 + (1 : Int32)) fun v4 => go (s.1, s.2.1, v4)
def f_X5_mostWeight (p0_size : Int32) (p0_bytes : (Nat → Int32)) (x1 : Int32) : Option (Int32) := L_X5_mostWeight_7 p0_size p0_bytes x1 fu ((-1 : Int32), (0 : Int32), (0 : Int32))
theorem dX5_mostWeight_0 : decode cX5_mostWeight 0 = .ok (.iconst (-1), 1) := by decide +kernel
theorem dX5_mostWeight_1 : decode cX5_mostWeight 1 = .ok (.istore_n 2, 1) := by decide +kernel
theorem dX5_mostWeight_2 : decode cX5_mostWeight 2 = .ok (.iconst 0, 1) := by decide +kernel
theorem dX5_mostWeight_3 : decode cX5_mostWeight 3 = .ok (.istore_n 3, 1) := by decide +kernel
theorem dX5_mostWeight_4 : decode cX5_mostWeight 4 = .ok (.iconst 0, 1) := by decide +kernel
theorem dX5_mostWeight_5 : decode cX5_mostWeight 5 = .ok (.istore 4, 2) := by decide +kernel
theorem dX5_mostWeight_7 : decode cX5_mostWeight 7 = .ok (.iload 4, 2) := by decide +kernel
theorem dX5_mostWeight_9 : decode cX5_mostWeight 9 = .ok (.iload_n 1, 1) := by decide +kernel
theorem dX5_mostWeight_10 : decode cX5_mostWeight 10 = .ok (.if_icmp .ge 50, 3) := by decide +kernel
theorem dX5_mostWeight_13 : decode cX5_mostWeight 13 = .ok (.aload_n 0, 1) := by decide +kernel
theorem dX5_mostWeight_14 : decode cX5_mostWeight 14 = .ok (.iload 4, 2) := by decide +kernel
theorem dX5_mostWeight_16 : decode cX5_mostWeight 16 = .ok (.invokevirtual 11, 3) := by decide +kernel
theorem dX5_mostWeight_19 : decode cX5_mostWeight 19 = .ok (.istore 5, 2) := by decide +kernel
theorem dX5_mostWeight_21 : decode cX5_mostWeight 21 = .ok (.aload_n 0, 1) := by decide +kernel
theorem dX5_mostWeight_22 : decode cX5_mostWeight 22 = .ok (.iload_n 1, 1) := by decide +kernel
theorem dX5_mostWeight_23 : decode cX5_mostWeight 23 = .ok (.iload 5, 2) := by decide +kernel
theorem dX5_mostWeight_25 : decode cX5_mostWeight 25 = .ok (.invokestatic 40, 3) := by decide +kernel
theorem dX5_mostWeight_28 : decode cX5_mostWeight 28 = .ok (.istore 6, 2) := by decide +kernel
theorem dX5_mostWeight_30 : decode cX5_mostWeight 30 = .ok (.iload 6, 2) := by decide +kernel
theorem dX5_mostWeight_32 : decode cX5_mostWeight 32 = .ok (.iload_n 3, 1) := by decide +kernel
theorem dX5_mostWeight_33 : decode cX5_mostWeight 33 = .ok (.if_icmp .gt 15, 3) := by decide +kernel
theorem dX5_mostWeight_36 : decode cX5_mostWeight 36 = .ok (.iload 6, 2) := by decide +kernel
theorem dX5_mostWeight_38 : decode cX5_mostWeight 38 = .ok (.iload_n 3, 1) := by decide +kernel
theorem dX5_mostWeight_39 : decode cX5_mostWeight 39 = .ok (.if_icmp .ne 15, 3) := by decide +kernel
theorem dX5_mostWeight_42 : decode cX5_mostWeight 42 = .ok (.iload 5, 2) := by decide +kernel
theorem dX5_mostWeight_44 : decode cX5_mostWeight 44 = .ok (.iload_n 2, 1) := by decide +kernel
theorem dX5_mostWeight_45 : decode cX5_mostWeight 45 = .ok (.if_icmp .ge 9, 3) := by decide +kernel
theorem dX5_mostWeight_48 : decode cX5_mostWeight 48 = .ok (.iload 6, 2) := by decide +kernel
theorem dX5_mostWeight_50 : decode cX5_mostWeight 50 = .ok (.istore_n 3, 1) := by decide +kernel
theorem dX5_mostWeight_51 : decode cX5_mostWeight 51 = .ok (.iload 5, 2) := by decide +kernel
theorem dX5_mostWeight_53 : decode cX5_mostWeight 53 = .ok (.istore_n 2, 1) := by decide +kernel
theorem dX5_mostWeight_54 : decode cX5_mostWeight 54 = .ok (.iinc 4 1, 3) := by decide +kernel
theorem dX5_mostWeight_57 : decode cX5_mostWeight 57 = .ok (.goto (-50), 3) := by decide +kernel
theorem dX5_mostWeight_60 : decode cX5_mostWeight 60 = .ok (.iload_n 2, 1) := by decide +kernel
theorem dX5_mostWeight_61 : decode cX5_mostWeight 61 = .ok (.ireturn, 1) := by decide +kernel
set_option maxHeartbeats 4000000 in
set_option maxRecDepth 100000 in
theorem kL_X5_mostWeight_7 {X : GC} {E : GE} (C : Cx X E cX5_mostWeight RX5 3 7) (o_p0 : Nat) (a_p0 : Nat → Nat) (p0_size : Int32) (p0_bytes : (Nat → Int32)) (x1 : Int32) {r : Int32} (hret : RtI X E cX5_mostWeight .int 0 0 (fun w => w = (W_X5_mostWeight E o_p0 a_p0 p0_size p0_bytes)) r) : ∀ (n : Nat) (s : Int32 × Int32 × Int32), L_X5_mostWeight_7 p0_size p0_bytes x1 n s = some r → Gx X E 0 0 (W_X5_mostWeight E o_p0 a_p0 p0_size p0_bytes) 7 [(0, .ref o_p0), (1, .int x1), (2, .int s.1), (3, .int s.2.1), (4, .int s.2.2)] [] := by
  unfold L_X5_mostWeight_7
  refine lp_ind _ (fun go ih s h => ?_)
  refine g_iload (pc := 7) C dX5_mostWeight_7 4 rfl ?_
  refine g_iload_n (pc := 9) C dX5_mostWeight_9 rfl 1 rfl ?_
  refine g_icmp_ge (pc := 10) (tgt := 60) C dX5_mostWeight_10 (by decide) h (fun h => ?_) (fun h => ?_)
  · refine g_iload_n (pc := 60) C dX5_mostWeight_60 rfl 2 rfl ?_
    cases h
    exact hret _ _ _ dX5_mostWeight_61 rfl rfl
  · refine g_aload_n (pc := 13) C dX5_mostWeight_13 rfl 0 rfl ?_
    refine g_iload (pc := 14) C dX5_mostWeight_14 4 rfl ?_
    obtain ⟨u1, hu1, h⟩ := bs h
    refine g_callV (pc := 16) (st := []) (st1 := [.int u1]) (ws' := (W_X5_mostWeight E o_p0 a_p0 p0_size p0_bytes)) C mv_X8_at mi_X8_at ml_X5_11 (c_X8_at X.2.1 E o_p0 a_p0 p0_size p0_bytes s.2.2 u1 hu1) dX5_mostWeight_16 (by decide) rfl (Nat.le_of_ble_eq_true rfl) 0 7 rfl rfl [0, 1] rfl (by decide) rfl rfl rfl rfl ?_
    refine g_istore (pc := 19) (lv' := [(5, .int u1), (0, .ref o_p0), (1, .int x1), (2, .int s.1), (3, .int s.2.1), (4, .int s.2.2)]) C dX5_mostWeight_19 (by decide) rfl ?_
    refine g_aload_n (pc := 21) C dX5_mostWeight_21 rfl 1 rfl ?_
    refine g_iload_n (pc := 22) C dX5_mostWeight_22 rfl 2 rfl ?_
    refine g_iload (pc := 23) C dX5_mostWeight_23 0 rfl ?_
    obtain ⟨u2, hu2, h⟩ := bs h
    refine g_callS (pc := 25) (st := []) (st1 := [.int u2]) (ws' := (W_X5_mostWeight E o_p0 a_p0 p0_size p0_bytes)) C mv_X5_howManyWeigh ms_X5_howManyWeigh ml_X5_40 (c_X5_howManyWeigh X.2.1 E o_p0 a_p0 p0_size p0_bytes x1 u1 u2 hu2) dX5_mostWeight_25 (by decide) rfl (Nat.le_of_ble_eq_true rfl) [0, 1] rfl (by decide) rfl rfl rfl rfl ?_
    refine g_istore (pc := 28) (lv' := [(6, .int u2), (5, .int u1), (0, .ref o_p0), (1, .int x1), (2, .int s.1), (3, .int s.2.1), (4, .int s.2.2)]) C dX5_mostWeight_28 (by decide) rfl ?_
    refine g_iload (pc := 30) C dX5_mostWeight_30 0 rfl ?_
    refine g_iload_n (pc := 32) C dX5_mostWeight_32 rfl 5 rfl ?_
    refine g_icmp_gt (pc := 33) (tgt := 48) C dX5_mostWeight_33 (by decide) h (fun h => ?_) (fun h => ?_)
    · refine g_iload (pc := 48) C dX5_mostWeight_48 0 rfl ?_
      refine g_istore_n (pc := 50) (lv' := [(3, .int u2), (6, .int u2), (5, .int u1), (0, .ref o_p0), (1, .int x1), (2, .int s.1), (4, .int s.2.2)]) C dX5_mostWeight_50 rfl (by decide) rfl ?_
      refine g_iload (pc := 51) C dX5_mostWeight_51 2 rfl ?_
      refine g_istore_n (pc := 53) (lv' := [(2, .int u1), (3, .int u2), (6, .int u2), (5, .int u1), (0, .ref o_p0), (1, .int x1), (4, .int s.2.2)]) C dX5_mostWeight_53 rfl (by decide) rfl ?_
      refine g_iincn (pc := 54) (j := 6) (d := 1) (lv' := fun v3 => [(4, .int v3), (2, .int u1), (3, .int u2), (6, .int u2), (5, .int u1), (0, .ref o_p0), (1, .int x1)]) C dX5_mostWeight_54 rfl (by decide) (by decide) (fun _ => rfl) h (fun v3 h => ?_)
      refine g_goto (pc := 57) (tgt := 7) C dX5_mostWeight_57 (by decide) ?_
      refine g_sub [5, 6, 1, 2, 0] rfl ?_
      exact ih _ h
    · refine g_iload (pc := 36) C dX5_mostWeight_36 0 rfl ?_
      refine g_iload_n (pc := 38) C dX5_mostWeight_38 rfl 5 rfl ?_
      refine g_icmp_ne (pc := 39) (tgt := 54) C dX5_mostWeight_39 (by decide) h (fun h => ?_) (fun h => ?_)
      · refine g_iincn (pc := 54) (j := 6) (d := 1) (lv' := fun v4 => [(4, .int v4), (6, .int u2), (5, .int u1), (0, .ref o_p0), (1, .int x1), (2, .int s.1), (3, .int s.2.1)]) C dX5_mostWeight_54 rfl (by decide) (by decide) (fun _ => rfl) h (fun v4 h => ?_)
        refine g_goto (pc := 57) (tgt := 7) C dX5_mostWeight_57 (by decide) ?_
        refine g_sub [3, 4, 5, 6, 0] rfl ?_
        exact ih _ h
      · refine g_iload (pc := 42) C dX5_mostWeight_42 1 rfl ?_
        refine g_iload_n (pc := 44) C dX5_mostWeight_44 rfl 4 rfl ?_
        refine g_icmp_ge (pc := 45) (tgt := 54) C dX5_mostWeight_45 (by decide) h (fun h => ?_) (fun h => ?_)
        · refine g_iincn (pc := 54) (j := 6) (d := 1) (lv' := fun v5 => [(4, .int v5), (6, .int u2), (5, .int u1), (0, .ref o_p0), (1, .int x1), (2, .int s.1), (3, .int s.2.1)]) C dX5_mostWeight_54 rfl (by decide) (by decide) (fun _ => rfl) h (fun v5 h => ?_)
          refine g_goto (pc := 57) (tgt := 7) C dX5_mostWeight_57 (by decide) ?_
          refine g_sub [3, 4, 5, 6, 0] rfl ?_
          exact ih _ h
        · refine g_iload (pc := 48) C dX5_mostWeight_48 0 rfl ?_
          refine g_istore_n (pc := 50) (lv' := [(3, .int u2), (6, .int u2), (5, .int u1), (0, .ref o_p0), (1, .int x1), (2, .int s.1), (4, .int s.2.2)]) C dX5_mostWeight_50 rfl (by decide) rfl ?_
          refine g_iload (pc := 51) C dX5_mostWeight_51 2 rfl ?_
          refine g_istore_n (pc := 53) (lv' := [(2, .int u1), (3, .int u2), (6, .int u2), (5, .int u1), (0, .ref o_p0), (1, .int x1), (4, .int s.2.2)]) C dX5_mostWeight_53 rfl (by decide) rfl ?_
          refine g_iincn (pc := 54) (j := 6) (d := 1) (lv' := fun v6 => [(4, .int v6), (2, .int u1), (3, .int u2), (6, .int u2), (5, .int u1), (0, .ref o_p0), (1, .int x1)]) C dX5_mostWeight_54 rfl (by decide) (by decide) (fun _ => rfl) h (fun v6 h => ?_)
          refine g_goto (pc := 57) (tgt := 7) C dX5_mostWeight_57 (by decide) ?_
          refine g_sub [5, 6, 1, 2, 0] rfl ?_
          exact ih _ h
set_option maxHeartbeats 4000000 in
set_option maxRecDepth 100000 in
theorem c_X5_mostWeight (l : Launch) (E : GE) (o_p0 : Nat) (a_p0 : Nat → Nat) (p0_size : Int32) (p0_bytes : (Nat → Int32)) (x1 : Int32) (r : Int32) (h : f_X5_mostWeight p0_size p0_bytes x1 = some r) : Cn l E yX5_mostWeight cX5_mostWeight 7 (some .int) 3 0 0 [.ref o_p0, .int x1] (W_X5_mostWeight E o_p0 a_p0 p0_size p0_bytes) (fun w => w = (W_X5_mostWeight E o_p0 a_p0 p0_size p0_bytes)) (some (.int r)) := by
  refine Cn.ofI (by decide +kernel) (Nat.le_of_ble_eq_true rfl) (fun X hX hR C hret => ?_)
  subst hX
  show Gx X E 0 0 (W_X5_mostWeight E o_p0 a_p0 p0_size p0_bytes) 0 [(0, .ref o_p0), (1, .int x1)] []
  unfold f_X5_mostWeight at h
  refine g_iconst (pc := 0) (v := -1) C dX5_mostWeight_0 (by decide) ?_
  refine g_istore_n (pc := 1) (lv' := [(2, .int (-1 : Int32)), (0, .ref o_p0), (1, .int x1)]) C dX5_mostWeight_1 rfl (by decide) rfl ?_
  refine g_iconst (pc := 2) (v := 0) C dX5_mostWeight_2 (by decide) ?_
  refine g_istore_n (pc := 3) (lv' := [(3, .int (0 : Int32)), (2, .int (-1 : Int32)), (0, .ref o_p0), (1, .int x1)]) C dX5_mostWeight_3 rfl (by decide) rfl ?_
  refine g_iconst (pc := 4) (v := 0) C dX5_mostWeight_4 (by decide) ?_
  refine g_istore (pc := 5) (lv' := [(4, .int (0 : Int32)), (3, .int (0 : Int32)), (2, .int (-1 : Int32)), (0, .ref o_p0), (1, .int x1)]) C dX5_mostWeight_5 (by decide) rfl ?_
  refine g_sub [3, 4, 2, 1, 0] rfl ?_
  refine kL_X5_mostWeight_7 C o_p0 a_p0 p0_size p0_bytes x1 hret  _ _ h
abbrev W_X5_weekSteps (E : GE) (O_p0 : Nat) (a_p0 : Nat → Nat) (p0_size : Int32) (p0_bytes : (Nat → Int32)) : va_W := [(O_p0, ob_X8 a_p0 p0_size), (a_p0 0, .inl (E.2.1, 260, .inl p0_bytes))]
def L_X5_weekSteps_4 (p0_size : Int32) (p0_bytes : (Nat → Int32)) (k0 : Int32 → Option (Int32)) : Nat → Int32 × Int32 → Option (Int32) := lp fun go s => if (7 : Int32) ≤ s.2 then (k0 s.1) else (f_X8_at p0_size p0_bytes s.2).bind fun u1 => nm (s.1 + u1) fun v2 => nm (s.2 + (1 : Int32)) fun v3 => go (v2, v3)
def L_X5_weekSteps_49 (p0_size : Int32) (p0_bytes : (Nat → Int32)) (x2 : Int32) : Nat → Int32 × Int32 → Option (Int32) := lp fun go s => if (7 : Int32) ≤ s.2 then (some s.1) else (f_X5_stepsFrom p0_size p0_bytes s.2 x2).bind fun u8 => nm (imin s.1 u8) fun v9 => nm (s.2 + (1 : Int32)) fun v10 => go (v9, v10)
def f_X5_weekSteps (p0_size : Int32) (p0_bytes : (Nat → Int32)) : Option (Int32) := L_X5_weekSteps_4 p0_size p0_bytes (fun s4 => rm s4 (7 : Int32) fun v5 => if v5 = 0 then (dv s4 (7 : Int32) fun v6 => (f_X5_stepsFrom p0_size p0_bytes (0 : Int32) v6).bind fun u7 => L_X5_weekSteps_49 p0_size p0_bytes v6 fu (u7, (1 : Int32))) else some (-2 : Int32)) fu ((0 : Int32), (0 : Int32))
theorem dX5_weekSteps_0 : decode cX5_weekSteps 0 = .ok (.iconst 0, 1) := by decide +kernel
theorem dX5_weekSteps_1 : decode cX5_weekSteps 1 = .ok (.istore_n 1, 1) := by decide +kernel
theorem dX5_weekSteps_2 : decode cX5_weekSteps 2 = .ok (.iconst 0, 1) := by decide +kernel
theorem dX5_weekSteps_3 : decode cX5_weekSteps 3 = .ok (.istore_n 2, 1) := by decide +kernel
theorem dX5_weekSteps_4 : decode cX5_weekSteps 4 = .ok (.iload_n 2, 1) := by decide +kernel
theorem dX5_weekSteps_5 : decode cX5_weekSteps 5 = .ok (.bipush 7, 2) := by decide +kernel
theorem dX5_weekSteps_7 : decode cX5_weekSteps 7 = .ok (.if_icmp .ge 17, 3) := by decide +kernel
theorem dX5_weekSteps_10 : decode cX5_weekSteps 10 = .ok (.iload_n 1, 1) := by decide +kernel
theorem dX5_weekSteps_11 : decode cX5_weekSteps 11 = .ok (.aload_n 0, 1) := by decide +kernel
theorem dX5_weekSteps_12 : decode cX5_weekSteps 12 = .ok (.iload_n 2, 1) := by decide +kernel
theorem dX5_weekSteps_13 : decode cX5_weekSteps 13 = .ok (.invokevirtual 11, 3) := by decide +kernel
theorem dX5_weekSteps_16 : decode cX5_weekSteps 16 = .ok (.iadd, 1) := by decide +kernel
theorem dX5_weekSteps_17 : decode cX5_weekSteps 17 = .ok (.istore_n 1, 1) := by decide +kernel
theorem dX5_weekSteps_18 : decode cX5_weekSteps 18 = .ok (.iinc 2 1, 3) := by decide +kernel
theorem dX5_weekSteps_21 : decode cX5_weekSteps 21 = .ok (.goto (-17), 3) := by decide +kernel
theorem dX5_weekSteps_24 : decode cX5_weekSteps 24 = .ok (.iload_n 1, 1) := by decide +kernel
theorem dX5_weekSteps_25 : decode cX5_weekSteps 25 = .ok (.bipush 7, 2) := by decide +kernel
theorem dX5_weekSteps_27 : decode cX5_weekSteps 27 = .ok (.irem, 1) := by decide +kernel
theorem dX5_weekSteps_28 : decode cX5_weekSteps 28 = .ok (.ifCond .eq 6, 3) := by decide +kernel
theorem dX5_weekSteps_31 : decode cX5_weekSteps 31 = .ok (.bipush (-2), 2) := by decide +kernel
theorem dX5_weekSteps_33 : decode cX5_weekSteps 33 = .ok (.ireturn, 1) := by decide +kernel
theorem dX5_weekSteps_34 : decode cX5_weekSteps 34 = .ok (.iload_n 1, 1) := by decide +kernel
theorem dX5_weekSteps_35 : decode cX5_weekSteps 35 = .ok (.bipush 7, 2) := by decide +kernel
theorem dX5_weekSteps_37 : decode cX5_weekSteps 37 = .ok (.idiv, 1) := by decide +kernel
theorem dX5_weekSteps_38 : decode cX5_weekSteps 38 = .ok (.istore_n 2, 1) := by decide +kernel
theorem dX5_weekSteps_39 : decode cX5_weekSteps 39 = .ok (.aload_n 0, 1) := by decide +kernel
theorem dX5_weekSteps_40 : decode cX5_weekSteps 40 = .ok (.iconst 0, 1) := by decide +kernel
theorem dX5_weekSteps_41 : decode cX5_weekSteps 41 = .ok (.iload_n 2, 1) := by decide +kernel
theorem dX5_weekSteps_42 : decode cX5_weekSteps 42 = .ok (.invokestatic 43, 3) := by decide +kernel
theorem dX5_weekSteps_45 : decode cX5_weekSteps 45 = .ok (.istore_n 3, 1) := by decide +kernel
theorem dX5_weekSteps_46 : decode cX5_weekSteps 46 = .ok (.iconst 1, 1) := by decide +kernel
theorem dX5_weekSteps_47 : decode cX5_weekSteps 47 = .ok (.istore 4, 2) := by decide +kernel
theorem dX5_weekSteps_49 : decode cX5_weekSteps 49 = .ok (.iload 4, 2) := by decide +kernel
theorem dX5_weekSteps_51 : decode cX5_weekSteps 51 = .ok (.bipush 7, 2) := by decide +kernel
theorem dX5_weekSteps_53 : decode cX5_weekSteps 53 = .ok (.if_icmp .ge 21, 3) := by decide +kernel
theorem dX5_weekSteps_56 : decode cX5_weekSteps 56 = .ok (.iload_n 3, 1) := by decide +kernel
theorem dX5_weekSteps_57 : decode cX5_weekSteps 57 = .ok (.aload_n 0, 1) := by decide +kernel
theorem dX5_weekSteps_58 : decode cX5_weekSteps 58 = .ok (.iload 4, 2) := by decide +kernel
theorem dX5_weekSteps_60 : decode cX5_weekSteps 60 = .ok (.iload_n 2, 1) := by decide +kernel
theorem dX5_weekSteps_61 : decode cX5_weekSteps 61 = .ok (.invokestatic 43, 3) := by decide +kernel
theorem dX5_weekSteps_64 : decode cX5_weekSteps 64 = .ok (.invokestatic 28, 3) := by decide +kernel
theorem dX5_weekSteps_67 : decode cX5_weekSteps 67 = .ok (.istore_n 3, 1) := by decide +kernel
theorem dX5_weekSteps_68 : decode cX5_weekSteps 68 = .ok (.iinc 4 1, 3) := by decide +kernel
theorem dX5_weekSteps_71 : decode cX5_weekSteps 71 = .ok (.goto (-22), 3) := by decide +kernel
theorem dX5_weekSteps_74 : decode cX5_weekSteps 74 = .ok (.iload_n 3, 1) := by decide +kernel
theorem dX5_weekSteps_75 : decode cX5_weekSteps 75 = .ok (.ireturn, 1) := by decide +kernel
set_option maxHeartbeats 4000000 in
set_option maxRecDepth 100000 in
theorem kL_X5_weekSteps_4 {X : GC} {E : GE} (C : Cx X E cX5_weekSteps RX5 3 5) (o_p0 : Nat) (a_p0 : Nat → Nat) (p0_size : Int32) (p0_bytes : (Nat → Int32)) (k0 : Int32 → Option (Int32)) {r : Int32} (hret : RtI X E cX5_weekSteps .int 0 0 (fun w => w = (W_X5_weekSteps E o_p0 a_p0 p0_size p0_bytes)) r) (hk0 : ∀ u, k0 u = some r → Gx X E 0 0 (W_X5_weekSteps E o_p0 a_p0 p0_size p0_bytes) 24 [(0, .ref o_p0), (1, .int u)] []) : ∀ (n : Nat) (s : Int32 × Int32), L_X5_weekSteps_4 p0_size p0_bytes k0 n s = some r → Gx X E 0 0 (W_X5_weekSteps E o_p0 a_p0 p0_size p0_bytes) 4 [(0, .ref o_p0), (1, .int s.1), (2, .int s.2)] [] := by
  unfold L_X5_weekSteps_4
  refine lp_ind _ (fun go ih s h => ?_)
  refine g_iload_n (pc := 4) C dX5_weekSteps_4 rfl 2 rfl ?_
  refine g_bipush (pc := 5) (v := 7) C dX5_weekSteps_5 (by decide) ?_
  refine g_icmp_ge (pc := 7) (tgt := 24) C dX5_weekSteps_7 (by decide) h (fun h => ?_) (fun h => ?_)
  · refine g_sub [0, 1] rfl ?_
    exact hk0 _ h
  · refine g_iload_n (pc := 10) C dX5_weekSteps_10 rfl 1 rfl ?_
    refine g_aload_n (pc := 11) C dX5_weekSteps_11 rfl 0 rfl ?_
    refine g_iload_n (pc := 12) C dX5_weekSteps_12 rfl 2 rfl ?_
    obtain ⟨u1, hu1, h⟩ := bs h
    refine g_callV (pc := 13) (st := [.int s.1]) (st1 := [.int u1, .int s.1]) (ws' := (W_X5_weekSteps E o_p0 a_p0 p0_size p0_bytes)) C mv_X8_at mi_X8_at ml_X5_11 (c_X8_at X.2.1 E o_p0 a_p0 p0_size p0_bytes s.2 u1 hu1) dX5_weekSteps_13 (by decide) rfl (Nat.le_of_ble_eq_true rfl) 0 7 rfl rfl [0, 1] rfl (by decide) rfl rfl rfl rfl ?_
    refine g_iadd (pc := 16) C dX5_weekSteps_16 ?_
    refine g_nm h (fun v2 h => ?_)
    refine g_istore_n (pc := 17) (lv' := [(1, .int v2), (0, .ref o_p0), (2, .int s.2)]) C dX5_weekSteps_17 rfl (by decide) rfl ?_
    refine g_iincn (pc := 18) (j := 2) (d := 1) (lv' := fun v3 => [(2, .int v3), (1, .int v2), (0, .ref o_p0)]) C dX5_weekSteps_18 rfl (by decide) (by decide) (fun _ => rfl) h (fun v3 h => ?_)
    refine g_goto (pc := 21) (tgt := 4) C dX5_weekSteps_21 (by decide) ?_
    refine g_sub [2, 1, 0] rfl ?_
    exact ih _ h
set_option maxHeartbeats 4000000 in
set_option maxRecDepth 100000 in
theorem kL_X5_weekSteps_49 {X : GC} {E : GE} (C : Cx X E cX5_weekSteps RX5 3 5) (o_p0 : Nat) (a_p0 : Nat → Nat) (p0_size : Int32) (p0_bytes : (Nat → Int32)) (x2 : Int32) {r : Int32} (hret : RtI X E cX5_weekSteps .int 0 0 (fun w => w = (W_X5_weekSteps E o_p0 a_p0 p0_size p0_bytes)) r) : ∀ (n : Nat) (s : Int32 × Int32), L_X5_weekSteps_49 p0_size p0_bytes x2 n s = some r → Gx X E 0 0 (W_X5_weekSteps E o_p0 a_p0 p0_size p0_bytes) 49 [(0, .ref o_p0), (2, .int x2), (3, .int s.1), (4, .int s.2)] [] := by
  unfold L_X5_weekSteps_49
  refine lp_ind _ (fun go ih s h => ?_)
  refine g_iload (pc := 49) C dX5_weekSteps_49 3 rfl ?_
  refine g_bipush (pc := 51) (v := 7) C dX5_weekSteps_51 (by decide) ?_
  refine g_icmp_ge (pc := 53) (tgt := 74) C dX5_weekSteps_53 (by decide) h (fun h => ?_) (fun h => ?_)
  · refine g_iload_n (pc := 74) C dX5_weekSteps_74 rfl 2 rfl ?_
    cases h
    exact hret _ _ _ dX5_weekSteps_75 rfl rfl
  · refine g_iload_n (pc := 56) C dX5_weekSteps_56 rfl 2 rfl ?_
    refine g_aload_n (pc := 57) C dX5_weekSteps_57 rfl 0 rfl ?_
    refine g_iload (pc := 58) C dX5_weekSteps_58 3 rfl ?_
    refine g_iload_n (pc := 60) C dX5_weekSteps_60 rfl 1 rfl ?_
    obtain ⟨u8, hu8, h⟩ := bs h
    refine g_callS (pc := 61) (st := [.int s.1]) (st1 := [.int u8, .int s.1]) (ws' := (W_X5_weekSteps E o_p0 a_p0 p0_size p0_bytes)) C mv_X5_stepsFrom ms_X5_stepsFrom ml_X5_43 (c_X5_stepsFrom X.2.1 E o_p0 a_p0 p0_size p0_bytes s.2 x2 u8 hu8) dX5_weekSteps_61 (by decide) rfl (Nat.le_of_ble_eq_true rfl) [0, 1] rfl (by decide) rfl rfl rfl rfl ?_
    refine g_mmin (pc := 64) C ml_X5_28 ms_min mini_Math mcode_min (Nat.le_of_ble_eq_true rfl) ⟨Nat.zero_le _, Nat.zero_le _⟩ dX5_weekSteps_64 ?_
    refine g_nm h (fun v9 h => ?_)
    refine g_istore_n (pc := 67) (lv' := [(3, .int v9), (0, .ref o_p0), (2, .int x2), (4, .int s.2)]) C dX5_weekSteps_67 rfl (by decide) rfl ?_
    refine g_iincn (pc := 68) (j := 3) (d := 1) (lv' := fun v10 => [(4, .int v10), (3, .int v9), (0, .ref o_p0), (2, .int x2)]) C dX5_weekSteps_68 rfl (by decide) (by decide) (fun _ => rfl) h (fun v10 h => ?_)
    refine g_goto (pc := 71) (tgt := 49) C dX5_weekSteps_71 (by decide) ?_
    refine g_sub [2, 3, 1, 0] rfl ?_
    exact ih _ h
set_option maxHeartbeats 4000000 in
set_option maxRecDepth 100000 in
theorem c_X5_weekSteps (l : Launch) (E : GE) (o_p0 : Nat) (a_p0 : Nat → Nat) (p0_size : Int32) (p0_bytes : (Nat → Int32)) (r : Int32) (h : f_X5_weekSteps p0_size p0_bytes = some r) : Cn l E yX5_weekSteps cX5_weekSteps 5 (some .int) 3 0 0 [.ref o_p0] (W_X5_weekSteps E o_p0 a_p0 p0_size p0_bytes) (fun w => w = (W_X5_weekSteps E o_p0 a_p0 p0_size p0_bytes)) (some (.int r)) := by
  refine Cn.ofI (by decide +kernel) (Nat.le_of_ble_eq_true rfl) (fun X hX hR C hret => ?_)
  subst hX
  show Gx X E 0 0 (W_X5_weekSteps E o_p0 a_p0 p0_size p0_bytes) 0 [(0, .ref o_p0)] []
  unfold f_X5_weekSteps at h
  refine g_iconst (pc := 0) (v := 0) C dX5_weekSteps_0 (by decide) ?_
  refine g_istore_n (pc := 1) (lv' := [(1, .int (0 : Int32)), (0, .ref o_p0)]) C dX5_weekSteps_1 rfl (by decide) rfl ?_
  refine g_iconst (pc := 2) (v := 0) C dX5_weekSteps_2 (by decide) ?_
  refine g_istore_n (pc := 3) (lv' := [(2, .int (0 : Int32)), (1, .int (0 : Int32)), (0, .ref o_p0)]) C dX5_weekSteps_3 rfl (by decide) rfl ?_
  refine g_sub [2, 1, 0] rfl ?_
  refine kL_X5_weekSteps_4 C o_p0 a_p0 p0_size p0_bytes _ hret (fun s4 h => ?_) _ _ h
  refine g_iload_n (pc := 24) C dX5_weekSteps_24 rfl 1 rfl ?_
  refine g_bipush (pc := 25) (v := 7) C dX5_weekSteps_25 (by decide) ?_
  refine g_irem (pc := 27) C dX5_weekSteps_27 h (fun v5 h => ?_)
  refine g_if_eq (pc := 28) (tgt := 34) C dX5_weekSteps_28 (by decide) h (fun h => ?_) (fun h => ?_)
  · refine g_iload_n (pc := 34) C dX5_weekSteps_34 rfl 1 rfl ?_
    refine g_bipush (pc := 35) (v := 7) C dX5_weekSteps_35 (by decide) ?_
    refine g_idiv (pc := 37) C dX5_weekSteps_37 h (fun v6 h => ?_)
    refine g_istore_n (pc := 38) (lv' := [(2, .int v6), (0, .ref o_p0), (1, .int s4)]) C dX5_weekSteps_38 rfl (by decide) rfl ?_
    refine g_aload_n (pc := 39) C dX5_weekSteps_39 rfl 1 rfl ?_
    refine g_iconst (pc := 40) (v := 0) C dX5_weekSteps_40 (by decide) ?_
    refine g_iload_n (pc := 41) C dX5_weekSteps_41 rfl 0 rfl ?_
    obtain ⟨u7, hu7, h⟩ := bs h
    refine g_callS (pc := 42) (st := []) (st1 := [.int u7]) (ws' := (W_X5_weekSteps E o_p0 a_p0 p0_size p0_bytes)) C mv_X5_stepsFrom ms_X5_stepsFrom ml_X5_43 (c_X5_stepsFrom X.2.1 E o_p0 a_p0 p0_size p0_bytes (0 : Int32) v6 u7 hu7) dX5_weekSteps_42 (by decide) rfl (Nat.le_of_ble_eq_true rfl) [0, 1] rfl (by decide) rfl rfl rfl rfl ?_
    refine g_istore_n (pc := 45) (lv' := [(3, .int u7), (2, .int v6), (0, .ref o_p0), (1, .int s4)]) C dX5_weekSteps_45 rfl (by decide) rfl ?_
    refine g_iconst (pc := 46) (v := 1) C dX5_weekSteps_46 (by decide) ?_
    refine g_istore (pc := 47) (lv' := [(4, .int (1 : Int32)), (3, .int u7), (2, .int v6), (0, .ref o_p0), (1, .int s4)]) C dX5_weekSteps_47 (by decide) rfl ?_
    refine g_sub [3, 2, 1, 0] rfl ?_
    refine kL_X5_weekSteps_49 C o_p0 a_p0 p0_size p0_bytes v6 hret  _ _ h
  · refine g_bipush (pc := 31) (v := -2) C dX5_weekSteps_31 (by decide) ?_
    cases h
    exact hret _ _ _ dX5_weekSteps_33 rfl rfl
abbrev W_X5_howManyCurls (E : GE) (O_p0 : Nat) (a_p0 : Nat → Nat) (p0_size : Int32) (p0_bytes : (Nat → Int32)) : va_W := [(O_p0, ob_X8 a_p0 p0_size), (a_p0 0, .inl (E.2.1, 260, .inl p0_bytes))]
def L_X5_howManyCurls_4 (p0_size : Int32) (p0_bytes : (Nat → Int32)) (x1 : Int32) : Nat → Int32 × Int32 → Option (Int32) := lp fun go s => if (1296 : Int32) ≤ s.2 then (some s.1) else (f_X5_couldBe p0_size p0_bytes x1 s.2).bind fun u1 => if u1 = 0 then (nm (s.2 + (1 : Int32)) fun v2 => go (s.1, v2)) else nm (s.1 + (1 : Int32)) fun v3 => nm (s.2 + (1 : Int32)) fun v4 => go (v3, v4)
def f_X5_howManyCurls (p0_size : Int32) (p0_bytes : (Nat → Int32)) (x1 : Int32) : Option (Int32) := L_X5_howManyCurls_4 p0_size p0_bytes x1 fu ((0 : Int32), (0 : Int32))
theorem dX5_howManyCurls_0 : decode cX5_howManyCurls 0 = .ok (.iconst 0, 1) := by decide +kernel
theorem dX5_howManyCurls_1 : decode cX5_howManyCurls 1 = .ok (.istore_n 2, 1) := by decide +kernel
theorem dX5_howManyCurls_2 : decode cX5_howManyCurls 2 = .ok (.iconst 0, 1) := by decide +kernel
theorem dX5_howManyCurls_3 : decode cX5_howManyCurls 3 = .ok (.istore_n 3, 1) := by decide +kernel
theorem dX5_howManyCurls_4 : decode cX5_howManyCurls 4 = .ok (.iload_n 3, 1) := by decide +kernel
theorem dX5_howManyCurls_5 : decode cX5_howManyCurls 5 = .ok (.sipush 1296, 3) := by decide +kernel
theorem dX5_howManyCurls_8 : decode cX5_howManyCurls 8 = .ok (.if_icmp .ge 21, 3) := by decide +kernel
theorem dX5_howManyCurls_11 : decode cX5_howManyCurls 11 = .ok (.aload_n 0, 1) := by decide +kernel
theorem dX5_howManyCurls_12 : decode cX5_howManyCurls 12 = .ok (.iload_n 1, 1) := by decide +kernel
theorem dX5_howManyCurls_13 : decode cX5_howManyCurls 13 = .ok (.iload_n 3, 1) := by decide +kernel
theorem dX5_howManyCurls_14 : decode cX5_howManyCurls 14 = .ok (.invokestatic 17, 3) := by decide +kernel
theorem dX5_howManyCurls_17 : decode cX5_howManyCurls 17 = .ok (.ifCond .eq 6, 3) := by decide +kernel
theorem dX5_howManyCurls_20 : decode cX5_howManyCurls 20 = .ok (.iinc 2 1, 3) := by decide +kernel
theorem dX5_howManyCurls_23 : decode cX5_howManyCurls 23 = .ok (.iinc 3 1, 3) := by decide +kernel
theorem dX5_howManyCurls_26 : decode cX5_howManyCurls 26 = .ok (.goto (-22), 3) := by decide +kernel
theorem dX5_howManyCurls_29 : decode cX5_howManyCurls 29 = .ok (.iload_n 2, 1) := by decide +kernel
theorem dX5_howManyCurls_30 : decode cX5_howManyCurls 30 = .ok (.ireturn, 1) := by decide +kernel
set_option maxHeartbeats 4000000 in
set_option maxRecDepth 100000 in
theorem kL_X5_howManyCurls_4 {X : GC} {E : GE} (C : Cx X E cX5_howManyCurls RX5 4 4) (o_p0 : Nat) (a_p0 : Nat → Nat) (p0_size : Int32) (p0_bytes : (Nat → Int32)) (x1 : Int32) {r : Int32} (hret : RtI X E cX5_howManyCurls .int 0 0 (fun w => w = (W_X5_howManyCurls E o_p0 a_p0 p0_size p0_bytes)) r) : ∀ (n : Nat) (s : Int32 × Int32), L_X5_howManyCurls_4 p0_size p0_bytes x1 n s = some r → Gx X E 0 0 (W_X5_howManyCurls E o_p0 a_p0 p0_size p0_bytes) 4 [(0, .ref o_p0), (1, .int x1), (2, .int s.1), (3, .int s.2)] [] := by
  unfold L_X5_howManyCurls_4
  refine lp_ind _ (fun go ih s h => ?_)
  refine g_iload_n (pc := 4) C dX5_howManyCurls_4 rfl 3 rfl ?_
  refine g_sipush (pc := 5) (v := 1296) C dX5_howManyCurls_5 (by decide) ?_
  refine g_icmp_ge (pc := 8) (tgt := 29) C dX5_howManyCurls_8 (by decide) h (fun h => ?_) (fun h => ?_)
  · refine g_iload_n (pc := 29) C dX5_howManyCurls_29 rfl 2 rfl ?_
    cases h
    exact hret _ _ _ dX5_howManyCurls_30 rfl rfl
  · refine g_aload_n (pc := 11) C dX5_howManyCurls_11 rfl 0 rfl ?_
    refine g_iload_n (pc := 12) C dX5_howManyCurls_12 rfl 1 rfl ?_
    refine g_iload_n (pc := 13) C dX5_howManyCurls_13 rfl 3 rfl ?_
    obtain ⟨u1, hu1, h⟩ := bs h
    refine g_callS (pc := 14) (st := []) (st1 := [.int u1]) (ws' := (W_X5_howManyCurls E o_p0 a_p0 p0_size p0_bytes)) C mv_X5_couldBe ms_X5_couldBe ml_X5_17 (c_X5_couldBe X.2.1 E o_p0 a_p0 p0_size p0_bytes x1 s.2 u1 hu1) dX5_howManyCurls_14 (by decide) rfl (Nat.le_of_ble_eq_true rfl) [0, 1] rfl (by decide) rfl rfl rfl rfl ?_
    refine g_if_eq (pc := 17) (tgt := 23) C dX5_howManyCurls_17 (by decide) h (fun h => ?_) (fun h => ?_)
    · refine g_iincn (pc := 23) (j := 3) (d := 1) (lv' := fun v2 => [(3, .int v2), (0, .ref o_p0), (1, .int x1), (2, .int s.1)]) C dX5_howManyCurls_23 rfl (by decide) (by decide) (fun _ => rfl) h (fun v2 h => ?_)
      refine g_goto (pc := 26) (tgt := 4) C dX5_howManyCurls_26 (by decide) ?_
      refine g_sub [1, 2, 3, 0] rfl ?_
      exact ih _ h
    · refine g_iincn (pc := 20) (j := 2) (d := 1) (lv' := fun v3 => [(2, .int v3), (0, .ref o_p0), (1, .int x1), (3, .int s.2)]) C dX5_howManyCurls_20 rfl (by decide) (by decide) (fun _ => rfl) h (fun v3 h => ?_)
      refine g_iincn (pc := 23) (j := 3) (d := 1) (lv' := fun v4 => [(3, .int v4), (2, .int v3), (0, .ref o_p0), (1, .int x1)]) C dX5_howManyCurls_23 rfl (by decide) (by decide) (fun _ => rfl) h (fun v4 h => ?_)
      refine g_goto (pc := 26) (tgt := 4) C dX5_howManyCurls_26 (by decide) ?_
      refine g_sub [2, 3, 1, 0] rfl ?_
      exact ih _ h
set_option maxHeartbeats 4000000 in
set_option maxRecDepth 100000 in
theorem c_X5_howManyCurls (l : Launch) (E : GE) (o_p0 : Nat) (a_p0 : Nat → Nat) (p0_size : Int32) (p0_bytes : (Nat → Int32)) (x1 : Int32) (r : Int32) (h : f_X5_howManyCurls p0_size p0_bytes x1 = some r) : Cn l E yX5_howManyCurls cX5_howManyCurls 4 (some .int) 4 0 0 [.ref o_p0, .int x1] (W_X5_howManyCurls E o_p0 a_p0 p0_size p0_bytes) (fun w => w = (W_X5_howManyCurls E o_p0 a_p0 p0_size p0_bytes)) (some (.int r)) := by
  refine Cn.ofI (by decide +kernel) (Nat.le_of_ble_eq_true rfl) (fun X hX hR C hret => ?_)
  subst hX
  show Gx X E 0 0 (W_X5_howManyCurls E o_p0 a_p0 p0_size p0_bytes) 0 [(0, .ref o_p0), (1, .int x1)] []
  unfold f_X5_howManyCurls at h
  refine g_iconst (pc := 0) (v := 0) C dX5_howManyCurls_0 (by decide) ?_
  refine g_istore_n (pc := 1) (lv' := [(2, .int (0 : Int32)), (0, .ref o_p0), (1, .int x1)]) C dX5_howManyCurls_1 rfl (by decide) rfl ?_
  refine g_iconst (pc := 2) (v := 0) C dX5_howManyCurls_2 (by decide) ?_
  refine g_istore_n (pc := 3) (lv' := [(3, .int (0 : Int32)), (2, .int (0 : Int32)), (0, .ref o_p0), (1, .int x1)]) C dX5_howManyCurls_3 rfl (by decide) rfl ?_
  refine g_sub [2, 3, 1, 0] rfl ?_
  refine kL_X5_howManyCurls_4 C o_p0 a_p0 p0_size p0_bytes x1 hret  _ _ h
abbrev W_X5_leastCurls (E : GE) (O_p0 : Nat) (a_p0 : Nat → Nat) (p0_size : Int32) (p0_bytes : (Nat → Int32)) : va_W := [(O_p0, ob_X8 a_p0 p0_size), (a_p0 0, .inl (E.2.1, 260, .inl p0_bytes))]
def L_X5_leastCurls_2 (p0_size : Int32) (p0_bytes : (Nat → Int32)) (x1 : Int32) : Nat → Int32 → Option (Int32) := lp fun go s => if (1296 : Int32) ≤ s then (some (-2 : Int32)) else (f_X5_couldBe p0_size p0_bytes x1 s).bind fun u1 => if u1 = 0 then (nm (s + (1 : Int32)) fun v2 => go v2) else some s
def f_X5_leastCurls (p0_size : Int32) (p0_bytes : (Nat → Int32)) (x1 : Int32) : Option (Int32) := L_X5_leastCurls_2 p0_size p0_bytes x1 fu (0 : Int32)
theorem dX5_leastCurls_0 : decode cX5_leastCurls 0 = .ok (.iconst 0, 1) := by decide +kernel
theorem dX5_leastCurls_1 : decode cX5_leastCurls 1 = .ok (.istore_n 2, 1) := by decide +kernel
theorem dX5_leastCurls_2 : decode cX5_leastCurls 2 = .ok (.iload_n 2, 1) := by decide +kernel
theorem dX5_leastCurls_3 : decode cX5_leastCurls 3 = .ok (.sipush 1296, 3) := by decide +kernel
theorem dX5_leastCurls_6 : decode cX5_leastCurls 6 = .ok (.if_icmp .ge 20, 3) := by decide +kernel
theorem dX5_leastCurls_9 : decode cX5_leastCurls 9 = .ok (.aload_n 0, 1) := by decide +kernel
theorem dX5_leastCurls_10 : decode cX5_leastCurls 10 = .ok (.iload_n 1, 1) := by decide +kernel
theorem dX5_leastCurls_11 : decode cX5_leastCurls 11 = .ok (.iload_n 2, 1) := by decide +kernel
theorem dX5_leastCurls_12 : decode cX5_leastCurls 12 = .ok (.invokestatic 17, 3) := by decide +kernel
theorem dX5_leastCurls_15 : decode cX5_leastCurls 15 = .ok (.ifCond .eq 5, 3) := by decide +kernel
theorem dX5_leastCurls_18 : decode cX5_leastCurls 18 = .ok (.iload_n 2, 1) := by decide +kernel
theorem dX5_leastCurls_19 : decode cX5_leastCurls 19 = .ok (.ireturn, 1) := by decide +kernel
theorem dX5_leastCurls_20 : decode cX5_leastCurls 20 = .ok (.iinc 2 1, 3) := by decide +kernel
theorem dX5_leastCurls_23 : decode cX5_leastCurls 23 = .ok (.goto (-21), 3) := by decide +kernel
theorem dX5_leastCurls_26 : decode cX5_leastCurls 26 = .ok (.bipush (-2), 2) := by decide +kernel
theorem dX5_leastCurls_28 : decode cX5_leastCurls 28 = .ok (.ireturn, 1) := by decide +kernel
set_option maxHeartbeats 4000000 in
set_option maxRecDepth 100000 in
theorem kL_X5_leastCurls_2 {X : GC} {E : GE} (C : Cx X E cX5_leastCurls RX5 4 3) (o_p0 : Nat) (a_p0 : Nat → Nat) (p0_size : Int32) (p0_bytes : (Nat → Int32)) (x1 : Int32) {r : Int32} (hret : RtI X E cX5_leastCurls .int 0 0 (fun w => w = (W_X5_leastCurls E o_p0 a_p0 p0_size p0_bytes)) r) : ∀ (n : Nat) (s : Int32), L_X5_leastCurls_2 p0_size p0_bytes x1 n s = some r → Gx X E 0 0 (W_X5_leastCurls E o_p0 a_p0 p0_size p0_bytes) 2 [(0, .ref o_p0), (1, .int x1), (2, .int s)] [] := by
  unfold L_X5_leastCurls_2
  refine lp_ind _ (fun go ih s h => ?_)
  refine g_iload_n (pc := 2) C dX5_leastCurls_2 rfl 2 rfl ?_
  refine g_sipush (pc := 3) (v := 1296) C dX5_leastCurls_3 (by decide) ?_
  refine g_icmp_ge (pc := 6) (tgt := 26) C dX5_leastCurls_6 (by decide) h (fun h => ?_) (fun h => ?_)
  · refine g_bipush (pc := 26) (v := -2) C dX5_leastCurls_26 (by decide) ?_
    cases h
    exact hret _ _ _ dX5_leastCurls_28 rfl rfl
  · refine g_aload_n (pc := 9) C dX5_leastCurls_9 rfl 0 rfl ?_
    refine g_iload_n (pc := 10) C dX5_leastCurls_10 rfl 1 rfl ?_
    refine g_iload_n (pc := 11) C dX5_leastCurls_11 rfl 2 rfl ?_
    obtain ⟨u1, hu1, h⟩ := bs h
    refine g_callS (pc := 12) (st := []) (st1 := [.int u1]) (ws' := (W_X5_leastCurls E o_p0 a_p0 p0_size p0_bytes)) C mv_X5_couldBe ms_X5_couldBe ml_X5_17 (c_X5_couldBe X.2.1 E o_p0 a_p0 p0_size p0_bytes x1 s u1 hu1) dX5_leastCurls_12 (by decide) rfl (Nat.le_of_ble_eq_true rfl) [0, 1] rfl (by decide) rfl rfl rfl rfl ?_
    refine g_if_eq (pc := 15) (tgt := 20) C dX5_leastCurls_15 (by decide) h (fun h => ?_) (fun h => ?_)
    · refine g_iincn (pc := 20) (j := 2) (d := 1) (lv' := fun v2 => [(2, .int v2), (0, .ref o_p0), (1, .int x1)]) C dX5_leastCurls_20 rfl (by decide) (by decide) (fun _ => rfl) h (fun v2 h => ?_)
      refine g_goto (pc := 23) (tgt := 2) C dX5_leastCurls_23 (by decide) ?_
      refine g_sub [1, 2, 0] rfl ?_
      exact ih _ h
    · refine g_iload_n (pc := 18) C dX5_leastCurls_18 rfl 2 rfl ?_
      cases h
      exact hret _ _ _ dX5_leastCurls_19 rfl rfl
set_option maxHeartbeats 4000000 in
set_option maxRecDepth 100000 in
theorem c_X5_leastCurls (l : Launch) (E : GE) (o_p0 : Nat) (a_p0 : Nat → Nat) (p0_size : Int32) (p0_bytes : (Nat → Int32)) (x1 : Int32) (r : Int32) (h : f_X5_leastCurls p0_size p0_bytes x1 = some r) : Cn l E yX5_leastCurls cX5_leastCurls 3 (some .int) 4 0 0 [.ref o_p0, .int x1] (W_X5_leastCurls E o_p0 a_p0 p0_size p0_bytes) (fun w => w = (W_X5_leastCurls E o_p0 a_p0 p0_size p0_bytes)) (some (.int r)) := by
  refine Cn.ofI (by decide +kernel) (Nat.le_of_ble_eq_true rfl) (fun X hX hR C hret => ?_)
  subst hX
  show Gx X E 0 0 (W_X5_leastCurls E o_p0 a_p0 p0_size p0_bytes) 0 [(0, .ref o_p0), (1, .int x1)] []
  unfold f_X5_leastCurls at h
  refine g_iconst (pc := 0) (v := 0) C dX5_leastCurls_0 (by decide) ?_
  refine g_istore_n (pc := 1) (lv' := [(2, .int (0 : Int32)), (0, .ref o_p0), (1, .int x1)]) C dX5_leastCurls_1 rfl (by decide) rfl ?_
  refine g_sub [1, 2, 0] rfl ?_
  refine kL_X5_leastCurls_2 C o_p0 a_p0 p0_size p0_bytes x1 hret  _ _ h
