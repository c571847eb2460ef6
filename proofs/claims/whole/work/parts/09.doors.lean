abbrev W_X0_fitAll (E : GE) (O_t : Nat) (a_t : Nat → Nat) (t_told : Int32) (t_barred : Int32) (t_wards : (Nat → Int32)) (t_fits : (Nat → Int32)) (t_bent : (Nat → Int32)) : va_W := [(O_t, ob_X0 a_t t_told t_barred), (a_t 2, .inl (E.2.1, 24, .inl t_wards)), (a_t 3, .inl (E.2.1, 24, .inl t_fits)), (a_t 4, .inl (E.2.1, 6, .inl t_bent))]
def L_X0_fitAll_17 (t_wards : (Nat → Int32)) (t_bent : (Nat → Int32)) (x1 : Int32) (k0 : (Nat → Int32) → Option ((Nat → Int32))) : Nat → Int32 × (Nat → Int32) → Option ((Nat → Int32)) := lp fun go s => if (6 : Int32) ≤ s.1 then (k0 s.2) else rd t_wards 24 x1 fun v2 => rd t_bent 6 s.1 fun v3 => if (v2 &&& (v3 ^^^ (-1 : Int32))) = 0 then (rd s.2 24 x1 fun v5 => wr s.2 24 x1 (v5 ||| ((1 : Int32) <<< (s.1 &&& 31))) fun g6 => nm (s.1 + (1 : Int32)) fun v7 => go (v7, g6)) else nm (s.1 + (1 : Int32)) fun v4 => go (v4, s.2)
def L_X0_fitAll_2 (t_wards : (Nat → Int32)) (t_bent : (Nat → Int32)) : Nat → Int32 × (Nat → Int32) → Option ((Nat → Int32)) := lp fun go s => if (24 : Int32) ≤ s.1 then (some s.2) else wr s.2 24 s.1 (0 : Int32) fun g1 => L_X0_fitAll_17 t_wards t_bent s.1 (fun s8 => nm (s.1 + (1 : Int32)) fun v9 => go (v9, s8)) fu ((0 : Int32), g1)
def f_X0_fitAll (t_wards : (Nat → Int32)) (t_fits : (Nat → Int32)) (t_bent : (Nat → Int32)) : Option ((Nat → Int32)) := L_X0_fitAll_2 t_wards t_bent fu ((0 : Int32), t_fits)
theorem dX0_fitAll_0 : decode cX0_fitAll 0 = .ok (.iconst 0, 1) := by decide +kernel
theorem dX0_fitAll_1 : decode cX0_fitAll 1 = .ok (.istore_n 1, 1) := by decide +kernel
theorem dX0_fitAll_2 : decode cX0_fitAll 2 = .ok (.iload_n 1, 1) := by decide +kernel
theorem dX0_fitAll_3 : decode cX0_fitAll 3 = .ok (.bipush 24, 2) := by decide +kernel
theorem dX0_fitAll_5 : decode cX0_fitAll 5 = .ok (.if_icmp .ge 60, 3) := by decide +kernel
theorem dX0_fitAll_8 : decode cX0_fitAll 8 = .ok (.aload_n 0, 1) := by decide +kernel
theorem dX0_fitAll_9 : decode cX0_fitAll 9 = .ok (.getfield 21, 3) := by decide +kernel
theorem dX0_fitAll_12 : decode cX0_fitAll 12 = .ok (.iload_n 1, 1) := by decide +kernel
theorem dX0_fitAll_13 : decode cX0_fitAll 13 = .ok (.iconst 0, 1) := by decide +kernel
theorem dX0_fitAll_14 : decode cX0_fitAll 14 = .ok (.iastore, 1) := by decide +kernel
theorem dX0_fitAll_15 : decode cX0_fitAll 15 = .ok (.iconst 0, 1) := by decide +kernel
theorem dX0_fitAll_16 : decode cX0_fitAll 16 = .ok (.istore_n 2, 1) := by decide +kernel
theorem dX0_fitAll_17 : decode cX0_fitAll 17 = .ok (.iload_n 2, 1) := by decide +kernel
theorem dX0_fitAll_18 : decode cX0_fitAll 18 = .ok (.bipush 6, 2) := by decide +kernel
theorem dX0_fitAll_20 : decode cX0_fitAll 20 = .ok (.if_icmp .ge 39, 3) := by decide +kernel
theorem dX0_fitAll_23 : decode cX0_fitAll 23 = .ok (.aload_n 0, 1) := by decide +kernel
theorem dX0_fitAll_24 : decode cX0_fitAll 24 = .ok (.getfield 18, 3) := by decide +kernel
theorem dX0_fitAll_27 : decode cX0_fitAll 27 = .ok (.iload_n 1, 1) := by decide +kernel
theorem dX0_fitAll_28 : decode cX0_fitAll 28 = .ok (.iaload, 1) := by decide +kernel
theorem dX0_fitAll_29 : decode cX0_fitAll 29 = .ok (.aload_n 0, 1) := by decide +kernel
theorem dX0_fitAll_30 : decode cX0_fitAll 30 = .ok (.getfield 24, 3) := by decide +kernel
theorem dX0_fitAll_33 : decode cX0_fitAll 33 = .ok (.iload_n 2, 1) := by decide +kernel
theorem dX0_fitAll_34 : decode cX0_fitAll 34 = .ok (.iaload, 1) := by decide +kernel
theorem dX0_fitAll_35 : decode cX0_fitAll 35 = .ok (.iconst (-1), 1) := by decide +kernel
theorem dX0_fitAll_36 : decode cX0_fitAll 36 = .ok (.ixor, 1) := by decide +kernel
theorem dX0_fitAll_37 : decode cX0_fitAll 37 = .ok (.iand, 1) := by decide +kernel
theorem dX0_fitAll_38 : decode cX0_fitAll 38 = .ok (.ifCond .ne 15, 3) := by decide +kernel
theorem dX0_fitAll_41 : decode cX0_fitAll 41 = .ok (.aload_n 0, 1) := by decide +kernel
theorem dX0_fitAll_42 : decode cX0_fitAll 42 = .ok (.getfield 21, 3) := by decide +kernel
theorem dX0_fitAll_45 : decode cX0_fitAll 45 = .ok (.iload_n 1, 1) := by decide +kernel
theorem dX0_fitAll_46 : decode cX0_fitAll 46 = .ok (.dup2, 1) := by decide +kernel
theorem dX0_fitAll_47 : decode cX0_fitAll 47 = .ok (.iaload, 1) := by decide +kernel
theorem dX0_fitAll_48 : decode cX0_fitAll 48 = .ok (.iconst 1, 1) := by decide +kernel
theorem dX0_fitAll_49 : decode cX0_fitAll 49 = .ok (.iload_n 2, 1) := by decide +kernel
theorem dX0_fitAll_50 : decode cX0_fitAll 50 = .ok (.ishl, 1) := by decide +kernel
theorem dX0_fitAll_51 : decode cX0_fitAll 51 = .ok (.ior, 1) := by decide +kernel
theorem dX0_fitAll_52 : decode cX0_fitAll 52 = .ok (.iastore, 1) := by decide +kernel
theorem dX0_fitAll_53 : decode cX0_fitAll 53 = .ok (.iinc 2 1, 3) := by decide +kernel
theorem dX0_fitAll_56 : decode cX0_fitAll 56 = .ok (.goto (-39), 3) := by decide +kernel
theorem dX0_fitAll_59 : decode cX0_fitAll 59 = .ok (.iinc 1 1, 3) := by decide +kernel
theorem dX0_fitAll_62 : decode cX0_fitAll 62 = .ok (.goto (-60), 3) := by decide +kernel
theorem dX0_fitAll_65 : decode cX0_fitAll 65 = .ok (.return_, 1) := by decide +kernel
set_option maxHeartbeats 4000000 in
set_option maxRecDepth 100000 in
theorem kL_X0_fitAll_17 {X : GC} {E : GE} (C : Cx X E cX0_fitAll RX0 1 3) (o_t : Nat) (a_t : Nat → Nat) (t_told : Int32) (t_barred : Int32) (t_wards : (Nat → Int32)) (t_bent : (Nat → Int32)) (x1 : Int32) (k0 : (Nat → Int32) → Option ((Nat → Int32))) {r : (Nat → Int32)} (hret : RtV X E cX0_fitAll 0 0 (fun w => w = (W_X0_fitAll E o_t a_t t_told t_barred t_wards r t_bent))) (hk0 : ∀ u, k0 u = some r → Gx X E 0 0 (W_X0_fitAll E o_t a_t t_told t_barred t_wards u t_bent) 59 [(0, .ref o_t), (1, .int x1)] []) : ∀ (n : Nat) (s : Int32 × (Nat → Int32)), L_X0_fitAll_17 t_wards t_bent x1 k0 n s = some r → Gx X E 0 0 (W_X0_fitAll E o_t a_t t_told t_barred t_wards s.2 t_bent) 17 [(0, .ref o_t), (1, .int x1), (2, .int s.1)] [] := by
  unfold L_X0_fitAll_17
  refine lp_ind _ (fun go ih s h => ?_)
  refine g_iload_n (pc := 17) C dX0_fitAll_17 rfl 2 rfl ?_
  refine g_bipush (pc := 18) (v := 6) C dX0_fitAll_18 (by decide) ?_
  refine g_icmp_ge (pc := 20) (tgt := 59) C dX0_fitAll_20 (by decide) h (fun h => ?_) (fun h => ?_)
  · refine g_sub [0, 1] rfl ?_
    exact hk0 _ h
  · refine g_aload_n (pc := 23) C dX0_fitAll_23 rfl 0 rfl ?_
    refine g_get (pc := 24) C fl_X0_18 dX0_fitAll_24 0 rfl rfl ?_
    refine g_iload_n (pc := 27) C dX0_fitAll_27 rfl 1 rfl ?_
    refine g_iald (pc := 28) C dX0_fitAll_28 1 rfl h (fun v2 h => ?_)
    refine g_aload_n (pc := 29) C dX0_fitAll_29 rfl 0 rfl ?_
    refine g_get (pc := 30) C fl_X0_24 dX0_fitAll_30 0 rfl rfl ?_
    refine g_iload_n (pc := 33) C dX0_fitAll_33 rfl 2 rfl ?_
    refine g_iald (pc := 34) C dX0_fitAll_34 3 rfl h (fun v3 h => ?_)
    refine g_iconst (pc := 35) (v := -1) C dX0_fitAll_35 (by decide) ?_
    refine g_ixor (pc := 36) C dX0_fitAll_36 ?_
    refine g_iand (pc := 37) C dX0_fitAll_37 ?_
    refine g_if_ne (pc := 38) (tgt := 53) C dX0_fitAll_38 (by decide) h (fun h => ?_) (fun h => ?_)
    · refine g_iincn (pc := 53) (j := 2) (d := 1) (lv' := fun v4 => [(2, .int v4), (0, .ref o_t), (1, .int x1)]) C dX0_fitAll_53 rfl (by decide) (by decide) (fun _ => rfl) h (fun v4 h => ?_)
      refine g_goto (pc := 56) (tgt := 17) C dX0_fitAll_56 (by decide) ?_
      refine g_sub [1, 2, 0] rfl ?_
      exact ih _ h
    · refine g_aload_n (pc := 41) C dX0_fitAll_41 rfl 0 rfl ?_
      refine g_get (pc := 42) C fl_X0_21 dX0_fitAll_42 0 rfl rfl ?_
      refine g_iload_n (pc := 45) C dX0_fitAll_45 rfl 1 rfl ?_
      refine g_dup2 (pc := 46) C dX0_fitAll_46 rfl rfl ?_
      refine g_iald (pc := 47) C dX0_fitAll_47 2 rfl h (fun v5 h => ?_)
      refine g_iconst (pc := 48) (v := 1) C dX0_fitAll_48 (by decide) ?_
      refine g_iload_n (pc := 49) C dX0_fitAll_49 rfl 2 rfl ?_
      refine g_ishl (pc := 50) C dX0_fitAll_50 ?_
      refine g_ior (pc := 51) C dX0_fitAll_51 ?_
      refine g_iast (pc := 52) C dX0_fitAll_52 2 rfl h (fun g6 h => ?_)
      refine g_ws (ws' := (W_X0_fitAll E o_t a_t t_told t_barred t_wards g6 t_bent)) rfl ?_
      refine g_iincn (pc := 53) (j := 2) (d := 1) (lv' := fun v7 => [(2, .int v7), (0, .ref o_t), (1, .int x1)]) C dX0_fitAll_53 rfl (by decide) (by decide) (fun _ => rfl) h (fun v7 h => ?_)
      refine g_goto (pc := 56) (tgt := 17) C dX0_fitAll_56 (by decide) ?_
      refine g_sub [1, 2, 0] rfl ?_
      exact ih _ h
set_option maxHeartbeats 4000000 in
set_option maxRecDepth 100000 in
theorem kL_X0_fitAll_2 {X : GC} {E : GE} (C : Cx X E cX0_fitAll RX0 1 3) (o_t : Nat) (a_t : Nat → Nat) (t_told : Int32) (t_barred : Int32) (t_wards : (Nat → Int32)) (t_bent : (Nat → Int32)) {r : (Nat → Int32)} (hret : RtV X E cX0_fitAll 0 0 (fun w => w = (W_X0_fitAll E o_t a_t t_told t_barred t_wards r t_bent))) : ∀ (n : Nat) (s : Int32 × (Nat → Int32)), L_X0_fitAll_2 t_wards t_bent n s = some r → Gx X E 0 0 (W_X0_fitAll E o_t a_t t_told t_barred t_wards s.2 t_bent) 2 [(0, .ref o_t), (1, .int s.1)] [] := by
  unfold L_X0_fitAll_2
  refine lp_ind _ (fun go ih s h => ?_)
  refine g_iload_n (pc := 2) C dX0_fitAll_2 rfl 1 rfl ?_
  refine g_bipush (pc := 3) (v := 24) C dX0_fitAll_3 (by decide) ?_
  refine g_icmp_ge (pc := 5) (tgt := 65) C dX0_fitAll_5 (by decide) h (fun h => ?_) (fun h => ?_)
  · cases h
    exact hret _ _ _ dX0_fitAll_65 rfl
  · refine g_aload_n (pc := 8) C dX0_fitAll_8 rfl 0 rfl ?_
    refine g_get (pc := 9) C fl_X0_21 dX0_fitAll_9 0 rfl rfl ?_
    refine g_iload_n (pc := 12) C dX0_fitAll_12 rfl 1 rfl ?_
    refine g_iconst (pc := 13) (v := 0) C dX0_fitAll_13 (by decide) ?_
    refine g_iast (pc := 14) C dX0_fitAll_14 2 rfl h (fun g1 h => ?_)
    refine g_ws (ws' := (W_X0_fitAll E o_t a_t t_told t_barred t_wards g1 t_bent)) rfl ?_
    refine g_iconst (pc := 15) (v := 0) C dX0_fitAll_15 (by decide) ?_
    refine g_istore_n (pc := 16) (lv' := [(2, .int (0 : Int32)), (0, .ref o_t), (1, .int s.1)]) C dX0_fitAll_16 rfl (by decide) rfl ?_
    refine g_sub [1, 2, 0] rfl ?_
    refine kL_X0_fitAll_17 C o_t a_t t_told t_barred t_wards t_bent s.1 _ hret (fun s8 h => ?_) _ _ h
    refine g_iincn (pc := 59) (j := 1) (d := 1) (lv' := fun v9 => [(1, .int v9), (0, .ref o_t)]) C dX0_fitAll_59 rfl (by decide) (by decide) (fun _ => rfl) h (fun v9 h => ?_)
    refine g_goto (pc := 62) (tgt := 2) C dX0_fitAll_62 (by decide) ?_
    refine g_sub [1, 0] rfl ?_
    exact ih _ h
set_option maxHeartbeats 4000000 in
set_option maxRecDepth 100000 in
theorem c_X0_fitAll (l : Launch) (E : GE) (o_t : Nat) (a_t : Nat → Nat) (t_told : Int32) (t_barred : Int32) (t_wards : (Nat → Int32)) (t_fits : (Nat → Int32)) (t_bent : (Nat → Int32)) (r : (Nat → Int32)) (h : f_X0_fitAll t_wards t_fits t_bent = some r) : Cn l E yX0_fitAll cX0_fitAll 3 none 1 0 0 [.ref o_t] (W_X0_fitAll E o_t a_t t_told t_barred t_wards t_fits t_bent) (fun w => w = (W_X0_fitAll E o_t a_t t_told t_barred t_wards r t_bent)) none := by
  refine Cn.ofV (by decide +kernel) (Nat.le_of_ble_eq_true rfl) (fun X hX hR C hret => ?_)
  subst hX
  show Gx X E 0 0 (W_X0_fitAll E o_t a_t t_told t_barred t_wards t_fits t_bent) 0 [(0, .ref o_t)] []
  unfold f_X0_fitAll at h
  refine g_iconst (pc := 0) (v := 0) C dX0_fitAll_0 (by decide) ?_
  refine g_istore_n (pc := 1) (lv' := [(1, .int (0 : Int32)), (0, .ref o_t)]) C dX0_fitAll_1 rfl (by decide) rfl ?_
  refine g_sub [1, 0] rfl ?_
  refine kL_X0_fitAll_2 C o_t a_t t_told t_barred t_wards t_bent hret  _ _ h
abbrev W_X0_groupOf (E : GE) (O_t : Nat) (a_t : Nat → Nat) (t_told : Int32) (t_barred : Int32) (t_one : (Nat → Int32)) (t_other : (Nat → Int32)) : va_W := [(O_t, ob_X0 a_t t_told t_barred), (a_t 0, .inl (E.2.1, 24, .inl t_one)), (a_t 1, .inl (E.2.1, 24, .inl t_other))]
def L_X0_groupOf_20 (t_one : (Nat → Int32)) (t_other : (Nat → Int32)) (x2 : Int32) (x4 : Int32) (x5 : Int32) (k0 : Int32 → Option (Int32)) : Nat → Int32 × Int32 → Option (Int32) := lp fun go s => if (24 : Int32) ≤ s.2 then (k0 s.1) else rd t_one 24 s.2 fun v2 => rd t_other 24 s.2 fun v3 => nm (((1 : Int32) <<< (v2 &&& 31)) ||| ((1 : Int32) <<< (v3 &&& 31))) fun v4 => if ((x2 >>> (s.2 &&& 31)) &&& (1 : Int32)) = 0 then (nm (s.2 + (1 : Int32)) fun v5 => go (s.1, v5)) else if (s.1 &&& v4) = 0 then (nm (s.2 + (1 : Int32)) fun v6 => go (s.1, v6)) else nm (s.1 ||| v4) fun v7 => nm (s.2 + (1 : Int32)) fun v8 => go (v7, v8)
def L_X0_groupOf_7 (t_one : (Nat → Int32)) (t_other : (Nat → Int32)) (x2 : Int32) : Nat → Int32 × Int32 → Option (Int32) := lp fun go s => if (16 : Int32) ≤ s.2 then (some s.1) else L_X0_groupOf_20 t_one t_other x2 s.2 s.1 (fun s9 => if s9 = s.1 then (some s9) else nm (s.2 + (1 : Int32)) fun v10 => go (s9, v10)) fu (s.1, (0 : Int32))
def f_X0_groupOf (t_one : (Nat → Int32)) (t_other : (Nat → Int32)) (x1 : Int32) (x2 : Int32) : Option (Int32) := nm ((1 : Int32) <<< (x1 &&& 31)) fun v1 => L_X0_groupOf_7 t_one t_other x2 fu (v1, (0 : Int32))
theorem dX0_groupOf_0 : decode cX0_groupOf 0 = .ok (.iconst 1, 1) := by decide +kernel
theorem dX0_groupOf_1 : decode cX0_groupOf 1 = .ok (.iload_n 1, 1) := by decide +kernel
theorem dX0_groupOf_2 : decode cX0_groupOf 2 = .ok (.ishl, 1) := by decide +kernel
theorem dX0_groupOf_3 : decode cX0_groupOf 3 = .ok (.istore_n 3, 1) := by decide +kernel
theorem dX0_groupOf_4 : decode cX0_groupOf 4 = .ok (.iconst 0, 1) := by decide +kernel
theorem dX0_groupOf_5 : decode cX0_groupOf 5 = .ok (.istore 4, 2) := by decide +kernel
theorem dX0_groupOf_7 : decode cX0_groupOf 7 = .ok (.iload 4, 2) := by decide +kernel
theorem dX0_groupOf_9 : decode cX0_groupOf 9 = .ok (.bipush 16, 2) := by decide +kernel
theorem dX0_groupOf_11 : decode cX0_groupOf 11 = .ok (.if_icmp .ge 79, 3) := by decide +kernel
theorem dX0_groupOf_14 : decode cX0_groupOf 14 = .ok (.iload_n 3, 1) := by decide +kernel
theorem dX0_groupOf_15 : decode cX0_groupOf 15 = .ok (.istore 5, 2) := by decide +kernel
theorem dX0_groupOf_17 : decode cX0_groupOf 17 = .ok (.iconst 0, 1) := by decide +kernel
theorem dX0_groupOf_18 : decode cX0_groupOf 18 = .ok (.istore 6, 2) := by decide +kernel
theorem dX0_groupOf_20 : decode cX0_groupOf 20 = .ok (.iload 6, 2) := by decide +kernel
theorem dX0_groupOf_22 : decode cX0_groupOf 22 = .ok (.bipush 24, 2) := by decide +kernel
theorem dX0_groupOf_24 : decode cX0_groupOf 24 = .ok (.if_icmp .ge 51, 3) := by decide +kernel
theorem dX0_groupOf_27 : decode cX0_groupOf 27 = .ok (.iconst 1, 1) := by decide +kernel
theorem dX0_groupOf_28 : decode cX0_groupOf 28 = .ok (.aload_n 0, 1) := by decide +kernel
theorem dX0_groupOf_29 : decode cX0_groupOf 29 = .ok (.getfield 9, 3) := by decide +kernel
theorem dX0_groupOf_32 : decode cX0_groupOf 32 = .ok (.iload 6, 2) := by decide +kernel
theorem dX0_groupOf_34 : decode cX0_groupOf 34 = .ok (.iaload, 1) := by decide +kernel
theorem dX0_groupOf_35 : decode cX0_groupOf 35 = .ok (.ishl, 1) := by decide +kernel
theorem dX0_groupOf_36 : decode cX0_groupOf 36 = .ok (.iconst 1, 1) := by decide +kernel
theorem dX0_groupOf_37 : decode cX0_groupOf 37 = .ok (.aload_n 0, 1) := by decide +kernel
theorem dX0_groupOf_38 : decode cX0_groupOf 38 = .ok (.getfield 15, 3) := by decide +kernel
theorem dX0_groupOf_41 : decode cX0_groupOf 41 = .ok (.iload 6, 2) := by decide +kernel
theorem dX0_groupOf_43 : decode cX0_groupOf 43 = .ok (.iaload, 1) := by decide +kernel
theorem dX0_groupOf_44 : decode cX0_groupOf 44 = .ok (.ishl, 1) := by decide +kernel
theorem dX0_groupOf_45 : decode cX0_groupOf 45 = .ok (.ior, 1) := by decide +kernel
theorem dX0_groupOf_46 : decode cX0_groupOf 46 = .ok (.istore 7, 2) := by decide +kernel
theorem dX0_groupOf_48 : decode cX0_groupOf 48 = .ok (.iload_n 2, 1) := by decide +kernel
theorem dX0_groupOf_49 : decode cX0_groupOf 49 = .ok (.iload 6, 2) := by decide +kernel
theorem dX0_groupOf_51 : decode cX0_groupOf 51 = .ok (.ishr, 1) := by decide +kernel
theorem dX0_groupOf_52 : decode cX0_groupOf 52 = .ok (.iconst 1, 1) := by decide +kernel
theorem dX0_groupOf_53 : decode cX0_groupOf 53 = .ok (.iand, 1) := by decide +kernel
theorem dX0_groupOf_54 : decode cX0_groupOf 54 = .ok (.ifCond .eq 15, 3) := by decide +kernel
theorem dX0_groupOf_57 : decode cX0_groupOf 57 = .ok (.iload_n 3, 1) := by decide +kernel
theorem dX0_groupOf_58 : decode cX0_groupOf 58 = .ok (.iload 7, 2) := by decide +kernel
theorem dX0_groupOf_60 : decode cX0_groupOf 60 = .ok (.iand, 1) := by decide +kernel
theorem dX0_groupOf_61 : decode cX0_groupOf 61 = .ok (.ifCond .eq 8, 3) := by decide +kernel
theorem dX0_groupOf_64 : decode cX0_groupOf 64 = .ok (.iload_n 3, 1) := by decide +kernel
theorem dX0_groupOf_65 : decode cX0_groupOf 65 = .ok (.iload 7, 2) := by decide +kernel
theorem dX0_groupOf_67 : decode cX0_groupOf 67 = .ok (.ior, 1) := by decide +kernel
theorem dX0_groupOf_68 : decode cX0_groupOf 68 = .ok (.istore_n 3, 1) := by decide +kernel
theorem dX0_groupOf_69 : decode cX0_groupOf 69 = .ok (.iinc 6 1, 3) := by decide +kernel
theorem dX0_groupOf_72 : decode cX0_groupOf 72 = .ok (.goto (-52), 3) := by decide +kernel
theorem dX0_groupOf_75 : decode cX0_groupOf 75 = .ok (.iload_n 3, 1) := by decide +kernel
theorem dX0_groupOf_76 : decode cX0_groupOf 76 = .ok (.iload 5, 2) := by decide +kernel
theorem dX0_groupOf_78 : decode cX0_groupOf 78 = .ok (.if_icmp .ne 6, 3) := by decide +kernel
theorem dX0_groupOf_81 : decode cX0_groupOf 81 = .ok (.goto 9, 3) := by decide +kernel
theorem dX0_groupOf_84 : decode cX0_groupOf 84 = .ok (.iinc 4 1, 3) := by decide +kernel
theorem dX0_groupOf_87 : decode cX0_groupOf 87 = .ok (.goto (-80), 3) := by decide +kernel
theorem dX0_groupOf_90 : decode cX0_groupOf 90 = .ok (.iload_n 3, 1) := by decide +kernel
theorem dX0_groupOf_91 : decode cX0_groupOf 91 = .ok (.ireturn, 1) := by decide +kernel
set_option maxHeartbeats 4000000 in
set_option maxRecDepth 100000 in
theorem kL_X0_groupOf_20 {X : GC} {E : GE} (C : Cx X E cX0_groupOf RX0 1 8) (o_t : Nat) (a_t : Nat → Nat) (t_told : Int32) (t_barred : Int32) (t_one : (Nat → Int32)) (t_other : (Nat → Int32)) (x2 : Int32) (x4 : Int32) (x5 : Int32) (k0 : Int32 → Option (Int32)) {r : Int32} (hret : RtI X E cX0_groupOf .int 0 0 (fun w => w = (W_X0_groupOf E o_t a_t t_told t_barred t_one t_other)) r) (hk0 : ∀ u, k0 u = some r → Gx X E 0 0 (W_X0_groupOf E o_t a_t t_told t_barred t_one t_other) 75 [(0, .ref o_t), (2, .int x2), (3, .int u), (4, .int x4), (5, .int x5)] []) : ∀ (n : Nat) (s : Int32 × Int32), L_X0_groupOf_20 t_one t_other x2 x4 x5 k0 n s = some r → Gx X E 0 0 (W_X0_groupOf E o_t a_t t_told t_barred t_one t_other) 20 [(0, .ref o_t), (2, .int x2), (3, .int s.1), (4, .int x4), (5, .int x5), (6, .int s.2)] [] := by
  unfold L_X0_groupOf_20
  refine lp_ind _ (fun go ih s h => ?_)
  refine g_iload (pc := 20) C dX0_groupOf_20 5 rfl ?_
  refine g_bipush (pc := 22) (v := 24) C dX0_groupOf_22 (by decide) ?_
  refine g_icmp_ge (pc := 24) (tgt := 75) C dX0_groupOf_24 (by decide) h (fun h => ?_) (fun h => ?_)
  · refine g_sub [0, 1, 2, 3, 4] rfl ?_
    exact hk0 _ h
  · refine g_iconst (pc := 27) (v := 1) C dX0_groupOf_27 (by decide) ?_
    refine g_aload_n (pc := 28) C dX0_groupOf_28 rfl 0 rfl ?_
    refine g_get (pc := 29) C fl_X0_9 dX0_groupOf_29 0 rfl rfl ?_
    refine g_iload (pc := 32) C dX0_groupOf_32 5 rfl ?_
    refine g_iald (pc := 34) C dX0_groupOf_34 1 rfl h (fun v2 h => ?_)
    refine g_ishl (pc := 35) C dX0_groupOf_35 ?_
    refine g_iconst (pc := 36) (v := 1) C dX0_groupOf_36 (by decide) ?_
    refine g_aload_n (pc := 37) C dX0_groupOf_37 rfl 0 rfl ?_
    refine g_get (pc := 38) C fl_X0_15 dX0_groupOf_38 0 rfl rfl ?_
    refine g_iload (pc := 41) C dX0_groupOf_41 5 rfl ?_
    refine g_iald (pc := 43) C dX0_groupOf_43 2 rfl h (fun v3 h => ?_)
    refine g_ishl (pc := 44) C dX0_groupOf_44 ?_
    refine g_ior (pc := 45) C dX0_groupOf_45 ?_
    refine g_nm h (fun v4 h => ?_)
    refine g_istore (pc := 46) (lv' := [(7, .int v4), (0, .ref o_t), (2, .int x2), (3, .int s.1), (4, .int x4), (5, .int x5), (6, .int s.2)]) C dX0_groupOf_46 (by decide) rfl ?_
    refine g_iload_n (pc := 48) C dX0_groupOf_48 rfl 2 rfl ?_
    refine g_iload (pc := 49) C dX0_groupOf_49 6 rfl ?_
    refine g_ishr (pc := 51) C dX0_groupOf_51 ?_
    refine g_iconst (pc := 52) (v := 1) C dX0_groupOf_52 (by decide) ?_
    refine g_iand (pc := 53) C dX0_groupOf_53 ?_
    refine g_if_eq (pc := 54) (tgt := 69) C dX0_groupOf_54 (by decide) h (fun h => ?_) (fun h => ?_)
    · refine g_iincn (pc := 69) (j := 6) (d := 1) (lv' := fun v5 => [(6, .int v5), (7, .int v4), (0, .ref o_t), (2, .int x2), (3, .int s.1), (4, .int x4), (5, .int x5)]) C dX0_groupOf_69 rfl (by decide) (by decide) (fun _ => rfl) h (fun v5 h => ?_)
      refine g_goto (pc := 72) (tgt := 20) C dX0_groupOf_72 (by decide) ?_
      refine g_sub [2, 3, 4, 5, 6, 0] rfl ?_
      exact ih _ h
    · refine g_iload_n (pc := 57) C dX0_groupOf_57 rfl 3 rfl ?_
      refine g_iload (pc := 58) C dX0_groupOf_58 0 rfl ?_
      refine g_iand (pc := 60) C dX0_groupOf_60 ?_
      refine g_if_eq (pc := 61) (tgt := 69) C dX0_groupOf_61 (by decide) h (fun h => ?_) (fun h => ?_)
      · refine g_iincn (pc := 69) (j := 6) (d := 1) (lv' := fun v6 => [(6, .int v6), (7, .int v4), (0, .ref o_t), (2, .int x2), (3, .int s.1), (4, .int x4), (5, .int x5)]) C dX0_groupOf_69 rfl (by decide) (by decide) (fun _ => rfl) h (fun v6 h => ?_)
        refine g_goto (pc := 72) (tgt := 20) C dX0_groupOf_72 (by decide) ?_
        refine g_sub [2, 3, 4, 5, 6, 0] rfl ?_
        exact ih _ h
      · refine g_iload_n (pc := 64) C dX0_groupOf_64 rfl 3 rfl ?_
        refine g_iload (pc := 65) C dX0_groupOf_65 0 rfl ?_
        refine g_ior (pc := 67) C dX0_groupOf_67 ?_
        refine g_nm h (fun v7 h => ?_)
        refine g_istore_n (pc := 68) (lv' := [(3, .int v7), (7, .int v4), (0, .ref o_t), (2, .int x2), (4, .int x4), (5, .int x5), (6, .int s.2)]) C dX0_groupOf_68 rfl (by decide) rfl ?_
        refine g_iincn (pc := 69) (j := 6) (d := 1) (lv' := fun v8 => [(6, .int v8), (3, .int v7), (7, .int v4), (0, .ref o_t), (2, .int x2), (4, .int x4), (5, .int x5)]) C dX0_groupOf_69 rfl (by decide) (by decide) (fun _ => rfl) h (fun v8 h => ?_)
        refine g_goto (pc := 72) (tgt := 20) C dX0_groupOf_72 (by decide) ?_
        refine g_sub [3, 4, 1, 5, 6, 0] rfl ?_
        exact ih _ h
set_option maxHeartbeats 4000000 in
set_option maxRecDepth 100000 in
theorem kL_X0_groupOf_7 {X : GC} {E : GE} (C : Cx X E cX0_groupOf RX0 1 8) (o_t : Nat) (a_t : Nat → Nat) (t_told : Int32) (t_barred : Int32) (t_one : (Nat → Int32)) (t_other : (Nat → Int32)) (x2 : Int32) {r : Int32} (hret : RtI X E cX0_groupOf .int 0 0 (fun w => w = (W_X0_groupOf E o_t a_t t_told t_barred t_one t_other)) r) : ∀ (n : Nat) (s : Int32 × Int32), L_X0_groupOf_7 t_one t_other x2 n s = some r → Gx X E 0 0 (W_X0_groupOf E o_t a_t t_told t_barred t_one t_other) 7 [(0, .ref o_t), (2, .int x2), (3, .int s.1), (4, .int s.2)] [] := by
  unfold L_X0_groupOf_7
  refine lp_ind _ (fun go ih s h => ?_)
  refine g_iload (pc := 7) C dX0_groupOf_7 3 rfl ?_
  refine g_bipush (pc := 9) (v := 16) C dX0_groupOf_9 (by decide) ?_
  refine g_icmp_ge (pc := 11) (tgt := 90) C dX0_groupOf_11 (by decide) h (fun h => ?_) (fun h => ?_)
  · refine g_iload_n (pc := 90) C dX0_groupOf_90 rfl 2 rfl ?_
    cases h
    exact hret _ _ _ dX0_groupOf_91 rfl rfl
  · refine g_iload_n (pc := 14) C dX0_groupOf_14 rfl 2 rfl ?_
    refine g_istore (pc := 15) (lv' := [(5, .int s.1), (0, .ref o_t), (2, .int x2), (3, .int s.1), (4, .int s.2)]) C dX0_groupOf_15 (by decide) rfl ?_
    refine g_iconst (pc := 17) (v := 0) C dX0_groupOf_17 (by decide) ?_
    refine g_istore (pc := 18) (lv' := [(6, .int (0 : Int32)), (5, .int s.1), (0, .ref o_t), (2, .int x2), (3, .int s.1), (4, .int s.2)]) C dX0_groupOf_18 (by decide) rfl ?_
    refine g_sub [2, 3, 4, 5, 1, 0] rfl ?_
    refine kL_X0_groupOf_20 C o_t a_t t_told t_barred t_one t_other x2 s.2 s.1 _ hret (fun s9 h => ?_) _ _ h
    refine g_iload_n (pc := 75) C dX0_groupOf_75 rfl 2 rfl ?_
    refine g_iload (pc := 76) C dX0_groupOf_76 4 rfl ?_
    refine g_icmp_ne (pc := 78) (tgt := 84) C dX0_groupOf_78 (by decide) h (fun h => ?_) (fun h => ?_)
    · refine g_iincn (pc := 84) (j := 3) (d := 1) (lv' := fun v10 => [(4, .int v10), (0, .ref o_t), (2, .int x2), (3, .int s9), (5, .int s.1)]) C dX0_groupOf_84 rfl (by decide) (by decide) (fun _ => rfl) h (fun v10 h => ?_)
      refine g_goto (pc := 87) (tgt := 7) C dX0_groupOf_87 (by decide) ?_
      refine g_sub [1, 2, 3, 0] rfl ?_
      exact ih _ h
    · refine g_goto (pc := 81) (tgt := 90) C dX0_groupOf_81 (by decide) ?_
      refine g_iload_n (pc := 90) C dX0_groupOf_90 rfl 2 rfl ?_
      cases h
      exact hret _ _ _ dX0_groupOf_91 rfl rfl
set_option maxHeartbeats 4000000 in
set_option maxRecDepth 100000 in
theorem c_X0_groupOf (l : Launch) (E : GE) (o_t : Nat) (a_t : Nat → Nat) (t_told : Int32) (t_barred : Int32) (t_one : (Nat → Int32)) (t_other : (Nat → Int32)) (x1 : Int32) (x2 : Int32) (r : Int32) (h : f_X0_groupOf t_one t_other x1 x2 = some r) : Cn l E yX0_groupOf cX0_groupOf 8 (some .int) 1 0 0 [.ref o_t, .int x1, .int x2] (W_X0_groupOf E o_t a_t t_told t_barred t_one t_other) (fun w => w = (W_X0_groupOf E o_t a_t t_told t_barred t_one t_other)) (some (.int r)) := by
  refine Cn.ofI (by decide +kernel) (Nat.le_of_ble_eq_true rfl) (fun X hX hR C hret => ?_)
  subst hX
  show Gx X E 0 0 (W_X0_groupOf E o_t a_t t_told t_barred t_one t_other) 0 [(0, .ref o_t), (1, .int x1), (2, .int x2)] []
  unfold f_X0_groupOf at h
  refine g_iconst (pc := 0) (v := 1) C dX0_groupOf_0 (by decide) ?_
  refine g_iload_n (pc := 1) C dX0_groupOf_1 rfl 1 rfl ?_
  refine g_ishl (pc := 2) C dX0_groupOf_2 ?_
  refine g_nm h (fun v1 h => ?_)
  refine g_istore_n (pc := 3) (lv' := [(3, .int v1), (0, .ref o_t), (1, .int x1), (2, .int x2)]) C dX0_groupOf_3 rfl (by decide) rfl ?_
  refine g_iconst (pc := 4) (v := 0) C dX0_groupOf_4 (by decide) ?_
  refine g_istore (pc := 5) (lv' := [(4, .int (0 : Int32)), (3, .int v1), (0, .ref o_t), (1, .int x1), (2, .int x2)]) C dX0_groupOf_5 (by decide) rfl ?_
  refine g_sub [2, 4, 1, 0] rfl ?_
  refine kL_X0_groupOf_7 C o_t a_t t_told t_barred t_one t_other x2 hret  _ _ h
abbrev W_X0_isTold (E : GE) (O_t : Nat) (a_t : Nat → Nat) (t_told : Int32) (t_barred : Int32) : va_W := [(O_t, ob_X0 a_t t_told t_barred)]
def f_X0_isTold (t_told : Int32) (x1 : Int32) : Option (Int32) := if x1 < 0 then (some (0 : Int32)) else if (24 : Int32) ≤ x1 then (some (0 : Int32)) else if ((t_told >>> (x1 &&& 31)) &&& (1 : Int32)) = 0 then (some (0 : Int32)) else some (1 : Int32)
theorem dX0_isTold_0 : decode cX0_isTold 0 = .ok (.iload_n 1, 1) := by decide +kernel
theorem dX0_isTold_1 : decode cX0_isTold 1 = .ok (.ifCond .lt 24, 3) := by decide +kernel
theorem dX0_isTold_4 : decode cX0_isTold 4 = .ok (.iload_n 1, 1) := by decide +kernel
theorem dX0_isTold_5 : decode cX0_isTold 5 = .ok (.bipush 24, 2) := by decide +kernel
theorem dX0_isTold_7 : decode cX0_isTold 7 = .ok (.if_icmp .ge 18, 3) := by decide +kernel
theorem dX0_isTold_10 : decode cX0_isTold 10 = .ok (.aload_n 0, 1) := by decide +kernel
theorem dX0_isTold_11 : decode cX0_isTold 11 = .ok (.getfield 27, 3) := by decide +kernel
theorem dX0_isTold_14 : decode cX0_isTold 14 = .ok (.iload_n 1, 1) := by decide +kernel
theorem dX0_isTold_15 : decode cX0_isTold 15 = .ok (.ishr, 1) := by decide +kernel
theorem dX0_isTold_16 : decode cX0_isTold 16 = .ok (.iconst 1, 1) := by decide +kernel
theorem dX0_isTold_17 : decode cX0_isTold 17 = .ok (.iand, 1) := by decide +kernel
theorem dX0_isTold_18 : decode cX0_isTold 18 = .ok (.ifCond .eq 7, 3) := by decide +kernel
theorem dX0_isTold_21 : decode cX0_isTold 21 = .ok (.iconst 1, 1) := by decide +kernel
theorem dX0_isTold_22 : decode cX0_isTold 22 = .ok (.goto 4, 3) := by decide +kernel
theorem dX0_isTold_25 : decode cX0_isTold 25 = .ok (.iconst 0, 1) := by decide +kernel
theorem dX0_isTold_26 : decode cX0_isTold 26 = .ok (.ireturn, 1) := by decide +kernel
set_option maxHeartbeats 4000000 in
set_option maxRecDepth 100000 in
theorem c_X0_isTold (l : Launch) (E : GE) (o_t : Nat) (a_t : Nat → Nat) (t_told : Int32) (t_barred : Int32) (x1 : Int32) (r : Int32) (h : f_X0_isTold t_told x1 = some r) : Cn l E yX0_isTold cX0_isTold 2 (some .boolean) 1 0 0 [.ref o_t, .int x1] (W_X0_isTold E o_t a_t t_told t_barred) (fun w => w = (W_X0_isTold E o_t a_t t_told t_barred)) (some (.int r)) := by
  refine Cn.ofI (by decide +kernel) (Nat.le_of_ble_eq_true rfl) (fun X hX hR C hret => ?_)
  subst hX
  show Gx X E 0 0 (W_X0_isTold E o_t a_t t_told t_barred) 0 [(0, .ref o_t), (1, .int x1)] []
  unfold f_X0_isTold at h
  refine g_iload_n (pc := 0) C dX0_isTold_0 rfl 1 rfl ?_
  refine g_if_lt (pc := 1) (tgt := 25) C dX0_isTold_1 (by decide) h (fun h => ?_) (fun h => ?_)
  · refine g_iconst (pc := 25) (v := 0) C dX0_isTold_25 (by decide) ?_
    cases h
    exact hret _ _ _ dX0_isTold_26 nb0 rfl
  · refine g_iload_n (pc := 4) C dX0_isTold_4 rfl 1 rfl ?_
    refine g_bipush (pc := 5) (v := 24) C dX0_isTold_5 (by decide) ?_
    refine g_icmp_ge (pc := 7) (tgt := 25) C dX0_isTold_7 (by decide) h (fun h => ?_) (fun h => ?_)
    · refine g_iconst (pc := 25) (v := 0) C dX0_isTold_25 (by decide) ?_
      cases h
      exact hret _ _ _ dX0_isTold_26 nb0 rfl
    · refine g_aload_n (pc := 10) C dX0_isTold_10 rfl 0 rfl ?_
      refine g_get (pc := 11) C fl_X0_27 dX0_isTold_11 0 rfl rfl ?_
      refine g_iload_n (pc := 14) C dX0_isTold_14 rfl 1 rfl ?_
      refine g_ishr (pc := 15) C dX0_isTold_15 ?_
      refine g_iconst (pc := 16) (v := 1) C dX0_isTold_16 (by decide) ?_
      refine g_iand (pc := 17) C dX0_isTold_17 ?_
      refine g_if_eq (pc := 18) (tgt := 25) C dX0_isTold_18 (by decide) h (fun h => ?_) (fun h => ?_)
      · refine g_iconst (pc := 25) (v := 0) C dX0_isTold_25 (by decide) ?_
        cases h
        exact hret _ _ _ dX0_isTold_26 nb0 rfl
      · refine g_iconst (pc := 21) (v := 1) C dX0_isTold_21 (by decide) ?_
        refine g_goto (pc := 22) (tgt := 26) C dX0_isTold_22 (by decide) ?_
        cases h
        exact hret _ _ _ dX0_isTold_26 nb1 rfl
abbrev W_X0_unbarred (E : GE) (O_t : Nat) (a_t : Nat → Nat) (t_told : Int32) (t_barred : Int32) : va_W := [(O_t, ob_X0 a_t t_told t_barred)]
def f_X0_unbarred (t_told : Int32) (t_barred : Int32) : Option (Int32) := some (t_told &&& (t_barred ^^^ (-1 : Int32)))
theorem dX0_unbarred_0 : decode cX0_unbarred 0 = .ok (.aload_n 0, 1) := by decide +kernel
theorem dX0_unbarred_1 : decode cX0_unbarred 1 = .ok (.getfield 27, 3) := by decide +kernel
theorem dX0_unbarred_4 : decode cX0_unbarred 4 = .ok (.aload_n 0, 1) := by decide +kernel
theorem dX0_unbarred_5 : decode cX0_unbarred 5 = .ok (.getfield 31, 3) := by decide +kernel
theorem dX0_unbarred_8 : decode cX0_unbarred 8 = .ok (.iconst (-1), 1) := by decide +kernel
theorem dX0_unbarred_9 : decode cX0_unbarred 9 = .ok (.ixor, 1) := by decide +kernel
theorem dX0_unbarred_10 : decode cX0_unbarred 10 = .ok (.iand, 1) := by decide +kernel
theorem dX0_unbarred_11 : decode cX0_unbarred 11 = .ok (.ireturn, 1) := by decide +kernel
set_option maxHeartbeats 4000000 in
set_option maxRecDepth 100000 in
theorem c_X0_unbarred (l : Launch) (E : GE) (o_t : Nat) (a_t : Nat → Nat) (t_told : Int32) (t_barred : Int32) (r : Int32) (h : f_X0_unbarred t_told t_barred = some r) : Cn l E yX0_unbarred cX0_unbarred 1 (some .int) 1 0 0 [.ref o_t] (W_X0_unbarred E o_t a_t t_told t_barred) (fun w => w = (W_X0_unbarred E o_t a_t t_told t_barred)) (some (.int r)) := by
  refine Cn.ofI (by decide +kernel) (Nat.le_of_ble_eq_true rfl) (fun X hX hR C hret => ?_)
  subst hX
  show Gx X E 0 0 (W_X0_unbarred E o_t a_t t_told t_barred) 0 [(0, .ref o_t)] []
  unfold f_X0_unbarred at h
  refine g_aload_n (pc := 0) C dX0_unbarred_0 rfl 0 rfl ?_
  refine g_get (pc := 1) C fl_X0_27 dX0_unbarred_1 0 rfl rfl ?_
  refine g_aload_n (pc := 4) C dX0_unbarred_4 rfl 0 rfl ?_
  refine g_get (pc := 5) C fl_X0_31 dX0_unbarred_5 0 rfl rfl ?_
  refine g_iconst (pc := 8) (v := -1) C dX0_unbarred_8 (by decide) ?_
  refine g_ixor (pc := 9) C dX0_unbarred_9 ?_
  refine g_iand (pc := 10) C dX0_unbarred_10 ?_
  cases h
  exact hret _ _ _ dX0_unbarred_11 rfl rfl
abbrev W_X0_bar (E : GE) (O_t : Nat) (a_t : Nat → Nat) (t_told : Int32) (t_barred : Int32) : va_W := [(O_t, ob_X0 a_t t_told t_barred)]
def f_X0_bar (t_told : Int32) (t_barred : Int32) (x1 : Int32) (x2 : Int32) : Option (Int32) := (f_X0_isTold t_told x1).bind fun u1 => if u1 = 0 then (some t_barred) else if x2 = 0 then (nm (t_barred &&& (((1 : Int32) <<< (x1 &&& 31)) ^^^ (-1 : Int32))) fun v2 => some v2) else nm (t_barred ||| ((1 : Int32) <<< (x1 &&& 31))) fun v3 => some v3
theorem dX0_bar_0 : decode cX0_bar 0 = .ok (.aload_n 0, 1) := by decide +kernel
theorem dX0_bar_1 : decode cX0_bar 1 = .ok (.iload_n 1, 1) := by decide +kernel
theorem dX0_bar_2 : decode cX0_bar 2 = .ok (.invokevirtual 38, 3) := by decide +kernel
theorem dX0_bar_5 : decode cX0_bar 5 = .ok (.ifCond .eq 32, 3) := by decide +kernel
theorem dX0_bar_8 : decode cX0_bar 8 = .ok (.aload_n 0, 1) := by decide +kernel
theorem dX0_bar_9 : decode cX0_bar 9 = .ok (.iload_n 2, 1) := by decide +kernel
theorem dX0_bar_10 : decode cX0_bar 10 = .ok (.ifCond .eq 14, 3) := by decide +kernel
theorem dX0_bar_13 : decode cX0_bar 13 = .ok (.aload_n 0, 1) := by decide +kernel
theorem dX0_bar_14 : decode cX0_bar 14 = .ok (.getfield 31, 3) := by decide +kernel
theorem dX0_bar_17 : decode cX0_bar 17 = .ok (.iconst 1, 1) := by decide +kernel
theorem dX0_bar_18 : decode cX0_bar 18 = .ok (.iload_n 1, 1) := by decide +kernel
theorem dX0_bar_19 : decode cX0_bar 19 = .ok (.ishl, 1) := by decide +kernel
theorem dX0_bar_20 : decode cX0_bar 20 = .ok (.ior, 1) := by decide +kernel
theorem dX0_bar_21 : decode cX0_bar 21 = .ok (.goto 13, 3) := by decide +kernel
theorem dX0_bar_24 : decode cX0_bar 24 = .ok (.aload_n 0, 1) := by decide +kernel
theorem dX0_bar_25 : decode cX0_bar 25 = .ok (.getfield 31, 3) := by decide +kernel
theorem dX0_bar_28 : decode cX0_bar 28 = .ok (.iconst 1, 1) := by decide +kernel
theorem dX0_bar_29 : decode cX0_bar 29 = .ok (.iload_n 1, 1) := by decide +kernel
theorem dX0_bar_30 : decode cX0_bar 30 = .ok (.ishl, 1) := by decide +kernel
theorem dX0_bar_31 : decode cX0_bar 31 = .ok (.iconst (-1), 1) := by decide +kernel
theorem dX0_bar_32 : decode cX0_bar 32 = .ok (.ixor, 1) := by decide +kernel
theorem dX0_bar_33 : decode cX0_bar 33 = .ok (.iand, 1) := by decide +kernel
theorem dX0_bar_34 : decode cX0_bar 34 = .ok (.putfield 31, 3) := by decide +kernel
theorem dX0_bar_37 : decode cX0_bar 37 = .ok (.return_, 1) := by decide +kernel
set_option maxHeartbeats 4000000 in
set_option maxRecDepth 100000 in
theorem c_X0_bar (l : Launch) (E : GE) (o_t : Nat) (a_t : Nat → Nat) (t_told : Int32) (t_barred : Int32) (x1 : Int32) (x2 : Int32) (r : Int32) (h : f_X0_bar t_told t_barred x1 x2 = some r) : Cn l E yX0_bar cX0_bar 3 none 2 0 0 [.ref o_t, .int x1, .int x2] (W_X0_bar E o_t a_t t_told t_barred) (fun w => w = (W_X0_bar E o_t a_t t_told r)) none := by
  refine Cn.ofV (by decide +kernel) (Nat.le_of_ble_eq_true rfl) (fun X hX hR C hret => ?_)
  subst hX
  show Gx X E 0 0 (W_X0_bar E o_t a_t t_told t_barred) 0 [(0, .ref o_t), (1, .int x1), (2, .int x2)] []
  unfold f_X0_bar at h
  refine g_aload_n (pc := 0) C dX0_bar_0 rfl 0 rfl ?_
  refine g_iload_n (pc := 1) C dX0_bar_1 rfl 1 rfl ?_
  obtain ⟨u1, hu1, h⟩ := bs h
  refine g_callV (pc := 2) (st := []) (st1 := [.int u1]) (ws' := (W_X0_bar E o_t a_t t_told t_barred)) C mv_X0_isTold mi_X0_isTold ml_X0_38 (c_X0_isTold X.2.1 E o_t a_t t_told t_barred x1 u1 hu1) dX0_bar_2 (by decide) rfl (Nat.le_of_ble_eq_true rfl) 0 0 rfl rfl [0] rfl (by decide) rfl rfl rfl rfl ?_
  refine g_if_eq (pc := 5) (tgt := 37) C dX0_bar_5 (by decide) h (fun h => ?_) (fun h => ?_)
  · cases h
    exact hret _ _ _ dX0_bar_37 rfl
  · refine g_aload_n (pc := 8) C dX0_bar_8 rfl 0 rfl ?_
    refine g_iload_n (pc := 9) C dX0_bar_9 rfl 2 rfl ?_
    refine g_if_eq (pc := 10) (tgt := 24) C dX0_bar_10 (by decide) h (fun h => ?_) (fun h => ?_)
    · refine g_aload_n (pc := 24) C dX0_bar_24 rfl 0 rfl ?_
      refine g_get (pc := 25) C fl_X0_31 dX0_bar_25 0 rfl rfl ?_
      refine g_iconst (pc := 28) (v := 1) C dX0_bar_28 (by decide) ?_
      refine g_iload_n (pc := 29) C dX0_bar_29 rfl 1 rfl ?_
      refine g_ishl (pc := 30) C dX0_bar_30 ?_
      refine g_iconst (pc := 31) (v := -1) C dX0_bar_31 (by decide) ?_
      refine g_ixor (pc := 32) C dX0_bar_32 ?_
      refine g_iand (pc := 33) C dX0_bar_33 ?_
      refine g_nm h (fun v2 h => ?_)
      refine g_put (pc := 34) (ws' := (W_X0_bar E o_t a_t t_told v2)) C .int fl_X0_31 dX0_bar_34 0 rfl (by decide +kernel) rfl rfl (Nat.le_of_ble_eq_true rfl) rfl ?_
      cases h
      exact hret _ _ _ dX0_bar_37 rfl
    · refine g_aload_n (pc := 13) C dX0_bar_13 rfl 0 rfl ?_
      refine g_get (pc := 14) C fl_X0_31 dX0_bar_14 0 rfl rfl ?_
      refine g_iconst (pc := 17) (v := 1) C dX0_bar_17 (by decide) ?_
      refine g_iload_n (pc := 18) C dX0_bar_18 rfl 1 rfl ?_
      refine g_ishl (pc := 19) C dX0_bar_19 ?_
      refine g_ior (pc := 20) C dX0_bar_20 ?_
      refine g_goto (pc := 21) (tgt := 34) C dX0_bar_21 (by decide) ?_
      refine g_nm h (fun v3 h => ?_)
      refine g_put (pc := 34) (ws' := (W_X0_bar E o_t a_t t_told v3)) C .int fl_X0_31 dX0_bar_34 0 rfl (by decide +kernel) rfl rfl (Nat.le_of_ble_eq_true rfl) rfl ?_
      cases h
      exact hret _ _ _ dX0_bar_37 rfl
abbrev W_X0_behind (E : GE) (O_t : Nat) (a_t : Nat → Nat) (t_told : Int32) (t_barred : Int32) (t_one : (Nat → Int32)) (t_other : (Nat → Int32)) : va_W := [(O_t, ob_X0 a_t t_told t_barred), (a_t 0, .inl (E.2.1, 24, .inl t_one)), (a_t 1, .inl (E.2.1, 24, .inl t_other))]
def f_X0_behind (t_told : Int32) (t_one : (Nat → Int32)) (t_other : (Nat → Int32)) (x1 : Int32) (x2 : Int32) : Option (Int32) := (f_X0_isTold t_told x1).bind fun u1 => if u1 = 0 then (some (-1 : Int32)) else rd t_one 24 x1 fun v2 => if v2 = x2 then (rd t_other 24 x1 fun v5 => some v5) else rd t_other 24 x1 fun v3 => if v3 = x2 then (rd t_one 24 x1 fun v4 => some v4) else some (-1 : Int32)
theorem dX0_behind_0 : decode cX0_behind 0 = .ok (.aload_n 0, 1) := by decide +kernel
theorem dX0_behind_1 : decode cX0_behind 1 = .ok (.iload_n 1, 1) := by decide +kernel
theorem dX0_behind_2 : decode cX0_behind 2 = .ok (.invokevirtual 38, 3) := by decide +kernel
theorem dX0_behind_5 : decode cX0_behind 5 = .ok (.ifCond .ne 5, 3) := by decide +kernel
theorem dX0_behind_8 : decode cX0_behind 8 = .ok (.iconst (-1), 1) := by decide +kernel
theorem dX0_behind_9 : decode cX0_behind 9 = .ok (.ireturn, 1) := by decide +kernel
theorem dX0_behind_10 : decode cX0_behind 10 = .ok (.aload_n 0, 1) := by decide +kernel
theorem dX0_behind_11 : decode cX0_behind 11 = .ok (.getfield 9, 3) := by decide +kernel
theorem dX0_behind_14 : decode cX0_behind 14 = .ok (.iload_n 1, 1) := by decide +kernel
theorem dX0_behind_15 : decode cX0_behind 15 = .ok (.iaload, 1) := by decide +kernel
theorem dX0_behind_16 : decode cX0_behind 16 = .ok (.iload_n 2, 1) := by decide +kernel
theorem dX0_behind_17 : decode cX0_behind 17 = .ok (.if_icmp .ne 10, 3) := by decide +kernel
theorem dX0_behind_20 : decode cX0_behind 20 = .ok (.aload_n 0, 1) := by decide +kernel
theorem dX0_behind_21 : decode cX0_behind 21 = .ok (.getfield 15, 3) := by decide +kernel
theorem dX0_behind_24 : decode cX0_behind 24 = .ok (.iload_n 1, 1) := by decide +kernel
theorem dX0_behind_25 : decode cX0_behind 25 = .ok (.iaload, 1) := by decide +kernel
theorem dX0_behind_26 : decode cX0_behind 26 = .ok (.ireturn, 1) := by decide +kernel
theorem dX0_behind_27 : decode cX0_behind 27 = .ok (.aload_n 0, 1) := by decide +kernel
theorem dX0_behind_28 : decode cX0_behind 28 = .ok (.getfield 15, 3) := by decide +kernel
theorem dX0_behind_31 : decode cX0_behind 31 = .ok (.iload_n 1, 1) := by decide +kernel
theorem dX0_behind_32 : decode cX0_behind 32 = .ok (.iaload, 1) := by decide +kernel
theorem dX0_behind_33 : decode cX0_behind 33 = .ok (.iload_n 2, 1) := by decide +kernel
theorem dX0_behind_34 : decode cX0_behind 34 = .ok (.if_icmp .ne 12, 3) := by decide +kernel
theorem dX0_behind_37 : decode cX0_behind 37 = .ok (.aload_n 0, 1) := by decide +kernel
theorem dX0_behind_38 : decode cX0_behind 38 = .ok (.getfield 9, 3) := by decide +kernel
theorem dX0_behind_41 : decode cX0_behind 41 = .ok (.iload_n 1, 1) := by decide +kernel
theorem dX0_behind_42 : decode cX0_behind 42 = .ok (.iaload, 1) := by decide +kernel
theorem dX0_behind_43 : decode cX0_behind 43 = .ok (.goto 4, 3) := by decide +kernel
theorem dX0_behind_46 : decode cX0_behind 46 = .ok (.iconst (-1), 1) := by decide +kernel
theorem dX0_behind_47 : decode cX0_behind 47 = .ok (.ireturn, 1) := by decide +kernel
set_option maxHeartbeats 4000000 in
set_option maxRecDepth 100000 in
theorem c_X0_behind (l : Launch) (E : GE) (o_t : Nat) (a_t : Nat → Nat) (t_told : Int32) (t_barred : Int32) (t_one : (Nat → Int32)) (t_other : (Nat → Int32)) (x1 : Int32) (x2 : Int32) (r : Int32) (h : f_X0_behind t_told t_one t_other x1 x2 = some r) : Cn l E yX0_behind cX0_behind 3 (some .int) 2 0 0 [.ref o_t, .int x1, .int x2] (W_X0_behind E o_t a_t t_told t_barred t_one t_other) (fun w => w = (W_X0_behind E o_t a_t t_told t_barred t_one t_other)) (some (.int r)) := by
  refine Cn.ofI (by decide +kernel) (Nat.le_of_ble_eq_true rfl) (fun X hX hR C hret => ?_)
  subst hX
  show Gx X E 0 0 (W_X0_behind E o_t a_t t_told t_barred t_one t_other) 0 [(0, .ref o_t), (1, .int x1), (2, .int x2)] []
  unfold f_X0_behind at h
  refine g_aload_n (pc := 0) C dX0_behind_0 rfl 0 rfl ?_
  refine g_iload_n (pc := 1) C dX0_behind_1 rfl 1 rfl ?_
  obtain ⟨u1, hu1, h⟩ := bs h
  refine g_callV (pc := 2) (st := []) (st1 := [.int u1]) (ws' := (W_X0_behind E o_t a_t t_told t_barred t_one t_other)) C mv_X0_isTold mi_X0_isTold ml_X0_38 (c_X0_isTold X.2.1 E o_t a_t t_told t_barred x1 u1 hu1) dX0_behind_2 (by decide) rfl (Nat.le_of_ble_eq_true rfl) 0 0 rfl rfl [0] rfl (by decide) rfl rfl rfl rfl ?_
  refine g_if_ne (pc := 5) (tgt := 10) C dX0_behind_5 (by decide) h (fun h => ?_) (fun h => ?_)
  · refine g_aload_n (pc := 10) C dX0_behind_10 rfl 0 rfl ?_
    refine g_get (pc := 11) C fl_X0_9 dX0_behind_11 0 rfl rfl ?_
    refine g_iload_n (pc := 14) C dX0_behind_14 rfl 1 rfl ?_
    refine g_iald (pc := 15) C dX0_behind_15 1 rfl h (fun v2 h => ?_)
    refine g_iload_n (pc := 16) C dX0_behind_16 rfl 2 rfl ?_
    refine g_icmp_ne (pc := 17) (tgt := 27) C dX0_behind_17 (by decide) h (fun h => ?_) (fun h => ?_)
    · refine g_aload_n (pc := 27) C dX0_behind_27 rfl 0 rfl ?_
      refine g_get (pc := 28) C fl_X0_15 dX0_behind_28 0 rfl rfl ?_
      refine g_iload_n (pc := 31) C dX0_behind_31 rfl 1 rfl ?_
      refine g_iald (pc := 32) C dX0_behind_32 2 rfl h (fun v3 h => ?_)
      refine g_iload_n (pc := 33) C dX0_behind_33 rfl 2 rfl ?_
      refine g_icmp_ne (pc := 34) (tgt := 46) C dX0_behind_34 (by decide) h (fun h => ?_) (fun h => ?_)
      · refine g_iconst (pc := 46) (v := -1) C dX0_behind_46 (by decide) ?_
        cases h
        exact hret _ _ _ dX0_behind_47 rfl rfl
      · refine g_aload_n (pc := 37) C dX0_behind_37 rfl 0 rfl ?_
        refine g_get (pc := 38) C fl_X0_9 dX0_behind_38 0 rfl rfl ?_
        refine g_iload_n (pc := 41) C dX0_behind_41 rfl 1 rfl ?_
        refine g_iald (pc := 42) C dX0_behind_42 1 rfl h (fun v4 h => ?_)
        refine g_goto (pc := 43) (tgt := 47) C dX0_behind_43 (by decide) ?_
        cases h
        exact hret _ _ _ dX0_behind_47 rfl rfl
    · refine g_aload_n (pc := 20) C dX0_behind_20 rfl 0 rfl ?_
      refine g_get (pc := 21) C fl_X0_15 dX0_behind_21 0 rfl rfl ?_
      refine g_iload_n (pc := 24) C dX0_behind_24 rfl 1 rfl ?_
      refine g_iald (pc := 25) C dX0_behind_25 2 rfl h (fun v5 h => ?_)
      cases h
      exact hret _ _ _ dX0_behind_26 rfl rfl
  · refine g_iconst (pc := 8) (v := -1) C dX0_behind_8 (by decide) ?_
    cases h
    exact hret _ _ _ dX0_behind_9 rfl rfl
abbrev W_X0_bend (E : GE) (O_t : Nat) (a_t : Nat → Nat) (t_told : Int32) (t_barred : Int32) (t_bent : (Nat → Int32)) : va_W := [(O_t, ob_X0 a_t t_told t_barred), (a_t 4, .inl (E.2.1, 6, .inl t_bent))]
def f_X0_bend (t_bent : (Nat → Int32)) (x1 : Int32) (x2 : Int32) : Option ((Nat → Int32)) := (f_X11_isWithin x1 (0 : Int32) (5 : Int32)).bind fun u1 => if u1 = 0 then (some t_bent) else wr t_bent 6 x1 x2 fun g2 => some g2
theorem dX0_bend_0 : decode cX0_bend 0 = .ok (.iload_n 1, 1) := by decide +kernel
theorem dX0_bend_1 : decode cX0_bend 1 = .ok (.iconst 0, 1) := by decide +kernel
theorem dX0_bend_2 : decode cX0_bend 2 = .ok (.iconst 5, 1) := by decide +kernel
theorem dX0_bend_3 : decode cX0_bend 3 = .ok (.invokestatic 34, 3) := by decide +kernel
theorem dX0_bend_6 : decode cX0_bend 6 = .ok (.ifCond .eq 10, 3) := by decide +kernel
theorem dX0_bend_9 : decode cX0_bend 9 = .ok (.aload_n 0, 1) := by decide +kernel
theorem dX0_bend_10 : decode cX0_bend 10 = .ok (.getfield 24, 3) := by decide +kernel
theorem dX0_bend_13 : decode cX0_bend 13 = .ok (.iload_n 1, 1) := by decide +kernel
theorem dX0_bend_14 : decode cX0_bend 14 = .ok (.iload_n 2, 1) := by decide +kernel
theorem dX0_bend_15 : decode cX0_bend 15 = .ok (.iastore, 1) := by decide +kernel
theorem dX0_bend_16 : decode cX0_bend 16 = .ok (.return_, 1) := by decide +kernel
set_option maxHeartbeats 4000000 in
set_option maxRecDepth 100000 in
theorem c_X0_bend (l : Launch) (E : GE) (o_t : Nat) (a_t : Nat → Nat) (t_told : Int32) (t_barred : Int32) (t_bent : (Nat → Int32)) (x1 : Int32) (x2 : Int32) (r : (Nat → Int32)) (h : f_X0_bend t_bent x1 x2 = some r) : Cn l E yX0_bend cX0_bend 3 none 2 0 0 [.ref o_t, .int x1, .int x2] (W_X0_bend E o_t a_t t_told t_barred t_bent) (fun w => w = (W_X0_bend E o_t a_t t_told t_barred r)) none := by
  refine Cn.ofV (by decide +kernel) (Nat.le_of_ble_eq_true rfl) (fun X hX hR C hret => ?_)
  subst hX
  show Gx X E 0 0 (W_X0_bend E o_t a_t t_told t_barred t_bent) 0 [(0, .ref o_t), (1, .int x1), (2, .int x2)] []
  unfold f_X0_bend at h
  refine g_iload_n (pc := 0) C dX0_bend_0 rfl 1 rfl ?_
  refine g_iconst (pc := 1) (v := 0) C dX0_bend_1 (by decide) ?_
  refine g_iconst (pc := 2) (v := 5) C dX0_bend_2 (by decide) ?_
  obtain ⟨u1, hu1, h⟩ := bs h
  refine g_callSN (pc := 3) (st := []) (st1 := [.int u1]) (ws' := (W_X0_bend E o_t a_t t_told t_barred t_bent)) C mv_X11_isWithin ms_X11_isWithin mn_X0_34 (c_X11_isWithin X.2.1 E x1 (0 : Int32) (5 : Int32) u1 hu1) dX0_bend_3 (by decide) rfl (Nat.le_of_ble_eq_true rfl) [] rfl (by decide) rfl rfl rfl rfl ?_
  refine g_if_eq (pc := 6) (tgt := 16) C dX0_bend_6 (by decide) h (fun h => ?_) (fun h => ?_)
  · cases h
    exact hret _ _ _ dX0_bend_16 rfl
  · refine g_aload_n (pc := 9) C dX0_bend_9 rfl 0 rfl ?_
    refine g_get (pc := 10) C fl_X0_24 dX0_bend_10 0 rfl rfl ?_
    refine g_iload_n (pc := 13) C dX0_bend_13 rfl 1 rfl ?_
    refine g_iload_n (pc := 14) C dX0_bend_14 rfl 2 rfl ?_
    refine g_iast (pc := 15) C dX0_bend_15 1 rfl h (fun g2 h => ?_)
    refine g_ws (ws' := (W_X0_bend E o_t a_t t_told t_barred g2)) rfl ?_
    cases h
    exact hret _ _ _ dX0_bend_16 rfl
abbrev W_X0_groups (E : GE) (O_t : Nat) (a_t : Nat → Nat) (t_told : Int32) (t_barred : Int32) (t_one : (Nat → Int32)) (t_other : (Nat → Int32)) : va_W := [(O_t, ob_X0 a_t t_told t_barred), (a_t 0, .inl (E.2.1, 24, .inl t_one)), (a_t 1, .inl (E.2.1, 24, .inl t_other))]
def L_X0_groups_6 (t_told : Int32) (t_barred : Int32) (t_one : (Nat → Int32)) (t_other : (Nat → Int32)) : Nat → Int32 × Int32 × Int32 → Option (Int32) := lp fun go s => if (16 : Int32) ≤ s.2.2 then (some s.2.1) else if ((s.1 >>> (s.2.2 &&& 31)) &&& (1 : Int32)) = 0 then ((f_X0_unbarred t_told t_barred).bind fun u2 => (f_X0_groupOf t_one t_other s.2.2 u2).bind fun u3 => nm (s.1 ||| u3) fun v4 => nm (s.2.1 + (1 : Int32)) fun v5 => nm (s.2.2 + (1 : Int32)) fun v6 => go (v4, v5, v6)) else nm (s.2.2 + (1 : Int32)) fun v1 => go (s.1, s.2.1, v1)
def f_X0_groups (t_told : Int32) (t_barred : Int32) (t_one : (Nat → Int32)) (t_other : (Nat → Int32)) : Option (Int32) := L_X0_groups_6 t_told t_barred t_one t_other fu ((0 : Int32), (0 : Int32), (0 : Int32))
theorem dX0_groups_0 : decode cX0_groups 0 = .ok (.iconst 0, 1) := by decide +kernel
theorem dX0_groups_1 : decode cX0_groups 1 = .ok (.istore_n 1, 1) := by decide +kernel
theorem dX0_groups_2 : decode cX0_groups 2 = .ok (.iconst 0, 1) := by decide +kernel
theorem dX0_groups_3 : decode cX0_groups 3 = .ok (.istore_n 2, 1) := by decide +kernel
theorem dX0_groups_4 : decode cX0_groups 4 = .ok (.iconst 0, 1) := by decide +kernel
theorem dX0_groups_5 : decode cX0_groups 5 = .ok (.istore_n 3, 1) := by decide +kernel
theorem dX0_groups_6 : decode cX0_groups 6 = .ok (.iload_n 3, 1) := by decide +kernel
theorem dX0_groups_7 : decode cX0_groups 7 = .ok (.bipush 16, 2) := by decide +kernel
theorem dX0_groups_9 : decode cX0_groups 9 = .ok (.if_icmp .ge 32, 3) := by decide +kernel
theorem dX0_groups_12 : decode cX0_groups 12 = .ok (.iload_n 1, 1) := by decide +kernel
theorem dX0_groups_13 : decode cX0_groups 13 = .ok (.iload_n 3, 1) := by decide +kernel
theorem dX0_groups_14 : decode cX0_groups 14 = .ok (.ishr, 1) := by decide +kernel
theorem dX0_groups_15 : decode cX0_groups 15 = .ok (.iconst 1, 1) := by decide +kernel
theorem dX0_groups_16 : decode cX0_groups 16 = .ok (.iand, 1) := by decide +kernel
theorem dX0_groups_17 : decode cX0_groups 17 = .ok (.ifCond .ne 18, 3) := by decide +kernel
theorem dX0_groups_20 : decode cX0_groups 20 = .ok (.iload_n 1, 1) := by decide +kernel
theorem dX0_groups_21 : decode cX0_groups 21 = .ok (.aload_n 0, 1) := by decide +kernel
theorem dX0_groups_22 : decode cX0_groups 22 = .ok (.iload_n 3, 1) := by decide +kernel
theorem dX0_groups_23 : decode cX0_groups 23 = .ok (.aload_n 0, 1) := by decide +kernel
theorem dX0_groups_24 : decode cX0_groups 24 = .ok (.invokevirtual 55, 3) := by decide +kernel
theorem dX0_groups_27 : decode cX0_groups 27 = .ok (.invokevirtual 59, 3) := by decide +kernel
theorem dX0_groups_30 : decode cX0_groups 30 = .ok (.ior, 1) := by decide +kernel
theorem dX0_groups_31 : decode cX0_groups 31 = .ok (.istore_n 1, 1) := by decide +kernel
theorem dX0_groups_32 : decode cX0_groups 32 = .ok (.iinc 2 1, 3) := by decide +kernel
theorem dX0_groups_35 : decode cX0_groups 35 = .ok (.iinc 3 1, 3) := by decide +kernel
theorem dX0_groups_38 : decode cX0_groups 38 = .ok (.goto (-32), 3) := by decide +kernel
theorem dX0_groups_41 : decode cX0_groups 41 = .ok (.iload_n 2, 1) := by decide +kernel
theorem dX0_groups_42 : decode cX0_groups 42 = .ok (.ireturn, 1) := by decide +kernel
set_option maxHeartbeats 4000000 in
set_option maxRecDepth 100000 in
theorem kL_X0_groups_6 {X : GC} {E : GE} (C : Cx X E cX0_groups RX0 2 4) (o_t : Nat) (a_t : Nat → Nat) (t_told : Int32) (t_barred : Int32) (t_one : (Nat → Int32)) (t_other : (Nat → Int32)) {r : Int32} (hret : RtI X E cX0_groups .int 0 0 (fun w => w = (W_X0_groups E o_t a_t t_told t_barred t_one t_other)) r) : ∀ (n : Nat) (s : Int32 × Int32 × Int32), L_X0_groups_6 t_told t_barred t_one t_other n s = some r → Gx X E 0 0 (W_X0_groups E o_t a_t t_told t_barred t_one t_other) 6 [(0, .ref o_t), (1, .int s.1), (2, .int s.2.1), (3, .int s.2.2)] [] := by
  unfold L_X0_groups_6
  refine lp_ind _ (fun go ih s h => ?_)
  refine g_iload_n (pc := 6) C dX0_groups_6 rfl 3 rfl ?_
  refine g_bipush (pc := 7) (v := 16) C dX0_groups_7 (by decide) ?_
  refine g_icmp_ge (pc := 9) (tgt := 41) C dX0_groups_9 (by decide) h (fun h => ?_) (fun h => ?_)
  · refine g_iload_n (pc := 41) C dX0_groups_41 rfl 2 rfl ?_
    cases h
    exact hret _ _ _ dX0_groups_42 rfl rfl
  · refine g_iload_n (pc := 12) C dX0_groups_12 rfl 1 rfl ?_
    refine g_iload_n (pc := 13) C dX0_groups_13 rfl 3 rfl ?_
    refine g_ishr (pc := 14) C dX0_groups_14 ?_
    refine g_iconst (pc := 15) (v := 1) C dX0_groups_15 (by decide) ?_
    refine g_iand (pc := 16) C dX0_groups_16 ?_
    refine g_if_ne (pc := 17) (tgt := 35) C dX0_groups_17 (by decide) h (fun h => ?_) (fun h => ?_)
    · refine g_iincn (pc := 35) (j := 3) (d := 1) (lv' := fun v1 => [(3, .int v1), (0, .ref o_t), (1, .int s.1), (2, .int s.2.1)]) C dX0_groups_35 rfl (by decide) (by decide) (fun _ => rfl) h (fun v1 h => ?_)
      refine g_goto (pc := 38) (tgt := 6) C dX0_groups_38 (by decide) ?_
      refine g_sub [1, 2, 3, 0] rfl ?_
      exact ih _ h
    · refine g_iload_n (pc := 20) C dX0_groups_20 rfl 1 rfl ?_
      refine g_aload_n (pc := 21) C dX0_groups_21 rfl 0 rfl ?_
      refine g_iload_n (pc := 22) C dX0_groups_22 rfl 3 rfl ?_
      refine g_aload_n (pc := 23) C dX0_groups_23 rfl 0 rfl ?_
      obtain ⟨u2, hu2, h⟩ := bs h
      refine g_callV (pc := 24) (st := [.int s.2.2, .ref o_t, .int s.1]) (st1 := [.int u2, .int s.2.2, .ref o_t, .int s.1]) (ws' := (W_X0_groups E o_t a_t t_told t_barred t_one t_other)) C mv_X0_unbarred mi_X0_unbarred ml_X0_55 (c_X0_unbarred X.2.1 E o_t a_t t_told t_barred u2 hu2) dX0_groups_24 (by decide) rfl (Nat.le_of_ble_eq_true rfl) 0 0 rfl rfl [0] rfl (by decide) rfl rfl rfl rfl ?_
      obtain ⟨u3, hu3, h⟩ := bs h
      refine g_callV (pc := 27) (st := [.int s.1]) (st1 := [.int u3, .int s.1]) (ws' := (W_X0_groups E o_t a_t t_told t_barred t_one t_other)) C mv_X0_groupOf mi_X0_groupOf ml_X0_59 (c_X0_groupOf X.2.1 E o_t a_t t_told t_barred t_one t_other s.2.2 u2 u3 hu3) dX0_groups_27 (by decide) rfl (Nat.le_of_ble_eq_true rfl) 0 0 rfl rfl [0, 1, 2] rfl (by decide) rfl rfl rfl rfl ?_
      refine g_ior (pc := 30) C dX0_groups_30 ?_
      refine g_nm h (fun v4 h => ?_)
      refine g_istore_n (pc := 31) (lv' := [(1, .int v4), (0, .ref o_t), (2, .int s.2.1), (3, .int s.2.2)]) C dX0_groups_31 rfl (by decide) rfl ?_
      refine g_iincn (pc := 32) (j := 2) (d := 1) (lv' := fun v5 => [(2, .int v5), (1, .int v4), (0, .ref o_t), (3, .int s.2.2)]) C dX0_groups_32 rfl (by decide) (by decide) (fun _ => rfl) h (fun v5 h => ?_)
      refine g_iincn (pc := 35) (j := 3) (d := 1) (lv' := fun v6 => [(3, .int v6), (2, .int v5), (1, .int v4), (0, .ref o_t)]) C dX0_groups_35 rfl (by decide) (by decide) (fun _ => rfl) h (fun v6 h => ?_)
      refine g_goto (pc := 38) (tgt := 6) C dX0_groups_38 (by decide) ?_
      refine g_sub [3, 2, 1, 0] rfl ?_
      exact ih _ h
set_option maxHeartbeats 4000000 in
set_option maxRecDepth 100000 in
theorem c_X0_groups (l : Launch) (E : GE) (o_t : Nat) (a_t : Nat → Nat) (t_told : Int32) (t_barred : Int32) (t_one : (Nat → Int32)) (t_other : (Nat → Int32)) (r : Int32) (h : f_X0_groups t_told t_barred t_one t_other = some r) : Cn l E yX0_groups cX0_groups 4 (some .int) 2 0 0 [.ref o_t] (W_X0_groups E o_t a_t t_told t_barred t_one t_other) (fun w => w = (W_X0_groups E o_t a_t t_told t_barred t_one t_other)) (some (.int r)) := by
  refine Cn.ofI (by decide +kernel) (Nat.le_of_ble_eq_true rfl) (fun X hX hR C hret => ?_)
  subst hX
  show Gx X E 0 0 (W_X0_groups E o_t a_t t_told t_barred t_one t_other) 0 [(0, .ref o_t)] []
  unfold f_X0_groups at h
  refine g_iconst (pc := 0) (v := 0) C dX0_groups_0 (by decide) ?_
  refine g_istore_n (pc := 1) (lv' := [(1, .int (0 : Int32)), (0, .ref o_t)]) C dX0_groups_1 rfl (by decide) rfl ?_
  refine g_iconst (pc := 2) (v := 0) C dX0_groups_2 (by decide) ?_
  refine g_istore_n (pc := 3) (lv' := [(2, .int (0 : Int32)), (1, .int (0 : Int32)), (0, .ref o_t)]) C dX0_groups_3 rfl (by decide) rfl ?_
  refine g_iconst (pc := 4) (v := 0) C dX0_groups_4 (by decide) ?_
  refine g_istore_n (pc := 5) (lv' := [(3, .int (0 : Int32)), (2, .int (0 : Int32)), (1, .int (0 : Int32)), (0, .ref o_t)]) C dX0_groups_5 rfl (by decide) rfl ?_
  refine g_sub [3, 2, 1, 0] rfl ?_
  refine kL_X0_groups_6 C o_t a_t t_told t_barred t_one t_other hret  _ _ h
abbrev W_X0_onlyWays (E : GE) (O_t : Nat) (a_t : Nat → Nat) (t_told : Int32) (t_barred : Int32) (t_one : (Nat → Int32)) (t_other : (Nat → Int32)) : va_W := [(O_t, ob_X0 a_t t_told t_barred), (a_t 0, .inl (E.2.1, 24, .inl t_one)), (a_t 1, .inl (E.2.1, 24, .inl t_other))]
def L_X0_onlyWays_9 (t_told : Int32) (t_barred : Int32) (t_one : (Nat → Int32)) (t_other : (Nat → Int32)) (x1 : Int32) : Nat → Int32 × Int32 → Option (Int32) := lp fun go s => if (24 : Int32) ≤ s.2 then (some s.1) else if ((x1 >>> (s.2 &&& 31)) &&& (1 : Int32)) = 0 then (nm (s.2 + (1 : Int32)) fun v2 => go (s.1, v2)) else rd t_one 24 s.2 fun v3 => (f_X0_groupOf t_one t_other v3 (x1 &&& (((1 : Int32) <<< (s.2 &&& 31)) ^^^ (-1 : Int32)))).bind fun u4 => rd t_other 24 s.2 fun v5 => if ((u4 >>> (v5 &&& 31)) &&& (1 : Int32)) = 0 then (nm (s.1 ||| ((1 : Int32) <<< (s.2 &&& 31))) fun v7 => nm (s.2 + (1 : Int32)) fun v8 => go (v7, v8)) else nm (s.2 + (1 : Int32)) fun v6 => go (s.1, v6)
def f_X0_onlyWays (t_told : Int32) (t_barred : Int32) (t_one : (Nat → Int32)) (t_other : (Nat → Int32)) : Option (Int32) := (f_X0_unbarred t_told t_barred).bind fun u1 => L_X0_onlyWays_9 t_told t_barred t_one t_other u1 fu ((0 : Int32), (0 : Int32))
theorem dX0_onlyWays_0 : decode cX0_onlyWays 0 = .ok (.aload_n 0, 1) := by decide +kernel
theorem dX0_onlyWays_1 : decode cX0_onlyWays 1 = .ok (.invokevirtual 55, 3) := by decide +kernel
theorem dX0_onlyWays_4 : decode cX0_onlyWays 4 = .ok (.istore_n 1, 1) := by decide +kernel
theorem dX0_onlyWays_5 : decode cX0_onlyWays 5 = .ok (.iconst 0, 1) := by decide +kernel
theorem dX0_onlyWays_6 : decode cX0_onlyWays 6 = .ok (.istore_n 2, 1) := by decide +kernel
theorem dX0_onlyWays_7 : decode cX0_onlyWays 7 = .ok (.iconst 0, 1) := by decide +kernel
theorem dX0_onlyWays_8 : decode cX0_onlyWays 8 = .ok (.istore_n 3, 1) := by decide +kernel
theorem dX0_onlyWays_9 : decode cX0_onlyWays 9 = .ok (.iload_n 3, 1) := by decide +kernel
theorem dX0_onlyWays_10 : decode cX0_onlyWays 10 = .ok (.bipush 24, 2) := by decide +kernel
theorem dX0_onlyWays_12 : decode cX0_onlyWays 12 = .ok (.if_icmp .ge 56, 3) := by decide +kernel
theorem dX0_onlyWays_15 : decode cX0_onlyWays 15 = .ok (.iload_n 1, 1) := by decide +kernel
theorem dX0_onlyWays_16 : decode cX0_onlyWays 16 = .ok (.iload_n 3, 1) := by decide +kernel
theorem dX0_onlyWays_17 : decode cX0_onlyWays 17 = .ok (.ishr, 1) := by decide +kernel
theorem dX0_onlyWays_18 : decode cX0_onlyWays 18 = .ok (.iconst 1, 1) := by decide +kernel
theorem dX0_onlyWays_19 : decode cX0_onlyWays 19 = .ok (.iand, 1) := by decide +kernel
theorem dX0_onlyWays_20 : decode cX0_onlyWays 20 = .ok (.ifCond .eq 42, 3) := by decide +kernel
theorem dX0_onlyWays_23 : decode cX0_onlyWays 23 = .ok (.aload_n 0, 1) := by decide +kernel
theorem dX0_onlyWays_24 : decode cX0_onlyWays 24 = .ok (.aload_n 0, 1) := by decide +kernel
theorem dX0_onlyWays_25 : decode cX0_onlyWays 25 = .ok (.getfield 9, 3) := by decide +kernel
theorem dX0_onlyWays_28 : decode cX0_onlyWays 28 = .ok (.iload_n 3, 1) := by decide +kernel
theorem dX0_onlyWays_29 : decode cX0_onlyWays 29 = .ok (.iaload, 1) := by decide +kernel
theorem dX0_onlyWays_30 : decode cX0_onlyWays 30 = .ok (.iload_n 1, 1) := by decide +kernel
theorem dX0_onlyWays_31 : decode cX0_onlyWays 31 = .ok (.iconst 1, 1) := by decide +kernel
theorem dX0_onlyWays_32 : decode cX0_onlyWays 32 = .ok (.iload_n 3, 1) := by decide +kernel
theorem dX0_onlyWays_33 : decode cX0_onlyWays 33 = .ok (.ishl, 1) := by decide +kernel
theorem dX0_onlyWays_34 : decode cX0_onlyWays 34 = .ok (.iconst (-1), 1) := by decide +kernel
theorem dX0_onlyWays_35 : decode cX0_onlyWays 35 = .ok (.ixor, 1) := by decide +kernel
theorem dX0_onlyWays_36 : decode cX0_onlyWays 36 = .ok (.iand, 1) := by decide +kernel
theorem dX0_onlyWays_37 : decode cX0_onlyWays 37 = .ok (.invokevirtual 59, 3) := by decide +kernel
theorem dX0_onlyWays_40 : decode cX0_onlyWays 40 = .ok (.istore 4, 2) := by decide +kernel
theorem dX0_onlyWays_42 : decode cX0_onlyWays 42 = .ok (.iload 4, 2) := by decide +kernel
theorem dX0_onlyWays_44 : decode cX0_onlyWays 44 = .ok (.aload_n 0, 1) := by decide +kernel
theorem dX0_onlyWays_45 : decode cX0_onlyWays 45 = .ok (.getfield 15, 3) := by decide +kernel
theorem dX0_onlyWays_48 : decode cX0_onlyWays 48 = .ok (.iload_n 3, 1) := by decide +kernel
theorem dX0_onlyWays_49 : decode cX0_onlyWays 49 = .ok (.iaload, 1) := by decide +kernel
theorem dX0_onlyWays_50 : decode cX0_onlyWays 50 = .ok (.ishr, 1) := by decide +kernel
theorem dX0_onlyWays_51 : decode cX0_onlyWays 51 = .ok (.iconst 1, 1) := by decide +kernel
theorem dX0_onlyWays_52 : decode cX0_onlyWays 52 = .ok (.iand, 1) := by decide +kernel
theorem dX0_onlyWays_53 : decode cX0_onlyWays 53 = .ok (.ifCond .ne 9, 3) := by decide +kernel
theorem dX0_onlyWays_56 : decode cX0_onlyWays 56 = .ok (.iload_n 2, 1) := by decide +kernel
theorem dX0_onlyWays_57 : decode cX0_onlyWays 57 = .ok (.iconst 1, 1) := by decide +kernel
theorem dX0_onlyWays_58 : decode cX0_onlyWays 58 = .ok (.iload_n 3, 1) := by decide +kernel
theorem dX0_onlyWays_59 : decode cX0_onlyWays 59 = .ok (.ishl, 1) := by decide +kernel
theorem dX0_onlyWays_60 : decode cX0_onlyWays 60 = .ok (.ior, 1) := by decide +kernel
theorem dX0_onlyWays_61 : decode cX0_onlyWays 61 = .ok (.istore_n 2, 1) := by decide +kernel
theorem dX0_onlyWays_62 : decode cX0_onlyWays 62 = .ok (.iinc 3 1, 3) := by decide +kernel
theorem dX0_onlyWays_65 : decode cX0_onlyWays 65 = .ok (.goto (-56), 3) := by decide +kernel
theorem dX0_onlyWays_68 : decode cX0_onlyWays 68 = .ok (.iload_n 2, 1) := by decide +kernel
theorem dX0_onlyWays_69 : decode cX0_onlyWays 69 = .ok (.ireturn, 1) := by decide +kernel
set_option maxHeartbeats 4000000 in
set_option maxRecDepth 100000 in
theorem kL_X0_onlyWays_9 {X : GC} {E : GE} (C : Cx X E cX0_onlyWays RX0 2 5) (o_t : Nat) (a_t : Nat → Nat) (t_told : Int32) (t_barred : Int32) (t_one : (Nat → Int32)) (t_other : (Nat → Int32)) (x1 : Int32) {r : Int32} (hret : RtI X E cX0_onlyWays .int 0 0 (fun w => w = (W_X0_onlyWays E o_t a_t t_told t_barred t_one t_other)) r) : ∀ (n : Nat) (s : Int32 × Int32), L_X0_onlyWays_9 t_told t_barred t_one t_other x1 n s = some r → Gx X E 0 0 (W_X0_onlyWays E o_t a_t t_told t_barred t_one t_other) 9 [(0, .ref o_t), (1, .int x1), (2, .int s.1), (3, .int s.2)] [] := by
  unfold L_X0_onlyWays_9
  refine lp_ind _ (fun go ih s h => ?_)
  refine g_iload_n (pc := 9) C dX0_onlyWays_9 rfl 3 rfl ?_
  refine g_bipush (pc := 10) (v := 24) C dX0_onlyWays_10 (by decide) ?_
  refine g_icmp_ge (pc := 12) (tgt := 68) C dX0_onlyWays_12 (by decide) h (fun h => ?_) (fun h => ?_)
  · refine g_iload_n (pc := 68) C dX0_onlyWays_68 rfl 2 rfl ?_
    cases h
    exact hret _ _ _ dX0_onlyWays_69 rfl rfl
  · refine g_iload_n (pc := 15) C dX0_onlyWays_15 rfl 1 rfl ?_
    refine g_iload_n (pc := 16) C dX0_onlyWays_16 rfl 3 rfl ?_
    refine g_ishr (pc := 17) C dX0_onlyWays_17 ?_
    refine g_iconst (pc := 18) (v := 1) C dX0_onlyWays_18 (by decide) ?_
    refine g_iand (pc := 19) C dX0_onlyWays_19 ?_
    refine g_if_eq (pc := 20) (tgt := 62) C dX0_onlyWays_20 (by decide) h (fun h => ?_) (fun h => ?_)
    · refine g_iincn (pc := 62) (j := 3) (d := 1) (lv' := fun v2 => [(3, .int v2), (0, .ref o_t), (1, .int x1), (2, .int s.1)]) C dX0_onlyWays_62 rfl (by decide) (by decide) (fun _ => rfl) h (fun v2 h => ?_)
      refine g_goto (pc := 65) (tgt := 9) C dX0_onlyWays_65 (by decide) ?_
      refine g_sub [1, 2, 3, 0] rfl ?_
      exact ih _ h
    · refine g_aload_n (pc := 23) C dX0_onlyWays_23 rfl 0 rfl ?_
      refine g_aload_n (pc := 24) C dX0_onlyWays_24 rfl 0 rfl ?_
      refine g_get (pc := 25) C fl_X0_9 dX0_onlyWays_25 0 rfl rfl ?_
      refine g_iload_n (pc := 28) C dX0_onlyWays_28 rfl 3 rfl ?_
      refine g_iald (pc := 29) C dX0_onlyWays_29 1 rfl h (fun v3 h => ?_)
      refine g_iload_n (pc := 30) C dX0_onlyWays_30 rfl 1 rfl ?_
      refine g_iconst (pc := 31) (v := 1) C dX0_onlyWays_31 (by decide) ?_
      refine g_iload_n (pc := 32) C dX0_onlyWays_32 rfl 3 rfl ?_
      refine g_ishl (pc := 33) C dX0_onlyWays_33 ?_
      refine g_iconst (pc := 34) (v := -1) C dX0_onlyWays_34 (by decide) ?_
      refine g_ixor (pc := 35) C dX0_onlyWays_35 ?_
      refine g_iand (pc := 36) C dX0_onlyWays_36 ?_
      obtain ⟨u4, hu4, h⟩ := bs h
      refine g_callV (pc := 37) (st := []) (st1 := [.int u4]) (ws' := (W_X0_onlyWays E o_t a_t t_told t_barred t_one t_other)) C mv_X0_groupOf mi_X0_groupOf ml_X0_59 (c_X0_groupOf X.2.1 E o_t a_t t_told t_barred t_one t_other v3 (x1 &&& (((1 : Int32) <<< (s.2 &&& 31)) ^^^ (-1 : Int32))) u4 hu4) dX0_onlyWays_37 (by decide) rfl (Nat.le_of_ble_eq_true rfl) 0 0 rfl rfl [0, 1, 2] rfl (by decide) rfl rfl rfl rfl ?_
      refine g_istore (pc := 40) (lv' := [(4, .int u4), (0, .ref o_t), (1, .int x1), (2, .int s.1), (3, .int s.2)]) C dX0_onlyWays_40 (by decide) rfl ?_
      refine g_iload (pc := 42) C dX0_onlyWays_42 0 rfl ?_
      refine g_aload_n (pc := 44) C dX0_onlyWays_44 rfl 1 rfl ?_
      refine g_get (pc := 45) C fl_X0_15 dX0_onlyWays_45 0 rfl rfl ?_
      refine g_iload_n (pc := 48) C dX0_onlyWays_48 rfl 4 rfl ?_
      refine g_iald (pc := 49) C dX0_onlyWays_49 2 rfl h (fun v5 h => ?_)
      refine g_ishr (pc := 50) C dX0_onlyWays_50 ?_
      refine g_iconst (pc := 51) (v := 1) C dX0_onlyWays_51 (by decide) ?_
      refine g_iand (pc := 52) C dX0_onlyWays_52 ?_
      refine g_if_ne (pc := 53) (tgt := 62) C dX0_onlyWays_53 (by decide) h (fun h => ?_) (fun h => ?_)
      · refine g_iincn (pc := 62) (j := 4) (d := 1) (lv' := fun v6 => [(3, .int v6), (4, .int u4), (0, .ref o_t), (1, .int x1), (2, .int s.1)]) C dX0_onlyWays_62 rfl (by decide) (by decide) (fun _ => rfl) h (fun v6 h => ?_)
        refine g_goto (pc := 65) (tgt := 9) C dX0_onlyWays_65 (by decide) ?_
        refine g_sub [2, 3, 4, 0] rfl ?_
        exact ih _ h
      · refine g_iload_n (pc := 56) C dX0_onlyWays_56 rfl 3 rfl ?_
        refine g_iconst (pc := 57) (v := 1) C dX0_onlyWays_57 (by decide) ?_
        refine g_iload_n (pc := 58) C dX0_onlyWays_58 rfl 4 rfl ?_
        refine g_ishl (pc := 59) C dX0_onlyWays_59 ?_
        refine g_ior (pc := 60) C dX0_onlyWays_60 ?_
        refine g_nm h (fun v7 h => ?_)
        refine g_istore_n (pc := 61) (lv' := [(2, .int v7), (4, .int u4), (0, .ref o_t), (1, .int x1), (3, .int s.2)]) C dX0_onlyWays_61 rfl (by decide) rfl ?_
        refine g_iincn (pc := 62) (j := 4) (d := 1) (lv' := fun v8 => [(3, .int v8), (2, .int v7), (4, .int u4), (0, .ref o_t), (1, .int x1)]) C dX0_onlyWays_62 rfl (by decide) (by decide) (fun _ => rfl) h (fun v8 h => ?_)
        refine g_goto (pc := 65) (tgt := 9) C dX0_onlyWays_65 (by decide) ?_
        refine g_sub [3, 4, 1, 0] rfl ?_
        exact ih _ h
set_option maxHeartbeats 4000000 in
set_option maxRecDepth 100000 in
theorem c_X0_onlyWays (l : Launch) (E : GE) (o_t : Nat) (a_t : Nat → Nat) (t_told : Int32) (t_barred : Int32) (t_one : (Nat → Int32)) (t_other : (Nat → Int32)) (r : Int32) (h : f_X0_onlyWays t_told t_barred t_one t_other = some r) : Cn l E yX0_onlyWays cX0_onlyWays 5 (some .int) 2 0 0 [.ref o_t] (W_X0_onlyWays E o_t a_t t_told t_barred t_one t_other) (fun w => w = (W_X0_onlyWays E o_t a_t t_told t_barred t_one t_other)) (some (.int r)) := by
  refine Cn.ofI (by decide +kernel) (Nat.le_of_ble_eq_true rfl) (fun X hX hR C hret => ?_)
  subst hX
  show Gx X E 0 0 (W_X0_onlyWays E o_t a_t t_told t_barred t_one t_other) 0 [(0, .ref o_t)] []
  unfold f_X0_onlyWays at h
  refine g_aload_n (pc := 0) C dX0_onlyWays_0 rfl 0 rfl ?_
  obtain ⟨u1, hu1, h⟩ := bs h
  refine g_callV (pc := 1) (st := []) (st1 := [.int u1]) (ws' := (W_X0_onlyWays E o_t a_t t_told t_barred t_one t_other)) C mv_X0_unbarred mi_X0_unbarred ml_X0_55 (c_X0_unbarred X.2.1 E o_t a_t t_told t_barred u1 hu1) dX0_onlyWays_1 (by decide) rfl (Nat.le_of_ble_eq_true rfl) 0 0 rfl rfl [0] rfl (by decide) rfl rfl rfl rfl ?_
  refine g_istore_n (pc := 4) (lv' := [(1, .int u1), (0, .ref o_t)]) C dX0_onlyWays_4 rfl (by decide) rfl ?_
  refine g_iconst (pc := 5) (v := 0) C dX0_onlyWays_5 (by decide) ?_
  refine g_istore_n (pc := 6) (lv' := [(2, .int (0 : Int32)), (1, .int u1), (0, .ref o_t)]) C dX0_onlyWays_6 rfl (by decide) rfl ?_
  refine g_iconst (pc := 7) (v := 0) C dX0_onlyWays_7 (by decide) ?_
  refine g_istore_n (pc := 8) (lv' := [(3, .int (0 : Int32)), (2, .int (0 : Int32)), (1, .int u1), (0, .ref o_t)]) C dX0_onlyWays_8 rfl (by decide) rfl ?_
  refine g_sub [3, 2, 1, 0] rfl ?_
  refine kL_X0_onlyWays_9 C o_t a_t t_told t_barred t_one t_other u1 hret  _ _ h
abbrev W_X0_opensAll (E : GE) (O_t : Nat) (a_t : Nat → Nat) (t_told : Int32) (t_barred : Int32) (t_fits : (Nat → Int32)) : va_W := [(O_t, ob_X0 a_t t_told t_barred), (a_t 3, .inl (E.2.1, 24, .inl t_fits))]
def L_X0_opensAll_2 (t_told : Int32) (t_fits : (Nat → Int32)) (x1 : Int32) : Nat → Int32 → Option (Int32) := lp fun go s => if (24 : Int32) ≤ s then (some (1 : Int32)) else (f_X0_isTold t_told s).bind fun u1 => if u1 = 0 then (nm (s + (1 : Int32)) fun v2 => go v2) else rd t_fits 24 s fun v3 => if (v3 &&& x1) = 0 then (some (0 : Int32)) else nm (s + (1 : Int32)) fun v4 => go v4
def f_X0_opensAll (t_told : Int32) (t_fits : (Nat → Int32)) (x1 : Int32) : Option (Int32) := L_X0_opensAll_2 t_told t_fits x1 fu (0 : Int32)
theorem dX0_opensAll_0 : decode cX0_opensAll 0 = .ok (.iconst 0, 1) := by decide +kernel
theorem dX0_opensAll_1 : decode cX0_opensAll 1 = .ok (.istore_n 2, 1) := by decide +kernel
theorem dX0_opensAll_2 : decode cX0_opensAll 2 = .ok (.iload_n 2, 1) := by decide +kernel
theorem dX0_opensAll_3 : decode cX0_opensAll 3 = .ok (.bipush 24, 2) := by decide +kernel
theorem dX0_opensAll_5 : decode cX0_opensAll 5 = .ok (.if_icmp .ge 30, 3) := by decide +kernel
theorem dX0_opensAll_8 : decode cX0_opensAll 8 = .ok (.aload_n 0, 1) := by decide +kernel
theorem dX0_opensAll_9 : decode cX0_opensAll 9 = .ok (.iload_n 2, 1) := by decide +kernel
theorem dX0_opensAll_10 : decode cX0_opensAll 10 = .ok (.invokevirtual 38, 3) := by decide +kernel
theorem dX0_opensAll_13 : decode cX0_opensAll 13 = .ok (.ifCond .eq 16, 3) := by decide +kernel
theorem dX0_opensAll_16 : decode cX0_opensAll 16 = .ok (.aload_n 0, 1) := by decide +kernel
theorem dX0_opensAll_17 : decode cX0_opensAll 17 = .ok (.getfield 21, 3) := by decide +kernel
theorem dX0_opensAll_20 : decode cX0_opensAll 20 = .ok (.iload_n 2, 1) := by decide +kernel
theorem dX0_opensAll_21 : decode cX0_opensAll 21 = .ok (.iaload, 1) := by decide +kernel
theorem dX0_opensAll_22 : decode cX0_opensAll 22 = .ok (.iload_n 1, 1) := by decide +kernel
theorem dX0_opensAll_23 : decode cX0_opensAll 23 = .ok (.iand, 1) := by decide +kernel
theorem dX0_opensAll_24 : decode cX0_opensAll 24 = .ok (.ifCond .ne 5, 3) := by decide +kernel
theorem dX0_opensAll_27 : decode cX0_opensAll 27 = .ok (.iconst 0, 1) := by decide +kernel
theorem dX0_opensAll_28 : decode cX0_opensAll 28 = .ok (.ireturn, 1) := by decide +kernel
theorem dX0_opensAll_29 : decode cX0_opensAll 29 = .ok (.iinc 2 1, 3) := by decide +kernel
theorem dX0_opensAll_32 : decode cX0_opensAll 32 = .ok (.goto (-30), 3) := by decide +kernel
theorem dX0_opensAll_35 : decode cX0_opensAll 35 = .ok (.iconst 1, 1) := by decide +kernel
theorem dX0_opensAll_36 : decode cX0_opensAll 36 = .ok (.ireturn, 1) := by decide +kernel
set_option maxHeartbeats 4000000 in
set_option maxRecDepth 100000 in
theorem kL_X0_opensAll_2 {X : GC} {E : GE} (C : Cx X E cX0_opensAll RX0 2 3) (o_t : Nat) (a_t : Nat → Nat) (t_barred : Int32) (t_told : Int32) (t_fits : (Nat → Int32)) (x1 : Int32) {r : Int32} (hret : RtI X E cX0_opensAll .boolean 0 0 (fun w => w = (W_X0_opensAll E o_t a_t t_told t_barred t_fits)) r) : ∀ (n : Nat) (s : Int32), L_X0_opensAll_2 t_told t_fits x1 n s = some r → Gx X E 0 0 (W_X0_opensAll E o_t a_t t_told t_barred t_fits) 2 [(0, .ref o_t), (1, .int x1), (2, .int s)] [] := by
  unfold L_X0_opensAll_2
  refine lp_ind _ (fun go ih s h => ?_)
  refine g_iload_n (pc := 2) C dX0_opensAll_2 rfl 2 rfl ?_
  refine g_bipush (pc := 3) (v := 24) C dX0_opensAll_3 (by decide) ?_
  refine g_icmp_ge (pc := 5) (tgt := 35) C dX0_opensAll_5 (by decide) h (fun h => ?_) (fun h => ?_)
  · refine g_iconst (pc := 35) (v := 1) C dX0_opensAll_35 (by decide) ?_
    cases h
    exact hret _ _ _ dX0_opensAll_36 nb1 rfl
  · refine g_aload_n (pc := 8) C dX0_opensAll_8 rfl 0 rfl ?_
    refine g_iload_n (pc := 9) C dX0_opensAll_9 rfl 2 rfl ?_
    obtain ⟨u1, hu1, h⟩ := bs h
    refine g_callV (pc := 10) (st := []) (st1 := [.int u1]) (ws' := (W_X0_opensAll E o_t a_t t_told t_barred t_fits)) C mv_X0_isTold mi_X0_isTold ml_X0_38 (c_X0_isTold X.2.1 E o_t a_t t_told t_barred s u1 hu1) dX0_opensAll_10 (by decide) rfl (Nat.le_of_ble_eq_true rfl) 0 0 rfl rfl [0] rfl (by decide) rfl rfl rfl rfl ?_
    refine g_if_eq (pc := 13) (tgt := 29) C dX0_opensAll_13 (by decide) h (fun h => ?_) (fun h => ?_)
    · refine g_iincn (pc := 29) (j := 2) (d := 1) (lv' := fun v2 => [(2, .int v2), (0, .ref o_t), (1, .int x1)]) C dX0_opensAll_29 rfl (by decide) (by decide) (fun _ => rfl) h (fun v2 h => ?_)
      refine g_goto (pc := 32) (tgt := 2) C dX0_opensAll_32 (by decide) ?_
      refine g_sub [1, 2, 0] rfl ?_
      exact ih _ h
    · refine g_aload_n (pc := 16) C dX0_opensAll_16 rfl 0 rfl ?_
      refine g_get (pc := 17) C fl_X0_21 dX0_opensAll_17 0 rfl rfl ?_
      refine g_iload_n (pc := 20) C dX0_opensAll_20 rfl 2 rfl ?_
      refine g_iald (pc := 21) C dX0_opensAll_21 1 rfl h (fun v3 h => ?_)
      refine g_iload_n (pc := 22) C dX0_opensAll_22 rfl 1 rfl ?_
      refine g_iand (pc := 23) C dX0_opensAll_23 ?_
      refine g_if_ne (pc := 24) (tgt := 29) C dX0_opensAll_24 (by decide) h (fun h => ?_) (fun h => ?_)
      · refine g_iincn (pc := 29) (j := 2) (d := 1) (lv' := fun v4 => [(2, .int v4), (0, .ref o_t), (1, .int x1)]) C dX0_opensAll_29 rfl (by decide) (by decide) (fun _ => rfl) h (fun v4 h => ?_)
        refine g_goto (pc := 32) (tgt := 2) C dX0_opensAll_32 (by decide) ?_
        refine g_sub [1, 2, 0] rfl ?_
        exact ih _ h
      · refine g_iconst (pc := 27) (v := 0) C dX0_opensAll_27 (by decide) ?_
        cases h
        exact hret _ _ _ dX0_opensAll_28 nb0 rfl
set_option maxHeartbeats 4000000 in
set_option maxRecDepth 100000 in
theorem c_X0_opensAll (l : Launch) (E : GE) (o_t : Nat) (a_t : Nat → Nat) (t_told : Int32) (t_barred : Int32) (t_fits : (Nat → Int32)) (x1 : Int32) (r : Int32) (h : f_X0_opensAll t_told t_fits x1 = some r) : Cn l E yX0_opensAll cX0_opensAll 3 (some .boolean) 2 0 0 [.ref o_t, .int x1] (W_X0_opensAll E o_t a_t t_told t_barred t_fits) (fun w => w = (W_X0_opensAll E o_t a_t t_told t_barred t_fits)) (some (.int r)) := by
  refine Cn.ofI (by decide +kernel) (Nat.le_of_ble_eq_true rfl) (fun X hX hR C hret => ?_)
  subst hX
  show Gx X E 0 0 (W_X0_opensAll E o_t a_t t_told t_barred t_fits) 0 [(0, .ref o_t), (1, .int x1)] []
  unfold f_X0_opensAll at h
  refine g_iconst (pc := 0) (v := 0) C dX0_opensAll_0 (by decide) ?_
  refine g_istore_n (pc := 1) (lv' := [(2, .int (0 : Int32)), (0, .ref o_t), (1, .int x1)]) C dX0_opensAll_1 rfl (by decide) rfl ?_
  refine g_sub [1, 2, 0] rfl ?_
  refine kL_X0_opensAll_2 C o_t a_t t_barred t_told t_fits x1 hret  _ _ h
abbrev W_X0_tell (E : GE) (O_t : Nat) (a_t : Nat → Nat) (t_told : Int32) (t_barred : Int32) (t_one : (Nat → Int32)) (t_other : (Nat → Int32)) (t_wards : (Nat → Int32)) : va_W := [(O_t, ob_X0 a_t t_told t_barred), (a_t 0, .inl (E.2.1, 24, .inl t_one)), (a_t 1, .inl (E.2.1, 24, .inl t_other)), (a_t 2, .inl (E.2.1, 24, .inl t_wards))]
def f_X0_tell (t_told : Int32) (t_barred : Int32) (t_one : (Nat → Int32)) (t_other : (Nat → Int32)) (t_wards : (Nat → Int32)) (x1 : Int32) (x2 : Int32) (x3 : Int32) (x4 : Int32) : Option (Int32 × Int32 × (Nat → Int32) × (Nat → Int32) × (Nat → Int32)) := (f_X11_isWithin x1 (0 : Int32) (23 : Int32)).bind fun u1 => if u1 = 0 then (some (t_told, t_barred, t_one, t_other, t_wards)) else wr t_one 24 x1 x2 fun g2 => wr t_other 24 x1 x3 fun g3 => wr t_wards 24 x1 x4 fun g4 => nm (t_told ||| ((1 : Int32) <<< (x1 &&& 31))) fun v5 => nm (t_barred &&& (((1 : Int32) <<< (x1 &&& 31)) ^^^ (-1 : Int32))) fun v6 => some (v5, v6, g2, g3, g4)
theorem dX0_tell_0 : decode cX0_tell 0 = .ok (.iload_n 1, 1) := by decide +kernel
theorem dX0_tell_1 : decode cX0_tell 1 = .ok (.iconst 0, 1) := by decide +kernel
theorem dX0_tell_2 : decode cX0_tell 2 = .ok (.bipush 23, 2) := by decide +kernel
theorem dX0_tell_4 : decode cX0_tell 4 = .ok (.invokestatic 34, 3) := by decide +kernel
theorem dX0_tell_7 : decode cX0_tell 7 = .ok (.ifCond .eq 51, 3) := by decide +kernel
theorem dX0_tell_10 : decode cX0_tell 10 = .ok (.aload_n 0, 1) := by decide +kernel
theorem dX0_tell_11 : decode cX0_tell 11 = .ok (.getfield 9, 3) := by decide +kernel
theorem dX0_tell_14 : decode cX0_tell 14 = .ok (.iload_n 1, 1) := by decide +kernel
theorem dX0_tell_15 : decode cX0_tell 15 = .ok (.iload_n 2, 1) := by decide +kernel
theorem dX0_tell_16 : decode cX0_tell 16 = .ok (.iastore, 1) := by decide +kernel
theorem dX0_tell_17 : decode cX0_tell 17 = .ok (.aload_n 0, 1) := by decide +kernel
theorem dX0_tell_18 : decode cX0_tell 18 = .ok (.getfield 15, 3) := by decide +kernel
theorem dX0_tell_21 : decode cX0_tell 21 = .ok (.iload_n 1, 1) := by decide +kernel
theorem dX0_tell_22 : decode cX0_tell 22 = .ok (.iload_n 3, 1) := by decide +kernel
theorem dX0_tell_23 : decode cX0_tell 23 = .ok (.iastore, 1) := by decide +kernel
theorem dX0_tell_24 : decode cX0_tell 24 = .ok (.aload_n 0, 1) := by decide +kernel
theorem dX0_tell_25 : decode cX0_tell 25 = .ok (.getfield 18, 3) := by decide +kernel
theorem dX0_tell_28 : decode cX0_tell 28 = .ok (.iload_n 1, 1) := by decide +kernel
theorem dX0_tell_29 : decode cX0_tell 29 = .ok (.iload 4, 2) := by decide +kernel
theorem dX0_tell_31 : decode cX0_tell 31 = .ok (.iastore, 1) := by decide +kernel
theorem dX0_tell_32 : decode cX0_tell 32 = .ok (.aload_n 0, 1) := by decide +kernel
theorem dX0_tell_33 : decode cX0_tell 33 = .ok (.dup, 1) := by decide +kernel
theorem dX0_tell_34 : decode cX0_tell 34 = .ok (.getfield 27, 3) := by decide +kernel
theorem dX0_tell_37 : decode cX0_tell 37 = .ok (.iconst 1, 1) := by decide +kernel
theorem dX0_tell_38 : decode cX0_tell 38 = .ok (.iload_n 1, 1) := by decide +kernel
theorem dX0_tell_39 : decode cX0_tell 39 = .ok (.ishl, 1) := by decide +kernel
theorem dX0_tell_40 : decode cX0_tell 40 = .ok (.ior, 1) := by decide +kernel
theorem dX0_tell_41 : decode cX0_tell 41 = .ok (.putfield 27, 3) := by decide +kernel
theorem dX0_tell_44 : decode cX0_tell 44 = .ok (.aload_n 0, 1) := by decide +kernel
theorem dX0_tell_45 : decode cX0_tell 45 = .ok (.dup, 1) := by decide +kernel
theorem dX0_tell_46 : decode cX0_tell 46 = .ok (.getfield 31, 3) := by decide +kernel
theorem dX0_tell_49 : decode cX0_tell 49 = .ok (.iconst 1, 1) := by decide +kernel
theorem dX0_tell_50 : decode cX0_tell 50 = .ok (.iload_n 1, 1) := by decide +kernel
theorem dX0_tell_51 : decode cX0_tell 51 = .ok (.ishl, 1) := by decide +kernel
theorem dX0_tell_52 : decode cX0_tell 52 = .ok (.iconst (-1), 1) := by decide +kernel
theorem dX0_tell_53 : decode cX0_tell 53 = .ok (.ixor, 1) := by decide +kernel
theorem dX0_tell_54 : decode cX0_tell 54 = .ok (.iand, 1) := by decide +kernel
theorem dX0_tell_55 : decode cX0_tell 55 = .ok (.putfield 31, 3) := by decide +kernel
theorem dX0_tell_58 : decode cX0_tell 58 = .ok (.return_, 1) := by decide +kernel
set_option maxHeartbeats 4000000 in
set_option maxRecDepth 100000 in
theorem c_X0_tell (l : Launch) (E : GE) (o_t : Nat) (a_t : Nat → Nat) (t_told : Int32) (t_barred : Int32) (t_one : (Nat → Int32)) (t_other : (Nat → Int32)) (t_wards : (Nat → Int32)) (x1 : Int32) (x2 : Int32) (x3 : Int32) (x4 : Int32) (r : Int32 × Int32 × (Nat → Int32) × (Nat → Int32) × (Nat → Int32)) (h : f_X0_tell t_told t_barred t_one t_other t_wards x1 x2 x3 x4 = some r) : Cn l E yX0_tell cX0_tell 5 none 2 0 0 [.ref o_t, .int x1, .int x2, .int x3, .int x4] (W_X0_tell E o_t a_t t_told t_barred t_one t_other t_wards) (fun w => w = (W_X0_tell E o_t a_t r.1 r.2.1 r.2.2.1 r.2.2.2.1 r.2.2.2.2)) none := by
  refine Cn.ofV (by decide +kernel) (Nat.le_of_ble_eq_true rfl) (fun X hX hR C hret => ?_)
  subst hX
  show Gx X E 0 0 (W_X0_tell E o_t a_t t_told t_barred t_one t_other t_wards) 0 [(0, .ref o_t), (1, .int x1), (2, .int x2), (3, .int x3), (4, .int x4)] []
  unfold f_X0_tell at h
  refine g_iload_n (pc := 0) C dX0_tell_0 rfl 1 rfl ?_
  refine g_iconst (pc := 1) (v := 0) C dX0_tell_1 (by decide) ?_
  refine g_bipush (pc := 2) (v := 23) C dX0_tell_2 (by decide) ?_
  obtain ⟨u1, hu1, h⟩ := bs h
  refine g_callSN (pc := 4) (st := []) (st1 := [.int u1]) (ws' := (W_X0_tell E o_t a_t t_told t_barred t_one t_other t_wards)) C mv_X11_isWithin ms_X11_isWithin mn_X0_34 (c_X11_isWithin X.2.1 E x1 (0 : Int32) (23 : Int32) u1 hu1) dX0_tell_4 (by decide) rfl (Nat.le_of_ble_eq_true rfl) [] rfl (by decide) rfl rfl rfl rfl ?_
  refine g_if_eq (pc := 7) (tgt := 58) C dX0_tell_7 (by decide) h (fun h => ?_) (fun h => ?_)
  · cases h
    exact hret _ _ _ dX0_tell_58 rfl
  · refine g_aload_n (pc := 10) C dX0_tell_10 rfl 0 rfl ?_
    refine g_get (pc := 11) C fl_X0_9 dX0_tell_11 0 rfl rfl ?_
    refine g_iload_n (pc := 14) C dX0_tell_14 rfl 1 rfl ?_
    refine g_iload_n (pc := 15) C dX0_tell_15 rfl 2 rfl ?_
    refine g_iast (pc := 16) C dX0_tell_16 1 rfl h (fun g2 h => ?_)
    refine g_ws (ws' := (W_X0_tell E o_t a_t t_told t_barred g2 t_other t_wards)) rfl ?_
    refine g_aload_n (pc := 17) C dX0_tell_17 rfl 0 rfl ?_
    refine g_get (pc := 18) C fl_X0_15 dX0_tell_18 0 rfl rfl ?_
    refine g_iload_n (pc := 21) C dX0_tell_21 rfl 1 rfl ?_
    refine g_iload_n (pc := 22) C dX0_tell_22 rfl 3 rfl ?_
    refine g_iast (pc := 23) C dX0_tell_23 2 rfl h (fun g3 h => ?_)
    refine g_ws (ws' := (W_X0_tell E o_t a_t t_told t_barred g2 g3 t_wards)) rfl ?_
    refine g_aload_n (pc := 24) C dX0_tell_24 rfl 0 rfl ?_
    refine g_get (pc := 25) C fl_X0_18 dX0_tell_25 0 rfl rfl ?_
    refine g_iload_n (pc := 28) C dX0_tell_28 rfl 1 rfl ?_
    refine g_iload (pc := 29) C dX0_tell_29 4 rfl ?_
    refine g_iast (pc := 31) C dX0_tell_31 3 rfl h (fun g4 h => ?_)
    refine g_ws (ws' := (W_X0_tell E o_t a_t t_told t_barred g2 g3 g4)) rfl ?_
    refine g_aload_n (pc := 32) C dX0_tell_32 rfl 0 rfl ?_
    refine g_dup (pc := 33) C dX0_tell_33 rfl ?_
    refine g_get (pc := 34) C fl_X0_27 dX0_tell_34 0 rfl rfl ?_
    refine g_iconst (pc := 37) (v := 1) C dX0_tell_37 (by decide) ?_
    refine g_iload_n (pc := 38) C dX0_tell_38 rfl 1 rfl ?_
    refine g_ishl (pc := 39) C dX0_tell_39 ?_
    refine g_ior (pc := 40) C dX0_tell_40 ?_
    refine g_nm h (fun v5 h => ?_)
    refine g_put (pc := 41) (ws' := (W_X0_tell E o_t a_t v5 t_barred g2 g3 g4)) C .int fl_X0_27 dX0_tell_41 0 rfl (by decide +kernel) rfl rfl (Nat.le_of_ble_eq_true rfl) rfl ?_
    refine g_aload_n (pc := 44) C dX0_tell_44 rfl 0 rfl ?_
    refine g_dup (pc := 45) C dX0_tell_45 rfl ?_
    refine g_get (pc := 46) C fl_X0_31 dX0_tell_46 0 rfl rfl ?_
    refine g_iconst (pc := 49) (v := 1) C dX0_tell_49 (by decide) ?_
    refine g_iload_n (pc := 50) C dX0_tell_50 rfl 1 rfl ?_
    refine g_ishl (pc := 51) C dX0_tell_51 ?_
    refine g_iconst (pc := 52) (v := -1) C dX0_tell_52 (by decide) ?_
    refine g_ixor (pc := 53) C dX0_tell_53 ?_
    refine g_iand (pc := 54) C dX0_tell_54 ?_
    refine g_nm h (fun v6 h => ?_)
    refine g_put (pc := 55) (ws' := (W_X0_tell E o_t a_t v5 v6 g2 g3 g4)) C .int fl_X0_31 dX0_tell_55 0 rfl (by decide +kernel) rfl rfl (Nat.le_of_ble_eq_true rfl) rfl ?_
    cases h
    exact hret _ _ _ dX0_tell_58 rfl
abbrev W_X0_fewestKinds (E : GE) (O_t : Nat) (a_t : Nat → Nat) (t_told : Int32) (t_barred : Int32) (t_fits : (Nat → Int32)) : va_W := [(O_t, ob_X0 a_t t_told t_barred), (a_t 3, .inl (E.2.1, 24, .inl t_fits))]
def L_X0_fewestKinds_4 (t_told : Int32) (t_fits : (Nat → Int32)) : Nat → Int32 × Int32 → Option (Int32) := lp fun go s => if (64 : Int32) ≤ s.2 then (some s.1) else jn (fun s1 : Int32 => if s1 = 0 then (nm (s.2 + (1 : Int32)) fun v2 => go (s.1, v2)) else (f_X0_opensAll t_told t_fits s.2).bind fun u3 => if u3 = 0 then (nm (s.2 + (1 : Int32)) fun v4 => go (s.1, v4)) else nm (s.2 + (1 : Int32)) fun v5 => go (s.2, v5)) fun j31 => jn (fun s6 : Unit => j31 (1 : Int32)) fun j26 => if s.1 = (-1 : Int32) then (j26 ()) else (f_J6_bitCount_0f7a4 s.2).bind fun u7 => (f_J6_bitCount_0f7a4 s.1).bind fun u8 => if u8 ≤ u7 then (j31 (0 : Int32)) else j26 ()
def f_X0_fewestKinds (t_told : Int32) (t_fits : (Nat → Int32)) : Option (Int32) := L_X0_fewestKinds_4 t_told t_fits fu ((-1 : Int32), (0 : Int32))
theorem dX0_fewestKinds_0 : decode cX0_fewestKinds 0 = .ok (.iconst (-1), 1) := by decide +kernel
theorem dX0_fewestKinds_1 : decode cX0_fewestKinds 1 = .ok (.istore_n 1, 1) := by decide +kernel
theorem dX0_fewestKinds_2 : decode cX0_fewestKinds 2 = .ok (.iconst 0, 1) := by decide +kernel
theorem dX0_fewestKinds_3 : decode cX0_fewestKinds 3 = .ok (.istore_n 2, 1) := by decide +kernel
theorem dX0_fewestKinds_4 : decode cX0_fewestKinds 4 = .ok (.iload_n 2, 1) := by decide +kernel
theorem dX0_fewestKinds_5 : decode cX0_fewestKinds 5 = .ok (.bipush 64, 2) := by decide +kernel
theorem dX0_fewestKinds_7 : decode cX0_fewestKinds 7 = .ok (.if_icmp .ge 45, 3) := by decide +kernel
theorem dX0_fewestKinds_10 : decode cX0_fewestKinds 10 = .ok (.iload_n 1, 1) := by decide +kernel
theorem dX0_fewestKinds_11 : decode cX0_fewestKinds 11 = .ok (.iconst (-1), 1) := by decide +kernel
theorem dX0_fewestKinds_12 : decode cX0_fewestKinds 12 = .ok (.if_icmp .eq 14, 3) := by decide +kernel
theorem dX0_fewestKinds_15 : decode cX0_fewestKinds 15 = .ok (.iload_n 2, 1) := by decide +kernel
theorem dX0_fewestKinds_16 : decode cX0_fewestKinds 16 = .ok (.invokestatic 46, 3) := by decide +kernel
theorem dX0_fewestKinds_19 : decode cX0_fewestKinds 19 = .ok (.iload_n 1, 1) := by decide +kernel
theorem dX0_fewestKinds_20 : decode cX0_fewestKinds 20 = .ok (.invokestatic 46, 3) := by decide +kernel
theorem dX0_fewestKinds_23 : decode cX0_fewestKinds 23 = .ok (.if_icmp .ge 7, 3) := by decide +kernel
theorem dX0_fewestKinds_26 : decode cX0_fewestKinds 26 = .ok (.iconst 1, 1) := by decide +kernel
theorem dX0_fewestKinds_27 : decode cX0_fewestKinds 27 = .ok (.goto 4, 3) := by decide +kernel
theorem dX0_fewestKinds_30 : decode cX0_fewestKinds 30 = .ok (.iconst 0, 1) := by decide +kernel
theorem dX0_fewestKinds_31 : decode cX0_fewestKinds 31 = .ok (.istore_n 3, 1) := by decide +kernel
theorem dX0_fewestKinds_32 : decode cX0_fewestKinds 32 = .ok (.iload_n 3, 1) := by decide +kernel
theorem dX0_fewestKinds_33 : decode cX0_fewestKinds 33 = .ok (.ifCond .eq 13, 3) := by decide +kernel
theorem dX0_fewestKinds_36 : decode cX0_fewestKinds 36 = .ok (.aload_n 0, 1) := by decide +kernel
theorem dX0_fewestKinds_37 : decode cX0_fewestKinds 37 = .ok (.iload_n 2, 1) := by decide +kernel
theorem dX0_fewestKinds_38 : decode cX0_fewestKinds 38 = .ok (.invokevirtual 52, 3) := by decide +kernel
theorem dX0_fewestKinds_41 : decode cX0_fewestKinds 41 = .ok (.ifCond .eq 5, 3) := by decide +kernel
theorem dX0_fewestKinds_44 : decode cX0_fewestKinds 44 = .ok (.iload_n 2, 1) := by decide +kernel
theorem dX0_fewestKinds_45 : decode cX0_fewestKinds 45 = .ok (.istore_n 1, 1) := by decide +kernel
theorem dX0_fewestKinds_46 : decode cX0_fewestKinds 46 = .ok (.iinc 2 1, 3) := by decide +kernel
theorem dX0_fewestKinds_49 : decode cX0_fewestKinds 49 = .ok (.goto (-45), 3) := by decide +kernel
theorem dX0_fewestKinds_52 : decode cX0_fewestKinds 52 = .ok (.iload_n 1, 1) := by decide +kernel
theorem dX0_fewestKinds_53 : decode cX0_fewestKinds 53 = .ok (.ireturn, 1) := by decide +kernel
set_option maxHeartbeats 4000000 in
set_option maxRecDepth 100000 in
theorem kL_X0_fewestKinds_4 {X : GC} {E : GE} (C : Cx X E cX0_fewestKinds RX0 3 4) (o_t : Nat) (a_t : Nat → Nat) (t_barred : Int32) (t_told : Int32) (t_fits : (Nat → Int32)) {r : Int32} (hret : RtI X E cX0_fewestKinds .int 0 0 (fun w => w = (W_X0_fewestKinds E o_t a_t t_told t_barred t_fits)) r) : ∀ (n : Nat) (s : Int32 × Int32), L_X0_fewestKinds_4 t_told t_fits n s = some r → Gx X E 0 0 (W_X0_fewestKinds E o_t a_t t_told t_barred t_fits) 4 [(0, .ref o_t), (1, .int s.1), (2, .int s.2)] [] := by
  unfold L_X0_fewestKinds_4
  refine lp_ind _ (fun go ih s h => ?_)
  refine g_iload_n (pc := 4) C dX0_fewestKinds_4 rfl 2 rfl ?_
  refine g_bipush (pc := 5) (v := 64) C dX0_fewestKinds_5 (by decide) ?_
  refine g_icmp_ge (pc := 7) (tgt := 52) C dX0_fewestKinds_7 (by decide) h (fun h => ?_) (fun h => ?_)
  · refine g_iload_n (pc := 52) C dX0_fewestKinds_52 rfl 1 rfl ?_
    cases h
    exact hret _ _ _ dX0_fewestKinds_53 rfl rfl
  · refine g_iload_n (pc := 10) C dX0_fewestKinds_10 rfl 1 rfl ?_
    refine g_iconst (pc := 11) (v := -1) C dX0_fewestKinds_11 (by decide) ?_
    refine g_jn (fun s1 : Int32 => Gx X E 0 0 (W_X0_fewestKinds E o_t a_t t_told t_barred t_fits) 31 [(0, .ref o_t), (1, .int s.1), (2, .int s.2)] [.int s1]) h (fun s1 h => ?_) (fun j31 hj31 h => ?_)
    · refine g_istore_n (pc := 31) (lv' := [(3, .int s1), (0, .ref o_t), (1, .int s.1), (2, .int s.2)]) C dX0_fewestKinds_31 rfl (by decide) rfl ?_
      refine g_iload_n (pc := 32) C dX0_fewestKinds_32 rfl 0 rfl ?_
      refine g_if_eq (pc := 33) (tgt := 46) C dX0_fewestKinds_33 (by decide) h (fun h => ?_) (fun h => ?_)
      · refine g_iincn (pc := 46) (j := 3) (d := 1) (lv' := fun v2 => [(2, .int v2), (3, .int s1), (0, .ref o_t), (1, .int s.1)]) C dX0_fewestKinds_46 rfl (by decide) (by decide) (fun _ => rfl) h (fun v2 h => ?_)
        refine g_goto (pc := 49) (tgt := 4) C dX0_fewestKinds_49 (by decide) ?_
        refine g_sub [2, 3, 0] rfl ?_
        exact ih _ h
      · refine g_aload_n (pc := 36) C dX0_fewestKinds_36 rfl 1 rfl ?_
        refine g_iload_n (pc := 37) C dX0_fewestKinds_37 rfl 3 rfl ?_
        obtain ⟨u3, hu3, h⟩ := bs h
        refine g_callV (pc := 38) (st := []) (st1 := [.int u3]) (ws' := (W_X0_fewestKinds E o_t a_t t_told t_barred t_fits)) C mv_X0_opensAll mi_X0_opensAll ml_X0_52 (c_X0_opensAll X.2.1 E o_t a_t t_told t_barred t_fits s.2 u3 hu3) dX0_fewestKinds_38 (by decide) rfl (Nat.le_of_ble_eq_true rfl) 0 0 rfl rfl [0, 1] rfl (by decide) rfl rfl rfl rfl ?_
        refine g_if_eq (pc := 41) (tgt := 46) C dX0_fewestKinds_41 (by decide) h (fun h => ?_) (fun h => ?_)
        · refine g_iincn (pc := 46) (j := 3) (d := 1) (lv' := fun v4 => [(2, .int v4), (3, .int s1), (0, .ref o_t), (1, .int s.1)]) C dX0_fewestKinds_46 rfl (by decide) (by decide) (fun _ => rfl) h (fun v4 h => ?_)
          refine g_goto (pc := 49) (tgt := 4) C dX0_fewestKinds_49 (by decide) ?_
          refine g_sub [2, 3, 0] rfl ?_
          exact ih _ h
        · refine g_iload_n (pc := 44) C dX0_fewestKinds_44 rfl 3 rfl ?_
          refine g_istore_n (pc := 45) (lv' := [(1, .int s.2), (3, .int s1), (0, .ref o_t), (2, .int s.2)]) C dX0_fewestKinds_45 rfl (by decide) rfl ?_
          refine g_iincn (pc := 46) (j := 3) (d := 1) (lv' := fun v5 => [(2, .int v5), (1, .int s.2), (3, .int s1), (0, .ref o_t)]) C dX0_fewestKinds_46 rfl (by decide) (by decide) (fun _ => rfl) h (fun v5 h => ?_)
          refine g_goto (pc := 49) (tgt := 4) C dX0_fewestKinds_49 (by decide) ?_
          refine g_sub [3, 1, 0] rfl ?_
          exact ih _ h
    refine g_jn (fun s6 : Unit => Gx X E 0 0 (W_X0_fewestKinds E o_t a_t t_told t_barred t_fits) 26 [(0, .ref o_t), (1, .int s.1), (2, .int s.2)] []) h (fun s6 h => ?_) (fun j26 hj26 h => ?_)
    · refine g_iconst (pc := 26) (v := 1) C dX0_fewestKinds_26 (by decide) ?_
      refine g_goto (pc := 27) (tgt := 31) C dX0_fewestKinds_27 (by decide) ?_
      exact hj31 _ h
    refine g_icmp_eq (pc := 12) (tgt := 26) C dX0_fewestKinds_12 (by decide) h (fun h => ?_) (fun h => ?_)
    · exact hj26 _ h
    · refine g_iload_n (pc := 15) C dX0_fewestKinds_15 rfl 2 rfl ?_
      obtain ⟨u7, hu7, h⟩ := bs h
      refine g_callS (pc := 16) (st := []) (st1 := [.int u7]) (ws' := (W_X0_fewestKinds E o_t a_t t_told t_barred t_fits)) C mv_J6_bitCount_0f7a4 ms_J6_bitCount_0f7a4 ml_X0_46 (c_J6_bitCount_0f7a4 X.2.1 E s.2 u7 hu7) dX0_fewestKinds_16 (by decide) rfl (Nat.le_of_ble_eq_true rfl) [] rfl (by decide) rfl rfl rfl rfl ?_
      refine g_iload_n (pc := 19) C dX0_fewestKinds_19 rfl 1 rfl ?_
      obtain ⟨u8, hu8, h⟩ := bs h
      refine g_callS (pc := 20) (st := [.int u7]) (st1 := [.int u8, .int u7]) (ws' := (W_X0_fewestKinds E o_t a_t t_told t_barred t_fits)) C mv_J6_bitCount_0f7a4 ms_J6_bitCount_0f7a4 ml_X0_46 (c_J6_bitCount_0f7a4 X.2.1 E s.1 u8 hu8) dX0_fewestKinds_20 (by decide) rfl (Nat.le_of_ble_eq_true rfl) [] rfl (by decide) rfl rfl rfl rfl ?_
      refine g_icmp_ge (pc := 23) (tgt := 30) C dX0_fewestKinds_23 (by decide) h (fun h => ?_) (fun h => ?_)
      · refine g_iconst (pc := 30) (v := 0) C dX0_fewestKinds_30 (by decide) ?_
        exact hj31 _ h
      · exact hj26 _ h
set_option maxHeartbeats 4000000 in
set_option maxRecDepth 100000 in
theorem c_X0_fewestKinds (l : Launch) (E : GE) (o_t : Nat) (a_t : Nat → Nat) (t_told : Int32) (t_barred : Int32) (t_fits : (Nat → Int32)) (r : Int32) (h : f_X0_fewestKinds t_told t_fits = some r) : Cn l E yX0_fewestKinds cX0_fewestKinds 4 (some .int) 3 0 0 [.ref o_t] (W_X0_fewestKinds E o_t a_t t_told t_barred t_fits) (fun w => w = (W_X0_fewestKinds E o_t a_t t_told t_barred t_fits)) (some (.int r)) := by
  refine Cn.ofI (by decide +kernel) (Nat.le_of_ble_eq_true rfl) (fun X hX hR C hret => ?_)
  subst hX
  show Gx X E 0 0 (W_X0_fewestKinds E o_t a_t t_told t_barred t_fits) 0 [(0, .ref o_t)] []
  unfold f_X0_fewestKinds at h
  refine g_iconst (pc := 0) (v := -1) C dX0_fewestKinds_0 (by decide) ?_
  refine g_istore_n (pc := 1) (lv' := [(1, .int (-1 : Int32)), (0, .ref o_t)]) C dX0_fewestKinds_1 rfl (by decide) rfl ?_
  refine g_iconst (pc := 2) (v := 0) C dX0_fewestKinds_2 (by decide) ?_
  refine g_istore_n (pc := 3) (lv' := [(2, .int (0 : Int32)), (1, .int (-1 : Int32)), (0, .ref o_t)]) C dX0_fewestKinds_3 rfl (by decide) rfl ?_
  refine g_sub [2, 1, 0] rfl ?_
  refine kL_X0_fewestKinds_4 C o_t a_t t_barred t_told t_fits hret  _ _ h
abbrev W_X0_ofRoom (E : GE) (O_t : Nat) (a_t : Nat → Nat) (t_told : Int32) (t_barred : Int32) (t_one : (Nat → Int32)) (t_other : (Nat → Int32)) : va_W := [(O_t, ob_X0 a_t t_told t_barred), (a_t 0, .inl (E.2.1, 24, .inl t_one)), (a_t 1, .inl (E.2.1, 24, .inl t_other))]
def L_X0_ofRoom_4 (t_told : Int32) (t_one : (Nat → Int32)) (t_other : (Nat → Int32)) (x1 : Int32) : Nat → Int32 × Int32 → Option (Int32) := lp fun go s => if (24 : Int32) ≤ s.2 then (some s.1) else (f_X0_behind t_told t_one t_other s.2 x1).bind fun u1 => if u1 = (-1 : Int32) then (nm (s.2 + (1 : Int32)) fun v2 => go (s.1, v2)) else nm (s.1 ||| ((1 : Int32) <<< (s.2 &&& 31))) fun v3 => nm (s.2 + (1 : Int32)) fun v4 => go (v3, v4)
def f_X0_ofRoom (t_told : Int32) (t_one : (Nat → Int32)) (t_other : (Nat → Int32)) (x1 : Int32) : Option (Int32) := L_X0_ofRoom_4 t_told t_one t_other x1 fu ((0 : Int32), (0 : Int32))
theorem dX0_ofRoom_0 : decode cX0_ofRoom 0 = .ok (.iconst 0, 1) := by decide +kernel
theorem dX0_ofRoom_1 : decode cX0_ofRoom 1 = .ok (.istore_n 2, 1) := by decide +kernel
theorem dX0_ofRoom_2 : decode cX0_ofRoom 2 = .ok (.iconst 0, 1) := by decide +kernel
theorem dX0_ofRoom_3 : decode cX0_ofRoom 3 = .ok (.istore_n 3, 1) := by decide +kernel
theorem dX0_ofRoom_4 : decode cX0_ofRoom 4 = .ok (.iload_n 3, 1) := by decide +kernel
theorem dX0_ofRoom_5 : decode cX0_ofRoom 5 = .ok (.bipush 24, 2) := by decide +kernel
theorem dX0_ofRoom_7 : decode cX0_ofRoom 7 = .ok (.if_icmp .ge 25, 3) := by decide +kernel
theorem dX0_ofRoom_10 : decode cX0_ofRoom 10 = .ok (.aload_n 0, 1) := by decide +kernel
theorem dX0_ofRoom_11 : decode cX0_ofRoom 11 = .ok (.iload_n 3, 1) := by decide +kernel
theorem dX0_ofRoom_12 : decode cX0_ofRoom 12 = .ok (.iload_n 1, 1) := by decide +kernel
theorem dX0_ofRoom_13 : decode cX0_ofRoom 13 = .ok (.invokevirtual 42, 3) := by decide +kernel
theorem dX0_ofRoom_16 : decode cX0_ofRoom 16 = .ok (.iconst (-1), 1) := by decide +kernel
theorem dX0_ofRoom_17 : decode cX0_ofRoom 17 = .ok (.if_icmp .eq 9, 3) := by decide +kernel
theorem dX0_ofRoom_20 : decode cX0_ofRoom 20 = .ok (.iload_n 2, 1) := by decide +kernel
theorem dX0_ofRoom_21 : decode cX0_ofRoom 21 = .ok (.iconst 1, 1) := by decide +kernel
theorem dX0_ofRoom_22 : decode cX0_ofRoom 22 = .ok (.iload_n 3, 1) := by decide +kernel
theorem dX0_ofRoom_23 : decode cX0_ofRoom 23 = .ok (.ishl, 1) := by decide +kernel
theorem dX0_ofRoom_24 : decode cX0_ofRoom 24 = .ok (.ior, 1) := by decide +kernel
theorem dX0_ofRoom_25 : decode cX0_ofRoom 25 = .ok (.istore_n 2, 1) := by decide +kernel
theorem dX0_ofRoom_26 : decode cX0_ofRoom 26 = .ok (.iinc 3 1, 3) := by decide +kernel
theorem dX0_ofRoom_29 : decode cX0_ofRoom 29 = .ok (.goto (-25), 3) := by decide +kernel
theorem dX0_ofRoom_32 : decode cX0_ofRoom 32 = .ok (.iload_n 2, 1) := by decide +kernel
theorem dX0_ofRoom_33 : decode cX0_ofRoom 33 = .ok (.ireturn, 1) := by decide +kernel
set_option maxHeartbeats 4000000 in
set_option maxRecDepth 100000 in
theorem kL_X0_ofRoom_4 {X : GC} {E : GE} (C : Cx X E cX0_ofRoom RX0 3 4) (o_t : Nat) (a_t : Nat → Nat) (t_barred : Int32) (t_told : Int32) (t_one : (Nat → Int32)) (t_other : (Nat → Int32)) (x1 : Int32) {r : Int32} (hret : RtI X E cX0_ofRoom .int 0 0 (fun w => w = (W_X0_ofRoom E o_t a_t t_told t_barred t_one t_other)) r) : ∀ (n : Nat) (s : Int32 × Int32), L_X0_ofRoom_4 t_told t_one t_other x1 n s = some r → Gx X E 0 0 (W_X0_ofRoom E o_t a_t t_told t_barred t_one t_other) 4 [(0, .ref o_t), (1, .int x1), (2, .int s.1), (3, .int s.2)] [] := by
  unfold L_X0_ofRoom_4
  refine lp_ind _ (fun go ih s h => ?_)
  refine g_iload_n (pc := 4) C dX0_ofRoom_4 rfl 3 rfl ?_
  refine g_bipush (pc := 5) (v := 24) C dX0_ofRoom_5 (by decide) ?_
  refine g_icmp_ge (pc := 7) (tgt := 32) C dX0_ofRoom_7 (by decide) h (fun h => ?_) (fun h => ?_)
  · refine g_iload_n (pc := 32) C dX0_ofRoom_32 rfl 2 rfl ?_
    cases h
    exact hret _ _ _ dX0_ofRoom_33 rfl rfl
  · refine g_aload_n (pc := 10) C dX0_ofRoom_10 rfl 0 rfl ?_
    refine g_iload_n (pc := 11) C dX0_ofRoom_11 rfl 3 rfl ?_
    refine g_iload_n (pc := 12) C dX0_ofRoom_12 rfl 1 rfl ?_
    obtain ⟨u1, hu1, h⟩ := bs h
    refine g_callV (pc := 13) (st := []) (st1 := [.int u1]) (ws' := (W_X0_ofRoom E o_t a_t t_told t_barred t_one t_other)) C mv_X0_behind mi_X0_behind ml_X0_42 (c_X0_behind X.2.1 E o_t a_t t_told t_barred t_one t_other s.2 x1 u1 hu1) dX0_ofRoom_13 (by decide) rfl (Nat.le_of_ble_eq_true rfl) 0 0 rfl rfl [0, 1, 2] rfl (by decide) rfl rfl rfl rfl ?_
    refine g_iconst (pc := 16) (v := -1) C dX0_ofRoom_16 (by decide) ?_
    refine g_icmp_eq (pc := 17) (tgt := 26) C dX0_ofRoom_17 (by decide) h (fun h => ?_) (fun h => ?_)
    · refine g_iincn (pc := 26) (j := 3) (d := 1) (lv' := fun v2 => [(3, .int v2), (0, .ref o_t), (1, .int x1), (2, .int s.1)]) C dX0_ofRoom_26 rfl (by decide) (by decide) (fun _ => rfl) h (fun v2 h => ?_)
      refine g_goto (pc := 29) (tgt := 4) C dX0_ofRoom_29 (by decide) ?_
      refine g_sub [1, 2, 3, 0] rfl ?_
      exact ih _ h
    · refine g_iload_n (pc := 20) C dX0_ofRoom_20 rfl 2 rfl ?_
      refine g_iconst (pc := 21) (v := 1) C dX0_ofRoom_21 (by decide) ?_
      refine g_iload_n (pc := 22) C dX0_ofRoom_22 rfl 3 rfl ?_
      refine g_ishl (pc := 23) C dX0_ofRoom_23 ?_
      refine g_ior (pc := 24) C dX0_ofRoom_24 ?_
      refine g_nm h (fun v3 h => ?_)
      refine g_istore_n (pc := 25) (lv' := [(2, .int v3), (0, .ref o_t), (1, .int x1), (3, .int s.2)]) C dX0_ofRoom_25 rfl (by decide) rfl ?_
      refine g_iincn (pc := 26) (j := 3) (d := 1) (lv' := fun v4 => [(3, .int v4), (2, .int v3), (0, .ref o_t), (1, .int x1)]) C dX0_ofRoom_26 rfl (by decide) (by decide) (fun _ => rfl) h (fun v4 h => ?_)
      refine g_goto (pc := 29) (tgt := 4) C dX0_ofRoom_29 (by decide) ?_
      refine g_sub [2, 3, 1, 0] rfl ?_
      exact ih _ h
set_option maxHeartbeats 4000000 in
set_option maxRecDepth 100000 in
theorem c_X0_ofRoom (l : Launch) (E : GE) (o_t : Nat) (a_t : Nat → Nat) (t_told : Int32) (t_barred : Int32) (t_one : (Nat → Int32)) (t_other : (Nat → Int32)) (x1 : Int32) (r : Int32) (h : f_X0_ofRoom t_told t_one t_other x1 = some r) : Cn l E yX0_ofRoom cX0_ofRoom 4 (some .int) 3 0 0 [.ref o_t, .int x1] (W_X0_ofRoom E o_t a_t t_told t_barred t_one t_other) (fun w => w = (W_X0_ofRoom E o_t a_t t_told t_barred t_one t_other)) (some (.int r)) := by
  refine Cn.ofI (by decide +kernel) (Nat.le_of_ble_eq_true rfl) (fun X hX hR C hret => ?_)
  subst hX
  show Gx X E 0 0 (W_X0_ofRoom E o_t a_t t_told t_barred t_one t_other) 0 [(0, .ref o_t), (1, .int x1)] []
  unfold f_X0_ofRoom at h
  refine g_iconst (pc := 0) (v := 0) C dX0_ofRoom_0 (by decide) ?_
  refine g_istore_n (pc := 1) (lv' := [(2, .int (0 : Int32)), (0, .ref o_t), (1, .int x1)]) C dX0_ofRoom_1 rfl (by decide) rfl ?_
  refine g_iconst (pc := 2) (v := 0) C dX0_ofRoom_2 (by decide) ?_
  refine g_istore_n (pc := 3) (lv' := [(3, .int (0 : Int32)), (2, .int (0 : Int32)), (0, .ref o_t), (1, .int x1)]) C dX0_ofRoom_3 rfl (by decide) rfl ?_
  refine g_sub [2, 3, 1, 0] rfl ?_
  refine kL_X0_ofRoom_4 C o_t a_t t_barred t_told t_one t_other x1 hret  _ _ h
