abbrev W_X9_copy (E : GE) (O_t : Nat) (a_t : Nat → Nat) (O_p1 : Nat) (a_p1 : Nat → Nat) (t_told : Int32) (t_round : Int32) (t_x : Int32) (t_rust : (Nat → Int32)) (t_rooms : (Nat → Int32)) (t_hair : (Nat → Int32)) (t_pins : (Nat → Int32)) (p1_told : Int32) (p1_round : Int32) (p1_x : Int32) (p1_rust : (Nat → Int32)) (p1_rooms : (Nat → Int32)) (p1_hair : (Nat → Int32)) (p1_pins : (Nat → Int32)) : va_W := [(O_t, ob_X9 a_t t_told t_round t_x), (a_t 0, .inl (E.2.1, 24, .inl t_rust)), (a_t 1, .inl (E.2.1, 10, .inl t_rooms)), (a_t 2, .inl (E.2.1, 60, .inl t_hair)), (a_t 3, .inl (E.2.1, 60, .inl t_pins)), (O_p1, ob_X9 a_p1 p1_told p1_round p1_x), (a_p1 0, .inl (E.2.1, 24, .inl p1_rust)), (a_p1 1, .inl (E.2.1, 10, .inl p1_rooms)), (a_p1 2, .inl (E.2.1, 60, .inl p1_hair)), (a_p1 3, .inl (E.2.1, 60, .inl p1_pins))]
def f_X9_copy (t_told : Int32) (t_round : Int32) (t_x : Int32) (t_rust : (Nat → Int32)) (t_rooms : (Nat → Int32)) (t_hair : (Nat → Int32)) (t_pins : (Nat → Int32)) (p1_told : Int32) (p1_round : Int32) (p1_x : Int32) (p1_rust : (Nat → Int32)) (p1_rooms : (Nat → Int32)) (p1_hair : (Nat → Int32)) (p1_pins : (Nat → Int32)) : Option (Int32 × Int32 × Int32 × (Nat → Int32) × (Nat → Int32) × (Nat → Int32) × (Nat → Int32)) := cpy p1_rust 24 t_rust 24 (0 : Int32) (0 : Int32) (24 : Int32) fun g1 => cpy p1_rooms 10 t_rooms 10 (0 : Int32) (0 : Int32) (10 : Int32) fun g2 => cpy p1_hair 60 t_hair 60 (0 : Int32) (0 : Int32) (60 : Int32) fun g3 => cpy p1_pins 60 t_pins 60 (0 : Int32) (0 : Int32) (60 : Int32) fun g4 => some (p1_told, p1_round, p1_x, g1, g2, g3, g4)
theorem dX9_copy_0 : decode cX9_copy 0 = .ok (.aload_n 1, 1) := by decide +kernel
theorem dX9_copy_1 : decode cX9_copy 1 = .ok (.getfield 9, 3) := by decide +kernel
theorem dX9_copy_4 : decode cX9_copy 4 = .ok (.iconst 0, 1) := by decide +kernel
theorem dX9_copy_5 : decode cX9_copy 5 = .ok (.aload_n 0, 1) := by decide +kernel
theorem dX9_copy_6 : decode cX9_copy 6 = .ok (.getfield 9, 3) := by decide +kernel
theorem dX9_copy_9 : decode cX9_copy 9 = .ok (.iconst 0, 1) := by decide +kernel
theorem dX9_copy_10 : decode cX9_copy 10 = .ok (.bipush 24, 2) := by decide +kernel
theorem dX9_copy_12 : decode cX9_copy 12 = .ok (.invokestatic 28, 3) := by decide +kernel
theorem dX9_copy_15 : decode cX9_copy 15 = .ok (.aload_n 1, 1) := by decide +kernel
theorem dX9_copy_16 : decode cX9_copy 16 = .ok (.getfield 15, 3) := by decide +kernel
theorem dX9_copy_19 : decode cX9_copy 19 = .ok (.iconst 0, 1) := by decide +kernel
theorem dX9_copy_20 : decode cX9_copy 20 = .ok (.aload_n 0, 1) := by decide +kernel
theorem dX9_copy_21 : decode cX9_copy 21 = .ok (.getfield 15, 3) := by decide +kernel
theorem dX9_copy_24 : decode cX9_copy 24 = .ok (.iconst 0, 1) := by decide +kernel
theorem dX9_copy_25 : decode cX9_copy 25 = .ok (.bipush 10, 2) := by decide +kernel
theorem dX9_copy_27 : decode cX9_copy 27 = .ok (.invokestatic 28, 3) := by decide +kernel
theorem dX9_copy_30 : decode cX9_copy 30 = .ok (.aload_n 1, 1) := by decide +kernel
theorem dX9_copy_31 : decode cX9_copy 31 = .ok (.getfield 18, 3) := by decide +kernel
theorem dX9_copy_34 : decode cX9_copy 34 = .ok (.iconst 0, 1) := by decide +kernel
theorem dX9_copy_35 : decode cX9_copy 35 = .ok (.aload_n 0, 1) := by decide +kernel
theorem dX9_copy_36 : decode cX9_copy 36 = .ok (.getfield 18, 3) := by decide +kernel
theorem dX9_copy_39 : decode cX9_copy 39 = .ok (.iconst 0, 1) := by decide +kernel
theorem dX9_copy_40 : decode cX9_copy 40 = .ok (.bipush 60, 2) := by decide +kernel
theorem dX9_copy_42 : decode cX9_copy 42 = .ok (.invokestatic 28, 3) := by decide +kernel
theorem dX9_copy_45 : decode cX9_copy 45 = .ok (.aload_n 1, 1) := by decide +kernel
theorem dX9_copy_46 : decode cX9_copy 46 = .ok (.getfield 21, 3) := by decide +kernel
theorem dX9_copy_49 : decode cX9_copy 49 = .ok (.iconst 0, 1) := by decide +kernel
theorem dX9_copy_50 : decode cX9_copy 50 = .ok (.aload_n 0, 1) := by decide +kernel
theorem dX9_copy_51 : decode cX9_copy 51 = .ok (.getfield 21, 3) := by decide +kernel
theorem dX9_copy_54 : decode cX9_copy 54 = .ok (.iconst 0, 1) := by decide +kernel
theorem dX9_copy_55 : decode cX9_copy 55 = .ok (.bipush 60, 2) := by decide +kernel
theorem dX9_copy_57 : decode cX9_copy 57 = .ok (.invokestatic 28, 3) := by decide +kernel
theorem dX9_copy_60 : decode cX9_copy 60 = .ok (.aload_n 0, 1) := by decide +kernel
theorem dX9_copy_61 : decode cX9_copy 61 = .ok (.aload_n 1, 1) := by decide +kernel
theorem dX9_copy_62 : decode cX9_copy 62 = .ok (.getfield 34, 3) := by decide +kernel
theorem dX9_copy_65 : decode cX9_copy 65 = .ok (.putfield 34, 3) := by decide +kernel
theorem dX9_copy_68 : decode cX9_copy 68 = .ok (.aload_n 0, 1) := by decide +kernel
theorem dX9_copy_69 : decode cX9_copy 69 = .ok (.aload_n 1, 1) := by decide +kernel
theorem dX9_copy_70 : decode cX9_copy 70 = .ok (.getfield 37, 3) := by decide +kernel
theorem dX9_copy_73 : decode cX9_copy 73 = .ok (.putfield 37, 3) := by decide +kernel
theorem dX9_copy_76 : decode cX9_copy 76 = .ok (.aload_n 0, 1) := by decide +kernel
theorem dX9_copy_77 : decode cX9_copy 77 = .ok (.aload_n 1, 1) := by decide +kernel
theorem dX9_copy_78 : decode cX9_copy 78 = .ok (.getfield 24, 3) := by decide +kernel
theorem dX9_copy_81 : decode cX9_copy 81 = .ok (.putfield 24, 3) := by decide +kernel
theorem dX9_copy_84 : decode cX9_copy 84 = .ok (.return_, 1) := by decide +kernel
set_option maxHeartbeats 4000000 in
set_option maxRecDepth 100000 in
theorem c_X9_copy (l : Launch) (E : GE) (o_t : Nat) (a_t : Nat → Nat) (o_p1 : Nat) (a_p1 : Nat → Nat) (t_told : Int32) (t_round : Int32) (t_x : Int32) (t_rust : (Nat → Int32)) (t_rooms : (Nat → Int32)) (t_hair : (Nat → Int32)) (t_pins : (Nat → Int32)) (p1_told : Int32) (p1_round : Int32) (p1_x : Int32) (p1_rust : (Nat → Int32)) (p1_rooms : (Nat → Int32)) (p1_hair : (Nat → Int32)) (p1_pins : (Nat → Int32)) (r : Int32 × Int32 × Int32 × (Nat → Int32) × (Nat → Int32) × (Nat → Int32) × (Nat → Int32)) (h : f_X9_copy t_told t_round t_x t_rust t_rooms t_hair t_pins p1_told p1_round p1_x p1_rust p1_rooms p1_hair p1_pins = some r) : Cn l E yX9_copy cX9_copy 2 none 1 0 0 [.ref o_t, .ref o_p1] (W_X9_copy E o_t a_t o_p1 a_p1 t_told t_round t_x t_rust t_rooms t_hair t_pins p1_told p1_round p1_x p1_rust p1_rooms p1_hair p1_pins) (fun w => w = (W_X9_copy E o_t a_t o_p1 a_p1 r.1 r.2.1 r.2.2.1 r.2.2.2.1 r.2.2.2.2.1 r.2.2.2.2.2.1 r.2.2.2.2.2.2 p1_told p1_round p1_x p1_rust p1_rooms p1_hair p1_pins)) none := by
  refine Cn.ofV (by decide +kernel) (Nat.le_of_ble_eq_true rfl) (fun X hX hR C hret => ?_)
  subst hX
  show Gx X E 0 0 (W_X9_copy E o_t a_t o_p1 a_p1 t_told t_round t_x t_rust t_rooms t_hair t_pins p1_told p1_round p1_x p1_rust p1_rooms p1_hair p1_pins) 0 [(0, .ref o_t), (1, .ref o_p1)] []
  unfold f_X9_copy at h
  refine g_aload_n (pc := 0) C dX9_copy_0 rfl 1 rfl ?_
  refine g_get (pc := 1) C fl_X9_9 dX9_copy_1 5 rfl rfl ?_
  refine g_iconst (pc := 4) (v := 0) C dX9_copy_4 (by decide) ?_
  refine g_aload_n (pc := 5) C dX9_copy_5 rfl 0 rfl ?_
  refine g_get (pc := 6) C fl_X9_9 dX9_copy_6 0 rfl rfl ?_
  refine g_iconst (pc := 9) (v := 0) C dX9_copy_9 (by decide) ?_
  refine g_bipush (pc := 10) (v := 24) C dX9_copy_10 (by decide) ?_
  refine g_copy (pc := 12) C ml_X9_28 mnat_copy ms_copy mini_System (Nat.le_of_ble_eq_true rfl) dX9_copy_12 6 1 rfl rfl h (fun g1 h => ?_)
  refine g_ws (ws' := (W_X9_copy E o_t a_t o_p1 a_p1 t_told t_round t_x g1 t_rooms t_hair t_pins p1_told p1_round p1_x p1_rust p1_rooms p1_hair p1_pins)) rfl ?_
  refine g_aload_n (pc := 15) C dX9_copy_15 rfl 1 rfl ?_
  refine g_get (pc := 16) C fl_X9_15 dX9_copy_16 5 rfl rfl ?_
  refine g_iconst (pc := 19) (v := 0) C dX9_copy_19 (by decide) ?_
  refine g_aload_n (pc := 20) C dX9_copy_20 rfl 0 rfl ?_
  refine g_get (pc := 21) C fl_X9_15 dX9_copy_21 0 rfl rfl ?_
  refine g_iconst (pc := 24) (v := 0) C dX9_copy_24 (by decide) ?_
  refine g_bipush (pc := 25) (v := 10) C dX9_copy_25 (by decide) ?_
  refine g_copy (pc := 27) C ml_X9_28 mnat_copy ms_copy mini_System (Nat.le_of_ble_eq_true rfl) dX9_copy_27 7 2 rfl rfl h (fun g2 h => ?_)
  refine g_ws (ws' := (W_X9_copy E o_t a_t o_p1 a_p1 t_told t_round t_x g1 g2 t_hair t_pins p1_told p1_round p1_x p1_rust p1_rooms p1_hair p1_pins)) rfl ?_
  refine g_aload_n (pc := 30) C dX9_copy_30 rfl 1 rfl ?_
  refine g_get (pc := 31) C fl_X9_18 dX9_copy_31 5 rfl rfl ?_
  refine g_iconst (pc := 34) (v := 0) C dX9_copy_34 (by decide) ?_
  refine g_aload_n (pc := 35) C dX9_copy_35 rfl 0 rfl ?_
  refine g_get (pc := 36) C fl_X9_18 dX9_copy_36 0 rfl rfl ?_
  refine g_iconst (pc := 39) (v := 0) C dX9_copy_39 (by decide) ?_
  refine g_bipush (pc := 40) (v := 60) C dX9_copy_40 (by decide) ?_
  refine g_copy (pc := 42) C ml_X9_28 mnat_copy ms_copy mini_System (Nat.le_of_ble_eq_true rfl) dX9_copy_42 8 3 rfl rfl h (fun g3 h => ?_)
  refine g_ws (ws' := (W_X9_copy E o_t a_t o_p1 a_p1 t_told t_round t_x g1 g2 g3 t_pins p1_told p1_round p1_x p1_rust p1_rooms p1_hair p1_pins)) rfl ?_
  refine g_aload_n (pc := 45) C dX9_copy_45 rfl 1 rfl ?_
  refine g_get (pc := 46) C fl_X9_21 dX9_copy_46 5 rfl rfl ?_
  refine g_iconst (pc := 49) (v := 0) C dX9_copy_49 (by decide) ?_
  refine g_aload_n (pc := 50) C dX9_copy_50 rfl 0 rfl ?_
  refine g_get (pc := 51) C fl_X9_21 dX9_copy_51 0 rfl rfl ?_
  refine g_iconst (pc := 54) (v := 0) C dX9_copy_54 (by decide) ?_
  refine g_bipush (pc := 55) (v := 60) C dX9_copy_55 (by decide) ?_
  refine g_copy (pc := 57) C ml_X9_28 mnat_copy ms_copy mini_System (Nat.le_of_ble_eq_true rfl) dX9_copy_57 9 4 rfl rfl h (fun g4 h => ?_)
  refine g_ws (ws' := (W_X9_copy E o_t a_t o_p1 a_p1 t_told t_round t_x g1 g2 g3 g4 p1_told p1_round p1_x p1_rust p1_rooms p1_hair p1_pins)) rfl ?_
  refine g_aload_n (pc := 60) C dX9_copy_60 rfl 0 rfl ?_
  refine g_aload_n (pc := 61) C dX9_copy_61 rfl 1 rfl ?_
  refine g_get (pc := 62) C fl_X9_34 dX9_copy_62 5 rfl rfl ?_
  refine g_put (pc := 65) (ws' := (W_X9_copy E o_t a_t o_p1 a_p1 p1_told t_round t_x g1 g2 g3 g4 p1_told p1_round p1_x p1_rust p1_rooms p1_hair p1_pins)) C .int fl_X9_34 dX9_copy_65 0 rfl (by decide +kernel) rfl rfl (Nat.le_of_ble_eq_true rfl) rfl ?_
  refine g_aload_n (pc := 68) C dX9_copy_68 rfl 0 rfl ?_
  refine g_aload_n (pc := 69) C dX9_copy_69 rfl 1 rfl ?_
  refine g_get (pc := 70) C fl_X9_37 dX9_copy_70 5 rfl rfl ?_
  refine g_put (pc := 73) (ws' := (W_X9_copy E o_t a_t o_p1 a_p1 p1_told p1_round t_x g1 g2 g3 g4 p1_told p1_round p1_x p1_rust p1_rooms p1_hair p1_pins)) C .int fl_X9_37 dX9_copy_73 0 rfl (by decide +kernel) rfl rfl (Nat.le_of_ble_eq_true rfl) rfl ?_
  refine g_aload_n (pc := 76) C dX9_copy_76 rfl 0 rfl ?_
  refine g_aload_n (pc := 77) C dX9_copy_77 rfl 1 rfl ?_
  refine g_get (pc := 78) C fl_X9_24 dX9_copy_78 5 rfl rfl ?_
  refine g_put (pc := 81) (ws' := (W_X9_copy E o_t a_t o_p1 a_p1 p1_told p1_round p1_x g1 g2 g3 g4 p1_told p1_round p1_x p1_rust p1_rooms p1_hair p1_pins)) C .int fl_X9_24 dX9_copy_81 0 rfl (by decide +kernel) rfl rfl (Nat.le_of_ble_eq_true rfl) rfl ?_
  cases h
  exact hret _ _ _ dX9_copy_84 rfl
abbrev W_X9_draw (E : GE) (O_t : Nat) (a_t : Nat → Nat) (t_told : Int32) (t_round : Int32) (t_x : Int32) : va_W := [(O_t, ob_X9 a_t t_told t_round t_x)]
def f_X9_draw (t_x : Int32) : Option (Int32 × Int32) := nm ((((25173 : Int32) * t_x) + (13849 : Int32)) &&& (65535 : Int32)) fun v1 => rm v1 (10 : Int32) fun v2 => some (v2, v1)
theorem dX9_draw_0 : decode cX9_draw 0 = .ok (.aload_n 0, 1) := by decide +kernel
theorem dX9_draw_1 : decode cX9_draw 1 = .ok (.sipush 25173, 3) := by decide +kernel
theorem dX9_draw_4 : decode cX9_draw 4 = .ok (.aload_n 0, 1) := by decide +kernel
theorem dX9_draw_5 : decode cX9_draw 5 = .ok (.getfield 24, 3) := by decide +kernel
theorem dX9_draw_8 : decode cX9_draw 8 = .ok (.imul, 1) := by decide +kernel
theorem dX9_draw_9 : decode cX9_draw 9 = .ok (.sipush 13849, 3) := by decide +kernel
theorem dX9_draw_12 : decode cX9_draw 12 = .ok (.iadd, 1) := by decide +kernel
theorem dX9_draw_13 : decode cX9_draw 13 = .ok (.ldc 52, 2) := by decide +kernel
theorem dX9_draw_15 : decode cX9_draw 15 = .ok (.iand, 1) := by decide +kernel
theorem dX9_draw_16 : decode cX9_draw 16 = .ok (.putfield 24, 3) := by decide +kernel
theorem dX9_draw_19 : decode cX9_draw 19 = .ok (.aload_n 0, 1) := by decide +kernel
theorem dX9_draw_20 : decode cX9_draw 20 = .ok (.getfield 24, 3) := by decide +kernel
theorem dX9_draw_23 : decode cX9_draw 23 = .ok (.bipush 10, 2) := by decide +kernel
theorem dX9_draw_25 : decode cX9_draw 25 = .ok (.irem, 1) := by decide +kernel
theorem dX9_draw_26 : decode cX9_draw 26 = .ok (.ireturn, 1) := by decide +kernel
set_option maxHeartbeats 4000000 in
set_option maxRecDepth 100000 in
theorem c_X9_draw (l : Launch) (E : GE) (o_t : Nat) (a_t : Nat → Nat) (t_told : Int32) (t_round : Int32) (t_x : Int32) (r : Int32 × Int32) (h : f_X9_draw t_x = some r) : Cn l E yX9_draw cX9_draw 1 (some .int) 1 0 0 [.ref o_t] (W_X9_draw E o_t a_t t_told t_round t_x) (fun w => w = (W_X9_draw E o_t a_t t_told t_round r.2)) (some (.int r.1)) := by
  refine Cn.ofI (by decide +kernel) (Nat.le_of_ble_eq_true rfl) (fun X hX hR C hret => ?_)
  subst hX
  show Gx X E 0 0 (W_X9_draw E o_t a_t t_told t_round t_x) 0 [(0, .ref o_t)] []
  unfold f_X9_draw at h
  refine g_aload_n (pc := 0) C dX9_draw_0 rfl 0 rfl ?_
  refine g_sipush (pc := 1) (v := 25173) C dX9_draw_1 (by decide) ?_
  refine g_aload_n (pc := 4) C dX9_draw_4 rfl 0 rfl ?_
  refine g_get (pc := 5) C fl_X9_24 dX9_draw_5 0 rfl rfl ?_
  refine g_imul (pc := 8) C dX9_draw_8 ?_
  refine g_sipush (pc := 9) (v := 13849) C dX9_draw_9 (by decide) ?_
  refine g_iadd (pc := 12) C dX9_draw_12 ?_
  refine g_ldc (pc := 13) C dX9_draw_13 ct_X9_52 ?_
  refine g_iand (pc := 15) C dX9_draw_15 ?_
  refine g_nm h (fun v1 h => ?_)
  refine g_put (pc := 16) (ws' := (W_X9_draw E o_t a_t t_told t_round v1)) C .int fl_X9_24 dX9_draw_16 0 rfl (by decide +kernel) rfl rfl (Nat.le_of_ble_eq_true rfl) rfl ?_
  refine g_aload_n (pc := 19) C dX9_draw_19 rfl 0 rfl ?_
  refine g_get (pc := 20) C fl_X9_24 dX9_draw_20 0 rfl rfl ?_
  refine g_bipush (pc := 23) (v := 10) C dX9_draw_23 (by decide) ?_
  refine g_irem (pc := 25) C dX9_draw_25 h (fun v2 h => ?_)
  cases h
  exact hret _ _ _ dX9_draw_26 rfl rfl
abbrev W_X9_isTold (E : GE) (O_t : Nat) (a_t : Nat → Nat) (t_told : Int32) (t_round : Int32) (t_x : Int32) : va_W := [(O_t, ob_X9 a_t t_told t_round t_x)]
def f_X9_isTold (t_told : Int32) (x1 : Int32) : Option (Int32) := if x1 < 0 then (some (0 : Int32)) else if (10 : Int32) ≤ x1 then (some (0 : Int32)) else if ((t_told >>> (x1 &&& 31)) &&& (1 : Int32)) = 0 then (some (0 : Int32)) else some (1 : Int32)
theorem dX9_isTold_0 : decode cX9_isTold 0 = .ok (.iload_n 1, 1) := by decide +kernel
theorem dX9_isTold_1 : decode cX9_isTold 1 = .ok (.ifCond .lt 24, 3) := by decide +kernel
theorem dX9_isTold_4 : decode cX9_isTold 4 = .ok (.iload_n 1, 1) := by decide +kernel
theorem dX9_isTold_5 : decode cX9_isTold 5 = .ok (.bipush 10, 2) := by decide +kernel
theorem dX9_isTold_7 : decode cX9_isTold 7 = .ok (.if_icmp .ge 18, 3) := by decide +kernel
theorem dX9_isTold_10 : decode cX9_isTold 10 = .ok (.aload_n 0, 1) := by decide +kernel
theorem dX9_isTold_11 : decode cX9_isTold 11 = .ok (.getfield 34, 3) := by decide +kernel
theorem dX9_isTold_14 : decode cX9_isTold 14 = .ok (.iload_n 1, 1) := by decide +kernel
theorem dX9_isTold_15 : decode cX9_isTold 15 = .ok (.ishr, 1) := by decide +kernel
theorem dX9_isTold_16 : decode cX9_isTold 16 = .ok (.iconst 1, 1) := by decide +kernel
theorem dX9_isTold_17 : decode cX9_isTold 17 = .ok (.iand, 1) := by decide +kernel
theorem dX9_isTold_18 : decode cX9_isTold 18 = .ok (.ifCond .eq 7, 3) := by decide +kernel
theorem dX9_isTold_21 : decode cX9_isTold 21 = .ok (.iconst 1, 1) := by decide +kernel
theorem dX9_isTold_22 : decode cX9_isTold 22 = .ok (.goto 4, 3) := by decide +kernel
theorem dX9_isTold_25 : decode cX9_isTold 25 = .ok (.iconst 0, 1) := by decide +kernel
theorem dX9_isTold_26 : decode cX9_isTold 26 = .ok (.ireturn, 1) := by decide +kernel
set_option maxHeartbeats 4000000 in
set_option maxRecDepth 100000 in
theorem c_X9_isTold (l : Launch) (E : GE) (o_t : Nat) (a_t : Nat → Nat) (t_told : Int32) (t_round : Int32) (t_x : Int32) (x1 : Int32) (r : Int32) (h : f_X9_isTold t_told x1 = some r) : Cn l E yX9_isTold cX9_isTold 2 (some .boolean) 1 0 0 [.ref o_t, .int x1] (W_X9_isTold E o_t a_t t_told t_round t_x) (fun w => w = (W_X9_isTold E o_t a_t t_told t_round t_x)) (some (.int r)) := by
  refine Cn.ofI (by decide +kernel) (Nat.le_of_ble_eq_true rfl) (fun X hX hR C hret => ?_)
  subst hX
  show Gx X E 0 0 (W_X9_isTold E o_t a_t t_told t_round t_x) 0 [(0, .ref o_t), (1, .int x1)] []
  unfold f_X9_isTold at h
  refine g_iload_n (pc := 0) C dX9_isTold_0 rfl 1 rfl ?_
  refine g_if_lt (pc := 1) (tgt := 25) C dX9_isTold_1 (by decide) h (fun h => ?_) (fun h => ?_)
  · refine g_iconst (pc := 25) (v := 0) C dX9_isTold_25 (by decide) ?_
    cases h
    exact hret _ _ _ dX9_isTold_26 nb0 rfl
  · refine g_iload_n (pc := 4) C dX9_isTold_4 rfl 1 rfl ?_
    refine g_bipush (pc := 5) (v := 10) C dX9_isTold_5 (by decide) ?_
    refine g_icmp_ge (pc := 7) (tgt := 25) C dX9_isTold_7 (by decide) h (fun h => ?_) (fun h => ?_)
    · refine g_iconst (pc := 25) (v := 0) C dX9_isTold_25 (by decide) ?_
      cases h
      exact hret _ _ _ dX9_isTold_26 nb0 rfl
    · refine g_aload_n (pc := 10) C dX9_isTold_10 rfl 0 rfl ?_
      refine g_get (pc := 11) C fl_X9_34 dX9_isTold_11 0 rfl rfl ?_
      refine g_iload_n (pc := 14) C dX9_isTold_14 rfl 1 rfl ?_
      refine g_ishr (pc := 15) C dX9_isTold_15 ?_
      refine g_iconst (pc := 16) (v := 1) C dX9_isTold_16 (by decide) ?_
      refine g_iand (pc := 17) C dX9_isTold_17 ?_
      refine g_if_eq (pc := 18) (tgt := 25) C dX9_isTold_18 (by decide) h (fun h => ?_) (fun h => ?_)
      · refine g_iconst (pc := 25) (v := 0) C dX9_isTold_25 (by decide) ?_
        cases h
        exact hret _ _ _ dX9_isTold_26 nb0 rfl
      · refine g_iconst (pc := 21) (v := 1) C dX9_isTold_21 (by decide) ?_
        refine g_goto (pc := 22) (tgt := 26) C dX9_isTold_22 (by decide) ?_
        cases h
        exact hret _ _ _ dX9_isTold_26 nb1 rfl
abbrev W_X9_pinsOfAll (E : GE) (O_t : Nat) (a_t : Nat → Nat) (t_told : Int32) (t_round : Int32) (t_x : Int32) (t_pins : (Nat → Int32)) : va_W := [(O_t, ob_X9 a_t t_told t_round t_x), (a_t 3, .inl (E.2.1, 60, .inl t_pins))]
def L_X9_pinsOfAll_4 (t_pins : (Nat → Int32)) : Nat → Int32 × Int32 → Option (Int32) := lp fun go s => if (60 : Int32) ≤ s.2 then (some s.1) else rd t_pins 60 s.2 fun v1 => nm (s.1 + v1) fun v2 => nm (s.2 + (1 : Int32)) fun v3 => go (v2, v3)
def f_X9_pinsOfAll (t_pins : (Nat → Int32)) : Option (Int32) := L_X9_pinsOfAll_4 t_pins fu ((0 : Int32), (0 : Int32))
theorem dX9_pinsOfAll_0 : decode cX9_pinsOfAll 0 = .ok (.iconst 0, 1) := by decide +kernel
theorem dX9_pinsOfAll_1 : decode cX9_pinsOfAll 1 = .ok (.istore_n 1, 1) := by decide +kernel
theorem dX9_pinsOfAll_2 : decode cX9_pinsOfAll 2 = .ok (.iconst 0, 1) := by decide +kernel
theorem dX9_pinsOfAll_3 : decode cX9_pinsOfAll 3 = .ok (.istore_n 2, 1) := by decide +kernel
theorem dX9_pinsOfAll_4 : decode cX9_pinsOfAll 4 = .ok (.iload_n 2, 1) := by decide +kernel
theorem dX9_pinsOfAll_5 : decode cX9_pinsOfAll 5 = .ok (.aload_n 0, 1) := by decide +kernel
theorem dX9_pinsOfAll_6 : decode cX9_pinsOfAll 6 = .ok (.getfield 21, 3) := by decide +kernel
theorem dX9_pinsOfAll_9 : decode cX9_pinsOfAll 9 = .ok (.arraylength, 1) := by decide +kernel
theorem dX9_pinsOfAll_10 : decode cX9_pinsOfAll 10 = .ok (.if_icmp .ge 18, 3) := by decide +kernel
theorem dX9_pinsOfAll_13 : decode cX9_pinsOfAll 13 = .ok (.iload_n 1, 1) := by decide +kernel
theorem dX9_pinsOfAll_14 : decode cX9_pinsOfAll 14 = .ok (.aload_n 0, 1) := by decide +kernel
theorem dX9_pinsOfAll_15 : decode cX9_pinsOfAll 15 = .ok (.getfield 21, 3) := by decide +kernel
theorem dX9_pinsOfAll_18 : decode cX9_pinsOfAll 18 = .ok (.iload_n 2, 1) := by decide +kernel
theorem dX9_pinsOfAll_19 : decode cX9_pinsOfAll 19 = .ok (.iaload, 1) := by decide +kernel
theorem dX9_pinsOfAll_20 : decode cX9_pinsOfAll 20 = .ok (.iadd, 1) := by decide +kernel
theorem dX9_pinsOfAll_21 : decode cX9_pinsOfAll 21 = .ok (.istore_n 1, 1) := by decide +kernel
theorem dX9_pinsOfAll_22 : decode cX9_pinsOfAll 22 = .ok (.iinc 2 1, 3) := by decide +kernel
theorem dX9_pinsOfAll_25 : decode cX9_pinsOfAll 25 = .ok (.goto (-21), 3) := by decide +kernel
theorem dX9_pinsOfAll_28 : decode cX9_pinsOfAll 28 = .ok (.iload_n 1, 1) := by decide +kernel
theorem dX9_pinsOfAll_29 : decode cX9_pinsOfAll 29 = .ok (.ireturn, 1) := by decide +kernel
set_option maxHeartbeats 4000000 in
set_option maxRecDepth 100000 in
theorem kL_X9_pinsOfAll_4 {X : GC} {E : GE} (C : Cx X E cX9_pinsOfAll RX9 1 3) (o_t : Nat) (a_t : Nat → Nat) (t_told : Int32) (t_round : Int32) (t_x : Int32) (t_pins : (Nat → Int32)) {r : Int32} (hret : RtI X E cX9_pinsOfAll .int 0 0 (fun w => w = (W_X9_pinsOfAll E o_t a_t t_told t_round t_x t_pins)) r) : ∀ (n : Nat) (s : Int32 × Int32), L_X9_pinsOfAll_4 t_pins n s = some r → Gx X E 0 0 (W_X9_pinsOfAll E o_t a_t t_told t_round t_x t_pins) 4 [(0, .ref o_t), (1, .int s.1), (2, .int s.2)] [] := by
  unfold L_X9_pinsOfAll_4
  refine lp_ind _ (fun go ih s h => ?_)
  refine g_iload_n (pc := 4) C dX9_pinsOfAll_4 rfl 2 rfl ?_
  refine g_aload_n (pc := 5) C dX9_pinsOfAll_5 rfl 0 rfl ?_
  refine g_get (pc := 6) C fl_X9_21 dX9_pinsOfAll_6 0 rfl rfl ?_
  refine g_alen (pc := 9) (v := 60) C dX9_pinsOfAll_9 1 rfl (by decide) ?_
  refine g_icmp_ge (pc := 10) (tgt := 28) C dX9_pinsOfAll_10 (by decide) h (fun h => ?_) (fun h => ?_)
  · refine g_iload_n (pc := 28) C dX9_pinsOfAll_28 rfl 1 rfl ?_
    cases h
    exact hret _ _ _ dX9_pinsOfAll_29 rfl rfl
  · refine g_iload_n (pc := 13) C dX9_pinsOfAll_13 rfl 1 rfl ?_
    refine g_aload_n (pc := 14) C dX9_pinsOfAll_14 rfl 0 rfl ?_
    refine g_get (pc := 15) C fl_X9_21 dX9_pinsOfAll_15 0 rfl rfl ?_
    refine g_iload_n (pc := 18) C dX9_pinsOfAll_18 rfl 2 rfl ?_
    refine g_iald (pc := 19) C dX9_pinsOfAll_19 1 rfl h (fun v1 h => ?_)
    refine g_iadd (pc := 20) C dX9_pinsOfAll_20 ?_
    refine g_nm h (fun v2 h => ?_)
    refine g_istore_n (pc := 21) (lv' := [(1, .int v2), (0, .ref o_t), (2, .int s.2)]) C dX9_pinsOfAll_21 rfl (by decide) rfl ?_
    refine g_iincn (pc := 22) (j := 2) (d := 1) (lv' := fun v3 => [(2, .int v3), (1, .int v2), (0, .ref o_t)]) C dX9_pinsOfAll_22 rfl (by decide) (by decide) (fun _ => rfl) h (fun v3 h => ?_)
    refine g_goto (pc := 25) (tgt := 4) C dX9_pinsOfAll_25 (by decide) ?_
    refine g_sub [2, 1, 0] rfl ?_
    exact ih _ h
set_option maxHeartbeats 4000000 in
set_option maxRecDepth 100000 in
theorem c_X9_pinsOfAll (l : Launch) (E : GE) (o_t : Nat) (a_t : Nat → Nat) (t_told : Int32) (t_round : Int32) (t_x : Int32) (t_pins : (Nat → Int32)) (r : Int32) (h : f_X9_pinsOfAll t_pins = some r) : Cn l E yX9_pinsOfAll cX9_pinsOfAll 3 (some .int) 1 0 0 [.ref o_t] (W_X9_pinsOfAll E o_t a_t t_told t_round t_x t_pins) (fun w => w = (W_X9_pinsOfAll E o_t a_t t_told t_round t_x t_pins)) (some (.int r)) := by
  refine Cn.ofI (by decide +kernel) (Nat.le_of_ble_eq_true rfl) (fun X hX hR C hret => ?_)
  subst hX
  show Gx X E 0 0 (W_X9_pinsOfAll E o_t a_t t_told t_round t_x t_pins) 0 [(0, .ref o_t)] []
  unfold f_X9_pinsOfAll at h
  refine g_iconst (pc := 0) (v := 0) C dX9_pinsOfAll_0 (by decide) ?_
  refine g_istore_n (pc := 1) (lv' := [(1, .int (0 : Int32)), (0, .ref o_t)]) C dX9_pinsOfAll_1 rfl (by decide) rfl ?_
  refine g_iconst (pc := 2) (v := 0) C dX9_pinsOfAll_2 (by decide) ?_
  refine g_istore_n (pc := 3) (lv' := [(2, .int (0 : Int32)), (1, .int (0 : Int32)), (0, .ref o_t)]) C dX9_pinsOfAll_3 rfl (by decide) rfl ?_
  refine g_sub [2, 1, 0] rfl ?_
  refine kL_X9_pinsOfAll_4 C o_t a_t t_told t_round t_x t_pins hret  _ _ h
abbrev W_X9_dress (E : GE) (O_t : Nat) (a_t : Nat → Nat) (q2 : Nat) (n2 : Nat) (t_told : Int32) (t_round : Int32) (t_x : Int32) (t_hair : (Nat → Int32)) (t_pins : (Nat → Int32)) (f2 : (Nat → Int32)) : va_W := [(O_t, ob_X9 a_t t_told t_round t_x), (a_t 2, .inl (E.2.1, 60, .inl t_hair)), (a_t 3, .inl (E.2.1, 60, .inl t_pins)), (q2, .inl (E.2.1, n2, .inl f2))]
def f_X9_dress (n2 : Nat) (t_told : Int32) (t_hair : (Nat → Int32)) (t_pins : (Nat → Int32)) (f2 : (Nat → Int32)) (x1 : Int32) : Option ((Nat → Int32) × (Nat → Int32)) := (f_X9_isTold t_told x1).bind fun u1 => if u1 = 0 then (some (t_hair, t_pins)) else if (Int32.ofNat n2) = (6 : Int32) then (cpy f2 n2 t_hair 60 (0 : Int32) (x1 * (6 : Int32)) (6 : Int32) fun g2 => cpy f2 n2 t_pins 60 (0 : Int32) (x1 * (6 : Int32)) (6 : Int32) fun g3 => some (g2, g3)) else some (t_hair, t_pins)
theorem dX9_dress_0 : decode cX9_dress 0 = .ok (.aload_n 0, 1) := by decide +kernel
theorem dX9_dress_1 : decode cX9_dress 1 = .ok (.iload_n 1, 1) := by decide +kernel
theorem dX9_dress_2 : decode cX9_dress 2 = .ok (.invokevirtual 44, 3) := by decide +kernel
theorem dX9_dress_5 : decode cX9_dress 5 = .ok (.ifCond .eq 40, 3) := by decide +kernel
theorem dX9_dress_8 : decode cX9_dress 8 = .ok (.aload_n 2, 1) := by decide +kernel
theorem dX9_dress_9 : decode cX9_dress 9 = .ok (.arraylength, 1) := by decide +kernel
theorem dX9_dress_10 : decode cX9_dress 10 = .ok (.bipush 6, 2) := by decide +kernel
theorem dX9_dress_12 : decode cX9_dress 12 = .ok (.if_icmp .ne 33, 3) := by decide +kernel
theorem dX9_dress_15 : decode cX9_dress 15 = .ok (.aload_n 2, 1) := by decide +kernel
theorem dX9_dress_16 : decode cX9_dress 16 = .ok (.iconst 0, 1) := by decide +kernel
theorem dX9_dress_17 : decode cX9_dress 17 = .ok (.aload_n 0, 1) := by decide +kernel
theorem dX9_dress_18 : decode cX9_dress 18 = .ok (.getfield 18, 3) := by decide +kernel
theorem dX9_dress_21 : decode cX9_dress 21 = .ok (.iload_n 1, 1) := by decide +kernel
theorem dX9_dress_22 : decode cX9_dress 22 = .ok (.bipush 6, 2) := by decide +kernel
theorem dX9_dress_24 : decode cX9_dress 24 = .ok (.imul, 1) := by decide +kernel
theorem dX9_dress_25 : decode cX9_dress 25 = .ok (.bipush 6, 2) := by decide +kernel
theorem dX9_dress_27 : decode cX9_dress 27 = .ok (.invokestatic 28, 3) := by decide +kernel
theorem dX9_dress_30 : decode cX9_dress 30 = .ok (.aload_n 2, 1) := by decide +kernel
theorem dX9_dress_31 : decode cX9_dress 31 = .ok (.iconst 0, 1) := by decide +kernel
theorem dX9_dress_32 : decode cX9_dress 32 = .ok (.aload_n 0, 1) := by decide +kernel
theorem dX9_dress_33 : decode cX9_dress 33 = .ok (.getfield 21, 3) := by decide +kernel
theorem dX9_dress_36 : decode cX9_dress 36 = .ok (.iload_n 1, 1) := by decide +kernel
theorem dX9_dress_37 : decode cX9_dress 37 = .ok (.bipush 6, 2) := by decide +kernel
theorem dX9_dress_39 : decode cX9_dress 39 = .ok (.imul, 1) := by decide +kernel
theorem dX9_dress_40 : decode cX9_dress 40 = .ok (.bipush 6, 2) := by decide +kernel
theorem dX9_dress_42 : decode cX9_dress 42 = .ok (.invokestatic 28, 3) := by decide +kernel
theorem dX9_dress_45 : decode cX9_dress 45 = .ok (.return_, 1) := by decide +kernel
set_option maxHeartbeats 4000000 in
set_option maxRecDepth 100000 in
theorem c_X9_dress (l : Launch) (E : GE) (o_t : Nat) (a_t : Nat → Nat) (q2 : Nat) (n2 : Nat) (t_told : Int32) (t_round : Int32) (t_x : Int32) (t_hair : (Nat → Int32)) (t_pins : (Nat → Int32)) (f2 : (Nat → Int32)) (x1 : Int32) (r : (Nat → Int32) × (Nat → Int32)) (h : f_X9_dress n2 t_told t_hair t_pins f2 x1 = some r) : Cn l E yX9_dress cX9_dress 3 none 2 0 0 [.ref o_t, .int x1, .ref q2] (W_X9_dress E o_t a_t q2 n2 t_told t_round t_x t_hair t_pins f2) (fun w => w = (W_X9_dress E o_t a_t q2 n2 t_told t_round t_x r.1 r.2 f2)) none := by
  refine Cn.ofV (by decide +kernel) (Nat.le_of_ble_eq_true rfl) (fun X hX hR C hret => ?_)
  subst hX
  show Gx X E 0 0 (W_X9_dress E o_t a_t q2 n2 t_told t_round t_x t_hair t_pins f2) 0 [(0, .ref o_t), (1, .int x1), (2, .ref q2)] []
  unfold f_X9_dress at h
  refine g_aload_n (pc := 0) C dX9_dress_0 rfl 0 rfl ?_
  refine g_iload_n (pc := 1) C dX9_dress_1 rfl 1 rfl ?_
  obtain ⟨u1, hu1, h⟩ := bs h
  refine g_callV (pc := 2) (st := []) (st1 := [.int u1]) (ws' := (W_X9_dress E o_t a_t q2 n2 t_told t_round t_x t_hair t_pins f2)) C mv_X9_isTold mi_X9_isTold ml_X9_44 (c_X9_isTold X.2.1 E o_t a_t t_told t_round t_x x1 u1 hu1) dX9_dress_2 (by decide) rfl (Nat.le_of_ble_eq_true rfl) 0 8 rfl rfl [0] rfl (by decide) rfl rfl rfl rfl ?_
  refine g_if_eq (pc := 5) (tgt := 45) C dX9_dress_5 (by decide) h (fun h => ?_) (fun h => ?_)
  · cases h
    exact hret _ _ _ dX9_dress_45 rfl
  · refine g_aload_n (pc := 8) C dX9_dress_8 rfl 2 rfl ?_
    refine g_alen (pc := 9) C dX9_dress_9 3 rfl rfl ?_
    refine g_bipush (pc := 10) (v := 6) C dX9_dress_10 (by decide) ?_
    refine g_icmp_ne (pc := 12) (tgt := 45) C dX9_dress_12 (by decide) h (fun h => ?_) (fun h => ?_)
    · cases h
      exact hret _ _ _ dX9_dress_45 rfl
    · refine g_aload_n (pc := 15) C dX9_dress_15 rfl 2 rfl ?_
      refine g_iconst (pc := 16) (v := 0) C dX9_dress_16 (by decide) ?_
      refine g_aload_n (pc := 17) C dX9_dress_17 rfl 0 rfl ?_
      refine g_get (pc := 18) C fl_X9_18 dX9_dress_18 0 rfl rfl ?_
      refine g_iload_n (pc := 21) C dX9_dress_21 rfl 1 rfl ?_
      refine g_bipush (pc := 22) (v := 6) C dX9_dress_22 (by decide) ?_
      refine g_imul (pc := 24) C dX9_dress_24 ?_
      refine g_bipush (pc := 25) (v := 6) C dX9_dress_25 (by decide) ?_
      refine g_copy (pc := 27) C ml_X9_28 mnat_copy ms_copy mini_System (Nat.le_of_ble_eq_true rfl) dX9_dress_27 3 1 rfl rfl h (fun g2 h => ?_)
      refine g_ws (ws' := (W_X9_dress E o_t a_t q2 n2 t_told t_round t_x g2 t_pins f2)) rfl ?_
      refine g_aload_n (pc := 30) C dX9_dress_30 rfl 2 rfl ?_
      refine g_iconst (pc := 31) (v := 0) C dX9_dress_31 (by decide) ?_
      refine g_aload_n (pc := 32) C dX9_dress_32 rfl 0 rfl ?_
      refine g_get (pc := 33) C fl_X9_21 dX9_dress_33 0 rfl rfl ?_
      refine g_iload_n (pc := 36) C dX9_dress_36 rfl 1 rfl ?_
      refine g_bipush (pc := 37) (v := 6) C dX9_dress_37 (by decide) ?_
      refine g_imul (pc := 39) C dX9_dress_39 ?_
      refine g_bipush (pc := 40) (v := 6) C dX9_dress_40 (by decide) ?_
      refine g_copy (pc := 42) C ml_X9_28 mnat_copy ms_copy mini_System (Nat.le_of_ble_eq_true rfl) dX9_dress_42 3 2 rfl rfl h (fun g3 h => ?_)
      refine g_ws (ws' := (W_X9_dress E o_t a_t q2 n2 t_told t_round t_x g2 g3 f2)) rfl ?_
      cases h
      exact hret _ _ _ dX9_dress_45 rfl
abbrev W_X9_inRoom (E : GE) (O_t : Nat) (a_t : Nat → Nat) (t_told : Int32) (t_round : Int32) (t_x : Int32) (t_rooms : (Nat → Int32)) : va_W := [(O_t, ob_X9 a_t t_told t_round t_x), (a_t 1, .inl (E.2.1, 10, .inl t_rooms))]
def L_X9_inRoom_4 (t_told : Int32) (t_rooms : (Nat → Int32)) (x1 : Int32) : Nat → Int32 × Int32 → Option (Int32) := lp fun go s => if (10 : Int32) ≤ s.2 then (some s.1) else (f_X9_isTold t_told s.2).bind fun u1 => if u1 = 0 then (nm (s.2 + (1 : Int32)) fun v2 => go (s.1, v2)) else rd t_rooms 10 s.2 fun v3 => if v3 = x1 then (nm (s.1 ||| ((1 : Int32) <<< (s.2 &&& 31))) fun v5 => nm (s.2 + (1 : Int32)) fun v6 => go (v5, v6)) else nm (s.2 + (1 : Int32)) fun v4 => go (s.1, v4)
def f_X9_inRoom (t_told : Int32) (t_rooms : (Nat → Int32)) (x1 : Int32) : Option (Int32) := L_X9_inRoom_4 t_told t_rooms x1 fu ((0 : Int32), (0 : Int32))
theorem dX9_inRoom_0 : decode cX9_inRoom 0 = .ok (.iconst 0, 1) := by decide +kernel
theorem dX9_inRoom_1 : decode cX9_inRoom 1 = .ok (.istore_n 2, 1) := by decide +kernel
theorem dX9_inRoom_2 : decode cX9_inRoom 2 = .ok (.iconst 0, 1) := by decide +kernel
theorem dX9_inRoom_3 : decode cX9_inRoom 3 = .ok (.istore_n 3, 1) := by decide +kernel
theorem dX9_inRoom_4 : decode cX9_inRoom 4 = .ok (.iload_n 3, 1) := by decide +kernel
theorem dX9_inRoom_5 : decode cX9_inRoom 5 = .ok (.bipush 10, 2) := by decide +kernel
theorem dX9_inRoom_7 : decode cX9_inRoom 7 = .ok (.if_icmp .ge 33, 3) := by decide +kernel
theorem dX9_inRoom_10 : decode cX9_inRoom 10 = .ok (.aload_n 0, 1) := by decide +kernel
theorem dX9_inRoom_11 : decode cX9_inRoom 11 = .ok (.iload_n 3, 1) := by decide +kernel
theorem dX9_inRoom_12 : decode cX9_inRoom 12 = .ok (.invokevirtual 44, 3) := by decide +kernel
theorem dX9_inRoom_15 : decode cX9_inRoom 15 = .ok (.ifCond .eq 19, 3) := by decide +kernel
theorem dX9_inRoom_18 : decode cX9_inRoom 18 = .ok (.aload_n 0, 1) := by decide +kernel
theorem dX9_inRoom_19 : decode cX9_inRoom 19 = .ok (.getfield 15, 3) := by decide +kernel
theorem dX9_inRoom_22 : decode cX9_inRoom 22 = .ok (.iload_n 3, 1) := by decide +kernel
theorem dX9_inRoom_23 : decode cX9_inRoom 23 = .ok (.iaload, 1) := by decide +kernel
theorem dX9_inRoom_24 : decode cX9_inRoom 24 = .ok (.iload_n 1, 1) := by decide +kernel
theorem dX9_inRoom_25 : decode cX9_inRoom 25 = .ok (.if_icmp .ne 9, 3) := by decide +kernel
theorem dX9_inRoom_28 : decode cX9_inRoom 28 = .ok (.iload_n 2, 1) := by decide +kernel
theorem dX9_inRoom_29 : decode cX9_inRoom 29 = .ok (.iconst 1, 1) := by decide +kernel
theorem dX9_inRoom_30 : decode cX9_inRoom 30 = .ok (.iload_n 3, 1) := by decide +kernel
theorem dX9_inRoom_31 : decode cX9_inRoom 31 = .ok (.ishl, 1) := by decide +kernel
theorem dX9_inRoom_32 : decode cX9_inRoom 32 = .ok (.ior, 1) := by decide +kernel
theorem dX9_inRoom_33 : decode cX9_inRoom 33 = .ok (.istore_n 2, 1) := by decide +kernel
theorem dX9_inRoom_34 : decode cX9_inRoom 34 = .ok (.iinc 3 1, 3) := by decide +kernel
theorem dX9_inRoom_37 : decode cX9_inRoom 37 = .ok (.goto (-33), 3) := by decide +kernel
theorem dX9_inRoom_40 : decode cX9_inRoom 40 = .ok (.iload_n 2, 1) := by decide +kernel
theorem dX9_inRoom_41 : decode cX9_inRoom 41 = .ok (.ireturn, 1) := by decide +kernel
set_option maxHeartbeats 4000000 in
set_option maxRecDepth 100000 in
theorem kL_X9_inRoom_4 {X : GC} {E : GE} (C : Cx X E cX9_inRoom RX9 2 4) (o_t : Nat) (a_t : Nat → Nat) (t_round : Int32) (t_x : Int32) (t_told : Int32) (t_rooms : (Nat → Int32)) (x1 : Int32) {r : Int32} (hret : RtI X E cX9_inRoom .int 0 0 (fun w => w = (W_X9_inRoom E o_t a_t t_told t_round t_x t_rooms)) r) : ∀ (n : Nat) (s : Int32 × Int32), L_X9_inRoom_4 t_told t_rooms x1 n s = some r → Gx X E 0 0 (W_X9_inRoom E o_t a_t t_told t_round t_x t_rooms) 4 [(0, .ref o_t), (1, .int x1), (2, .int s.1), (3, .int s.2)] [] := by
  unfold L_X9_inRoom_4
  refine lp_ind _ (fun go ih s h => ?_)
  refine g_iload_n (pc := 4) C dX9_inRoom_4 rfl 3 rfl ?_
  refine g_bipush (pc := 5) (v := 10) C dX9_inRoom_5 (by decide) ?_
  refine g_icmp_ge (pc := 7) (tgt := 40) C dX9_inRoom_7 (by decide) h (fun h => ?_) (fun h => ?_)
  · refine g_iload_n (pc := 40) C dX9_inRoom_40 rfl 2 rfl ?_
    cases h
    exact hret _ _ _ dX9_inRoom_41 rfl rfl
  · refine g_aload_n (pc := 10) C dX9_inRoom_10 rfl 0 rfl ?_
    refine g_iload_n (pc := 11) C dX9_inRoom_11 rfl 3 rfl ?_
    obtain ⟨u1, hu1, h⟩ := bs h
    refine g_callV (pc := 12) (st := []) (st1 := [.int u1]) (ws' := (W_X9_inRoom E o_t a_t t_told t_round t_x t_rooms)) C mv_X9_isTold mi_X9_isTold ml_X9_44 (c_X9_isTold X.2.1 E o_t a_t t_told t_round t_x s.2 u1 hu1) dX9_inRoom_12 (by decide) rfl (Nat.le_of_ble_eq_true rfl) 0 8 rfl rfl [0] rfl (by decide) rfl rfl rfl rfl ?_
    refine g_if_eq (pc := 15) (tgt := 34) C dX9_inRoom_15 (by decide) h (fun h => ?_) (fun h => ?_)
    · refine g_iincn (pc := 34) (j := 3) (d := 1) (lv' := fun v2 => [(3, .int v2), (0, .ref o_t), (1, .int x1), (2, .int s.1)]) C dX9_inRoom_34 rfl (by decide) (by decide) (fun _ => rfl) h (fun v2 h => ?_)
      refine g_goto (pc := 37) (tgt := 4) C dX9_inRoom_37 (by decide) ?_
      refine g_sub [1, 2, 3, 0] rfl ?_
      exact ih _ h
    · refine g_aload_n (pc := 18) C dX9_inRoom_18 rfl 0 rfl ?_
      refine g_get (pc := 19) C fl_X9_15 dX9_inRoom_19 0 rfl rfl ?_
      refine g_iload_n (pc := 22) C dX9_inRoom_22 rfl 3 rfl ?_
      refine g_iald (pc := 23) C dX9_inRoom_23 1 rfl h (fun v3 h => ?_)
      refine g_iload_n (pc := 24) C dX9_inRoom_24 rfl 1 rfl ?_
      refine g_icmp_ne (pc := 25) (tgt := 34) C dX9_inRoom_25 (by decide) h (fun h => ?_) (fun h => ?_)
      · refine g_iincn (pc := 34) (j := 3) (d := 1) (lv' := fun v4 => [(3, .int v4), (0, .ref o_t), (1, .int x1), (2, .int s.1)]) C dX9_inRoom_34 rfl (by decide) (by decide) (fun _ => rfl) h (fun v4 h => ?_)
        refine g_goto (pc := 37) (tgt := 4) C dX9_inRoom_37 (by decide) ?_
        refine g_sub [1, 2, 3, 0] rfl ?_
        exact ih _ h
      · refine g_iload_n (pc := 28) C dX9_inRoom_28 rfl 2 rfl ?_
        refine g_iconst (pc := 29) (v := 1) C dX9_inRoom_29 (by decide) ?_
        refine g_iload_n (pc := 30) C dX9_inRoom_30 rfl 3 rfl ?_
        refine g_ishl (pc := 31) C dX9_inRoom_31 ?_
        refine g_ior (pc := 32) C dX9_inRoom_32 ?_
        refine g_nm h (fun v5 h => ?_)
        refine g_istore_n (pc := 33) (lv' := [(2, .int v5), (0, .ref o_t), (1, .int x1), (3, .int s.2)]) C dX9_inRoom_33 rfl (by decide) rfl ?_
        refine g_iincn (pc := 34) (j := 3) (d := 1) (lv' := fun v6 => [(3, .int v6), (2, .int v5), (0, .ref o_t), (1, .int x1)]) C dX9_inRoom_34 rfl (by decide) (by decide) (fun _ => rfl) h (fun v6 h => ?_)
        refine g_goto (pc := 37) (tgt := 4) C dX9_inRoom_37 (by decide) ?_
        refine g_sub [2, 3, 1, 0] rfl ?_
        exact ih _ h
set_option maxHeartbeats 4000000 in
set_option maxRecDepth 100000 in
theorem c_X9_inRoom (l : Launch) (E : GE) (o_t : Nat) (a_t : Nat → Nat) (t_told : Int32) (t_round : Int32) (t_x : Int32) (t_rooms : (Nat → Int32)) (x1 : Int32) (r : Int32) (h : f_X9_inRoom t_told t_rooms x1 = some r) : Cn l E yX9_inRoom cX9_inRoom 4 (some .int) 2 0 0 [.ref o_t, .int x1] (W_X9_inRoom E o_t a_t t_told t_round t_x t_rooms) (fun w => w = (W_X9_inRoom E o_t a_t t_told t_round t_x t_rooms)) (some (.int r)) := by
  refine Cn.ofI (by decide +kernel) (Nat.le_of_ble_eq_true rfl) (fun X hX hR C hret => ?_)
  subst hX
  show Gx X E 0 0 (W_X9_inRoom E o_t a_t t_told t_round t_x t_rooms) 0 [(0, .ref o_t), (1, .int x1)] []
  unfold f_X9_inRoom at h
  refine g_iconst (pc := 0) (v := 0) C dX9_inRoom_0 (by decide) ?_
  refine g_istore_n (pc := 1) (lv' := [(2, .int (0 : Int32)), (0, .ref o_t), (1, .int x1)]) C dX9_inRoom_1 rfl (by decide) rfl ?_
  refine g_iconst (pc := 2) (v := 0) C dX9_inRoom_2 (by decide) ?_
  refine g_istore_n (pc := 3) (lv' := [(3, .int (0 : Int32)), (2, .int (0 : Int32)), (0, .ref o_t), (1, .int x1)]) C dX9_inRoom_3 rfl (by decide) rfl ?_
  refine g_sub [2, 3, 1, 0] rfl ?_
  refine kL_X9_inRoom_4 C o_t a_t t_round t_x t_told t_rooms x1 hret  _ _ h
abbrev W_X9_kindsLeft (E : GE) (O_t : Nat) (a_t : Nat → Nat) (t_told : Int32) (t_round : Int32) (t_x : Int32) (t_pins : (Nat → Int32)) : va_W := [(O_t, ob_X9 a_t t_told t_round t_x), (a_t 3, .inl (E.2.1, 60, .inl t_pins))]
def L_X9_kindsLeft_4 (t_told : Int32) (t_pins : (Nat → Int32)) (x1 : Int32) : Nat → Int32 × Int32 → Option (Int32) := lp fun go s => if (6 : Int32) ≤ s.2 then (some s.1) else (f_X9_isTold t_told x1).bind fun u1 => if u1 = 0 then (some s.1) else rd t_pins 60 ((x1 * (6 : Int32)) + s.2) fun v2 => if v2 ≤ 0 then (nm (s.2 + (1 : Int32)) fun v3 => go (s.1, v3)) else nm (s.1 ||| ((1 : Int32) <<< (s.2 &&& 31))) fun v4 => nm (s.2 + (1 : Int32)) fun v5 => go (v4, v5)
def f_X9_kindsLeft (t_told : Int32) (t_pins : (Nat → Int32)) (x1 : Int32) : Option (Int32) := L_X9_kindsLeft_4 t_told t_pins x1 fu ((0 : Int32), (0 : Int32))
theorem dX9_kindsLeft_0 : decode cX9_kindsLeft 0 = .ok (.iconst 0, 1) := by decide +kernel
theorem dX9_kindsLeft_1 : decode cX9_kindsLeft 1 = .ok (.istore_n 2, 1) := by decide +kernel
theorem dX9_kindsLeft_2 : decode cX9_kindsLeft 2 = .ok (.iconst 0, 1) := by decide +kernel
theorem dX9_kindsLeft_3 : decode cX9_kindsLeft 3 = .ok (.istore_n 3, 1) := by decide +kernel
theorem dX9_kindsLeft_4 : decode cX9_kindsLeft 4 = .ok (.iload_n 3, 1) := by decide +kernel
theorem dX9_kindsLeft_5 : decode cX9_kindsLeft 5 = .ok (.bipush 6, 2) := by decide +kernel
theorem dX9_kindsLeft_7 : decode cX9_kindsLeft 7 = .ok (.if_icmp .ge 37, 3) := by decide +kernel
theorem dX9_kindsLeft_10 : decode cX9_kindsLeft 10 = .ok (.aload_n 0, 1) := by decide +kernel
theorem dX9_kindsLeft_11 : decode cX9_kindsLeft 11 = .ok (.iload_n 1, 1) := by decide +kernel
theorem dX9_kindsLeft_12 : decode cX9_kindsLeft 12 = .ok (.invokevirtual 44, 3) := by decide +kernel
theorem dX9_kindsLeft_15 : decode cX9_kindsLeft 15 = .ok (.ifCond .eq 29, 3) := by decide +kernel
theorem dX9_kindsLeft_18 : decode cX9_kindsLeft 18 = .ok (.aload_n 0, 1) := by decide +kernel
theorem dX9_kindsLeft_19 : decode cX9_kindsLeft 19 = .ok (.getfield 21, 3) := by decide +kernel
theorem dX9_kindsLeft_22 : decode cX9_kindsLeft 22 = .ok (.iload_n 1, 1) := by decide +kernel
theorem dX9_kindsLeft_23 : decode cX9_kindsLeft 23 = .ok (.bipush 6, 2) := by decide +kernel
theorem dX9_kindsLeft_25 : decode cX9_kindsLeft 25 = .ok (.imul, 1) := by decide +kernel
theorem dX9_kindsLeft_26 : decode cX9_kindsLeft 26 = .ok (.iload_n 3, 1) := by decide +kernel
theorem dX9_kindsLeft_27 : decode cX9_kindsLeft 27 = .ok (.iadd, 1) := by decide +kernel
theorem dX9_kindsLeft_28 : decode cX9_kindsLeft 28 = .ok (.iaload, 1) := by decide +kernel
theorem dX9_kindsLeft_29 : decode cX9_kindsLeft 29 = .ok (.ifCond .le 9, 3) := by decide +kernel
theorem dX9_kindsLeft_32 : decode cX9_kindsLeft 32 = .ok (.iload_n 2, 1) := by decide +kernel
theorem dX9_kindsLeft_33 : decode cX9_kindsLeft 33 = .ok (.iconst 1, 1) := by decide +kernel
theorem dX9_kindsLeft_34 : decode cX9_kindsLeft 34 = .ok (.iload_n 3, 1) := by decide +kernel
theorem dX9_kindsLeft_35 : decode cX9_kindsLeft 35 = .ok (.ishl, 1) := by decide +kernel
theorem dX9_kindsLeft_36 : decode cX9_kindsLeft 36 = .ok (.ior, 1) := by decide +kernel
theorem dX9_kindsLeft_37 : decode cX9_kindsLeft 37 = .ok (.istore_n 2, 1) := by decide +kernel
theorem dX9_kindsLeft_38 : decode cX9_kindsLeft 38 = .ok (.iinc 3 1, 3) := by decide +kernel
theorem dX9_kindsLeft_41 : decode cX9_kindsLeft 41 = .ok (.goto (-37), 3) := by decide +kernel
theorem dX9_kindsLeft_44 : decode cX9_kindsLeft 44 = .ok (.iload_n 2, 1) := by decide +kernel
theorem dX9_kindsLeft_45 : decode cX9_kindsLeft 45 = .ok (.ireturn, 1) := by decide +kernel
set_option maxHeartbeats 4000000 in
set_option maxRecDepth 100000 in
theorem kL_X9_kindsLeft_4 {X : GC} {E : GE} (C : Cx X E cX9_kindsLeft RX9 2 4) (o_t : Nat) (a_t : Nat → Nat) (t_round : Int32) (t_x : Int32) (t_told : Int32) (t_pins : (Nat → Int32)) (x1 : Int32) {r : Int32} (hret : RtI X E cX9_kindsLeft .int 0 0 (fun w => w = (W_X9_kindsLeft E o_t a_t t_told t_round t_x t_pins)) r) : ∀ (n : Nat) (s : Int32 × Int32), L_X9_kindsLeft_4 t_told t_pins x1 n s = some r → Gx X E 0 0 (W_X9_kindsLeft E o_t a_t t_told t_round t_x t_pins) 4 [(0, .ref o_t), (1, .int x1), (2, .int s.1), (3, .int s.2)] [] := by
  unfold L_X9_kindsLeft_4
  refine lp_ind _ (fun go ih s h => ?_)
  refine g_iload_n (pc := 4) C dX9_kindsLeft_4 rfl 3 rfl ?_
  refine g_bipush (pc := 5) (v := 6) C dX9_kindsLeft_5 (by decide) ?_
  refine g_icmp_ge (pc := 7) (tgt := 44) C dX9_kindsLeft_7 (by decide) h (fun h => ?_) (fun h => ?_)
  · refine g_iload_n (pc := 44) C dX9_kindsLeft_44 rfl 2 rfl ?_
    cases h
    exact hret _ _ _ dX9_kindsLeft_45 rfl rfl
  · refine g_aload_n (pc := 10) C dX9_kindsLeft_10 rfl 0 rfl ?_
    refine g_iload_n (pc := 11) C dX9_kindsLeft_11 rfl 1 rfl ?_
    obtain ⟨u1, hu1, h⟩ := bs h
    refine g_callV (pc := 12) (st := []) (st1 := [.int u1]) (ws' := (W_X9_kindsLeft E o_t a_t t_told t_round t_x t_pins)) C mv_X9_isTold mi_X9_isTold ml_X9_44 (c_X9_isTold X.2.1 E o_t a_t t_told t_round t_x x1 u1 hu1) dX9_kindsLeft_12 (by decide) rfl (Nat.le_of_ble_eq_true rfl) 0 8 rfl rfl [0] rfl (by decide) rfl rfl rfl rfl ?_
    refine g_if_eq (pc := 15) (tgt := 44) C dX9_kindsLeft_15 (by decide) h (fun h => ?_) (fun h => ?_)
    · refine g_iload_n (pc := 44) C dX9_kindsLeft_44 rfl 2 rfl ?_
      cases h
      exact hret _ _ _ dX9_kindsLeft_45 rfl rfl
    · refine g_aload_n (pc := 18) C dX9_kindsLeft_18 rfl 0 rfl ?_
      refine g_get (pc := 19) C fl_X9_21 dX9_kindsLeft_19 0 rfl rfl ?_
      refine g_iload_n (pc := 22) C dX9_kindsLeft_22 rfl 1 rfl ?_
      refine g_bipush (pc := 23) (v := 6) C dX9_kindsLeft_23 (by decide) ?_
      refine g_imul (pc := 25) C dX9_kindsLeft_25 ?_
      refine g_iload_n (pc := 26) C dX9_kindsLeft_26 rfl 3 rfl ?_
      refine g_iadd (pc := 27) C dX9_kindsLeft_27 ?_
      refine g_iald (pc := 28) C dX9_kindsLeft_28 1 rfl h (fun v2 h => ?_)
      refine g_if_le (pc := 29) (tgt := 38) C dX9_kindsLeft_29 (by decide) h (fun h => ?_) (fun h => ?_)
      · refine g_iincn (pc := 38) (j := 3) (d := 1) (lv' := fun v3 => [(3, .int v3), (0, .ref o_t), (1, .int x1), (2, .int s.1)]) C dX9_kindsLeft_38 rfl (by decide) (by decide) (fun _ => rfl) h (fun v3 h => ?_)
        refine g_goto (pc := 41) (tgt := 4) C dX9_kindsLeft_41 (by decide) ?_
        refine g_sub [1, 2, 3, 0] rfl ?_
        exact ih _ h
      · refine g_iload_n (pc := 32) C dX9_kindsLeft_32 rfl 2 rfl ?_
        refine g_iconst (pc := 33) (v := 1) C dX9_kindsLeft_33 (by decide) ?_
        refine g_iload_n (pc := 34) C dX9_kindsLeft_34 rfl 3 rfl ?_
        refine g_ishl (pc := 35) C dX9_kindsLeft_35 ?_
        refine g_ior (pc := 36) C dX9_kindsLeft_36 ?_
        refine g_nm h (fun v4 h => ?_)
        refine g_istore_n (pc := 37) (lv' := [(2, .int v4), (0, .ref o_t), (1, .int x1), (3, .int s.2)]) C dX9_kindsLeft_37 rfl (by decide) rfl ?_
        refine g_iincn (pc := 38) (j := 3) (d := 1) (lv' := fun v5 => [(3, .int v5), (2, .int v4), (0, .ref o_t), (1, .int x1)]) C dX9_kindsLeft_38 rfl (by decide) (by decide) (fun _ => rfl) h (fun v5 h => ?_)
        refine g_goto (pc := 41) (tgt := 4) C dX9_kindsLeft_41 (by decide) ?_
        refine g_sub [2, 3, 1, 0] rfl ?_
        exact ih _ h
set_option maxHeartbeats 4000000 in
set_option maxRecDepth 100000 in
theorem c_X9_kindsLeft (l : Launch) (E : GE) (o_t : Nat) (a_t : Nat → Nat) (t_told : Int32) (t_round : Int32) (t_x : Int32) (t_pins : (Nat → Int32)) (x1 : Int32) (r : Int32) (h : f_X9_kindsLeft t_told t_pins x1 = some r) : Cn l E yX9_kindsLeft cX9_kindsLeft 4 (some .int) 2 0 0 [.ref o_t, .int x1] (W_X9_kindsLeft E o_t a_t t_told t_round t_x t_pins) (fun w => w = (W_X9_kindsLeft E o_t a_t t_told t_round t_x t_pins)) (some (.int r)) := by
  refine Cn.ofI (by decide +kernel) (Nat.le_of_ble_eq_true rfl) (fun X hX hR C hret => ?_)
  subst hX
  show Gx X E 0 0 (W_X9_kindsLeft E o_t a_t t_told t_round t_x t_pins) 0 [(0, .ref o_t), (1, .int x1)] []
  unfold f_X9_kindsLeft at h
  refine g_iconst (pc := 0) (v := 0) C dX9_kindsLeft_0 (by decide) ?_
  refine g_istore_n (pc := 1) (lv' := [(2, .int (0 : Int32)), (0, .ref o_t), (1, .int x1)]) C dX9_kindsLeft_1 rfl (by decide) rfl ?_
  refine g_iconst (pc := 2) (v := 0) C dX9_kindsLeft_2 (by decide) ?_
  refine g_istore_n (pc := 3) (lv' := [(3, .int (0 : Int32)), (2, .int (0 : Int32)), (0, .ref o_t), (1, .int x1)]) C dX9_kindsLeft_3 rfl (by decide) rfl ?_
  refine g_sub [2, 3, 1, 0] rfl ?_
  refine kL_X9_kindsLeft_4 C o_t a_t t_round t_x t_told t_pins x1 hret  _ _ h
abbrev W_X9_pinsOf (E : GE) (O_t : Nat) (a_t : Nat → Nat) (t_told : Int32) (t_round : Int32) (t_x : Int32) (t_pins : (Nat → Int32)) : va_W := [(O_t, ob_X9 a_t t_told t_round t_x), (a_t 3, .inl (E.2.1, 60, .inl t_pins))]
def L_X9_pinsOf_4 (t_told : Int32) (t_pins : (Nat → Int32)) (x1 : Int32) : Nat → Int32 × Int32 → Option (Int32) := lp fun go s => if (6 : Int32) ≤ s.2 then (some s.1) else (f_X9_isTold t_told x1).bind fun u1 => if u1 = 0 then (some s.1) else rd t_pins 60 ((x1 * (6 : Int32)) + s.2) fun v2 => nm (s.1 + v2) fun v3 => nm (s.2 + (1 : Int32)) fun v4 => go (v3, v4)
def f_X9_pinsOf (t_told : Int32) (t_pins : (Nat → Int32)) (x1 : Int32) : Option (Int32) := L_X9_pinsOf_4 t_told t_pins x1 fu ((0 : Int32), (0 : Int32))
theorem dX9_pinsOf_0 : decode cX9_pinsOf 0 = .ok (.iconst 0, 1) := by decide +kernel
theorem dX9_pinsOf_1 : decode cX9_pinsOf 1 = .ok (.istore_n 2, 1) := by decide +kernel
theorem dX9_pinsOf_2 : decode cX9_pinsOf 2 = .ok (.iconst 0, 1) := by decide +kernel
theorem dX9_pinsOf_3 : decode cX9_pinsOf 3 = .ok (.istore_n 3, 1) := by decide +kernel
theorem dX9_pinsOf_4 : decode cX9_pinsOf 4 = .ok (.iload_n 3, 1) := by decide +kernel
theorem dX9_pinsOf_5 : decode cX9_pinsOf 5 = .ok (.bipush 6, 2) := by decide +kernel
theorem dX9_pinsOf_7 : decode cX9_pinsOf 7 = .ok (.if_icmp .ge 31, 3) := by decide +kernel
theorem dX9_pinsOf_10 : decode cX9_pinsOf 10 = .ok (.aload_n 0, 1) := by decide +kernel
theorem dX9_pinsOf_11 : decode cX9_pinsOf 11 = .ok (.iload_n 1, 1) := by decide +kernel
theorem dX9_pinsOf_12 : decode cX9_pinsOf 12 = .ok (.invokevirtual 44, 3) := by decide +kernel
theorem dX9_pinsOf_15 : decode cX9_pinsOf 15 = .ok (.ifCond .eq 23, 3) := by decide +kernel
theorem dX9_pinsOf_18 : decode cX9_pinsOf 18 = .ok (.iload_n 2, 1) := by decide +kernel
theorem dX9_pinsOf_19 : decode cX9_pinsOf 19 = .ok (.aload_n 0, 1) := by decide +kernel
theorem dX9_pinsOf_20 : decode cX9_pinsOf 20 = .ok (.getfield 21, 3) := by decide +kernel
theorem dX9_pinsOf_23 : decode cX9_pinsOf 23 = .ok (.iload_n 1, 1) := by decide +kernel
theorem dX9_pinsOf_24 : decode cX9_pinsOf 24 = .ok (.bipush 6, 2) := by decide +kernel
theorem dX9_pinsOf_26 : decode cX9_pinsOf 26 = .ok (.imul, 1) := by decide +kernel
theorem dX9_pinsOf_27 : decode cX9_pinsOf 27 = .ok (.iload_n 3, 1) := by decide +kernel
theorem dX9_pinsOf_28 : decode cX9_pinsOf 28 = .ok (.iadd, 1) := by decide +kernel
theorem dX9_pinsOf_29 : decode cX9_pinsOf 29 = .ok (.iaload, 1) := by decide +kernel
theorem dX9_pinsOf_30 : decode cX9_pinsOf 30 = .ok (.iadd, 1) := by decide +kernel
theorem dX9_pinsOf_31 : decode cX9_pinsOf 31 = .ok (.istore_n 2, 1) := by decide +kernel
theorem dX9_pinsOf_32 : decode cX9_pinsOf 32 = .ok (.iinc 3 1, 3) := by decide +kernel
theorem dX9_pinsOf_35 : decode cX9_pinsOf 35 = .ok (.goto (-31), 3) := by decide +kernel
theorem dX9_pinsOf_38 : decode cX9_pinsOf 38 = .ok (.iload_n 2, 1) := by decide +kernel
theorem dX9_pinsOf_39 : decode cX9_pinsOf 39 = .ok (.ireturn, 1) := by decide +kernel
set_option maxHeartbeats 4000000 in
set_option maxRecDepth 100000 in
theorem kL_X9_pinsOf_4 {X : GC} {E : GE} (C : Cx X E cX9_pinsOf RX9 2 4) (o_t : Nat) (a_t : Nat → Nat) (t_round : Int32) (t_x : Int32) (t_told : Int32) (t_pins : (Nat → Int32)) (x1 : Int32) {r : Int32} (hret : RtI X E cX9_pinsOf .int 0 0 (fun w => w = (W_X9_pinsOf E o_t a_t t_told t_round t_x t_pins)) r) : ∀ (n : Nat) (s : Int32 × Int32), L_X9_pinsOf_4 t_told t_pins x1 n s = some r → Gx X E 0 0 (W_X9_pinsOf E o_t a_t t_told t_round t_x t_pins) 4 [(0, .ref o_t), (1, .int x1), (2, .int s.1), (3, .int s.2)] [] := by
  unfold L_X9_pinsOf_4
  refine lp_ind _ (fun go ih s h => ?_)
  refine g_iload_n (pc := 4) C dX9_pinsOf_4 rfl 3 rfl ?_
  refine g_bipush (pc := 5) (v := 6) C dX9_pinsOf_5 (by decide) ?_
  refine g_icmp_ge (pc := 7) (tgt := 38) C dX9_pinsOf_7 (by decide) h (fun h => ?_) (fun h => ?_)
  · refine g_iload_n (pc := 38) C dX9_pinsOf_38 rfl 2 rfl ?_
    cases h
    exact hret _ _ _ dX9_pinsOf_39 rfl rfl
  · refine g_aload_n (pc := 10) C dX9_pinsOf_10 rfl 0 rfl ?_
    refine g_iload_n (pc := 11) C dX9_pinsOf_11 rfl 1 rfl ?_
    obtain ⟨u1, hu1, h⟩ := bs h
    refine g_callV (pc := 12) (st := []) (st1 := [.int u1]) (ws' := (W_X9_pinsOf E o_t a_t t_told t_round t_x t_pins)) C mv_X9_isTold mi_X9_isTold ml_X9_44 (c_X9_isTold X.2.1 E o_t a_t t_told t_round t_x x1 u1 hu1) dX9_pinsOf_12 (by decide) rfl (Nat.le_of_ble_eq_true rfl) 0 8 rfl rfl [0] rfl (by decide) rfl rfl rfl rfl ?_
    refine g_if_eq (pc := 15) (tgt := 38) C dX9_pinsOf_15 (by decide) h (fun h => ?_) (fun h => ?_)
    · refine g_iload_n (pc := 38) C dX9_pinsOf_38 rfl 2 rfl ?_
      cases h
      exact hret _ _ _ dX9_pinsOf_39 rfl rfl
    · refine g_iload_n (pc := 18) C dX9_pinsOf_18 rfl 2 rfl ?_
      refine g_aload_n (pc := 19) C dX9_pinsOf_19 rfl 0 rfl ?_
      refine g_get (pc := 20) C fl_X9_21 dX9_pinsOf_20 0 rfl rfl ?_
      refine g_iload_n (pc := 23) C dX9_pinsOf_23 rfl 1 rfl ?_
      refine g_bipush (pc := 24) (v := 6) C dX9_pinsOf_24 (by decide) ?_
      refine g_imul (pc := 26) C dX9_pinsOf_26 ?_
      refine g_iload_n (pc := 27) C dX9_pinsOf_27 rfl 3 rfl ?_
      refine g_iadd (pc := 28) C dX9_pinsOf_28 ?_
      refine g_iald (pc := 29) C dX9_pinsOf_29 1 rfl h (fun v2 h => ?_)
      refine g_iadd (pc := 30) C dX9_pinsOf_30 ?_
      refine g_nm h (fun v3 h => ?_)
      refine g_istore_n (pc := 31) (lv' := [(2, .int v3), (0, .ref o_t), (1, .int x1), (3, .int s.2)]) C dX9_pinsOf_31 rfl (by decide) rfl ?_
      refine g_iincn (pc := 32) (j := 3) (d := 1) (lv' := fun v4 => [(3, .int v4), (2, .int v3), (0, .ref o_t), (1, .int x1)]) C dX9_pinsOf_32 rfl (by decide) (by decide) (fun _ => rfl) h (fun v4 h => ?_)
      refine g_goto (pc := 35) (tgt := 4) C dX9_pinsOf_35 (by decide) ?_
      refine g_sub [2, 3, 1, 0] rfl ?_
      exact ih _ h
set_option maxHeartbeats 4000000 in
set_option maxRecDepth 100000 in
theorem c_X9_pinsOf (l : Launch) (E : GE) (o_t : Nat) (a_t : Nat → Nat) (t_told : Int32) (t_round : Int32) (t_x : Int32) (t_pins : (Nat → Int32)) (x1 : Int32) (r : Int32) (h : f_X9_pinsOf t_told t_pins x1 = some r) : Cn l E yX9_pinsOf cX9_pinsOf 4 (some .int) 2 0 0 [.ref o_t, .int x1] (W_X9_pinsOf E o_t a_t t_told t_round t_x t_pins) (fun w => w = (W_X9_pinsOf E o_t a_t t_told t_round t_x t_pins)) (some (.int r)) := by
  refine Cn.ofI (by decide +kernel) (Nat.le_of_ble_eq_true rfl) (fun X hX hR C hret => ?_)
  subst hX
  show Gx X E 0 0 (W_X9_pinsOf E o_t a_t t_told t_round t_x t_pins) 0 [(0, .ref o_t), (1, .int x1)] []
  unfold f_X9_pinsOf at h
  refine g_iconst (pc := 0) (v := 0) C dX9_pinsOf_0 (by decide) ?_
  refine g_istore_n (pc := 1) (lv' := [(2, .int (0 : Int32)), (0, .ref o_t), (1, .int x1)]) C dX9_pinsOf_1 rfl (by decide) rfl ?_
  refine g_iconst (pc := 2) (v := 0) C dX9_pinsOf_2 (by decide) ?_
  refine g_istore_n (pc := 3) (lv' := [(3, .int (0 : Int32)), (2, .int (0 : Int32)), (0, .ref o_t), (1, .int x1)]) C dX9_pinsOf_3 rfl (by decide) rfl ?_
  refine g_sub [2, 3, 1, 0] rfl ?_
  refine kL_X9_pinsOf_4 C o_t a_t t_round t_x t_told t_pins x1 hret  _ _ h
abbrev W_X9_pinsOfKind (E : GE) (O_t : Nat) (a_t : Nat → Nat) (t_told : Int32) (t_round : Int32) (t_x : Int32) (t_pins : (Nat → Int32)) : va_W := [(O_t, ob_X9 a_t t_told t_round t_x), (a_t 3, .inl (E.2.1, 60, .inl t_pins))]
def f_X9_pinsOfKind (t_told : Int32) (t_pins : (Nat → Int32)) (x1 : Int32) (x2 : Int32) : Option (Int32) := (f_X9_isTold t_told x1).bind fun u1 => if u1 = 0 then (some (0 : Int32)) else (f_X11_isWithin x2 (0 : Int32) (5 : Int32)).bind fun u2 => if u2 = 0 then (some (0 : Int32)) else rd t_pins 60 ((x1 * (6 : Int32)) + x2) fun v3 => some v3
theorem dX9_pinsOfKind_0 : decode cX9_pinsOfKind 0 = .ok (.aload_n 0, 1) := by decide +kernel
theorem dX9_pinsOfKind_1 : decode cX9_pinsOfKind 1 = .ok (.iload_n 1, 1) := by decide +kernel
theorem dX9_pinsOfKind_2 : decode cX9_pinsOfKind 2 = .ok (.invokevirtual 44, 3) := by decide +kernel
theorem dX9_pinsOfKind_5 : decode cX9_pinsOfKind 5 = .ok (.ifCond .eq 26, 3) := by decide +kernel
theorem dX9_pinsOfKind_8 : decode cX9_pinsOfKind 8 = .ok (.iload_n 2, 1) := by decide +kernel
theorem dX9_pinsOfKind_9 : decode cX9_pinsOfKind 9 = .ok (.iconst 0, 1) := by decide +kernel
theorem dX9_pinsOfKind_10 : decode cX9_pinsOfKind 10 = .ok (.iconst 5, 1) := by decide +kernel
theorem dX9_pinsOfKind_11 : decode cX9_pinsOfKind 11 = .ok (.invokestatic 40, 3) := by decide +kernel
theorem dX9_pinsOfKind_14 : decode cX9_pinsOfKind 14 = .ok (.ifCond .eq 17, 3) := by decide +kernel
theorem dX9_pinsOfKind_17 : decode cX9_pinsOfKind 17 = .ok (.aload_n 0, 1) := by decide +kernel
theorem dX9_pinsOfKind_18 : decode cX9_pinsOfKind 18 = .ok (.getfield 21, 3) := by decide +kernel
theorem dX9_pinsOfKind_21 : decode cX9_pinsOfKind 21 = .ok (.iload_n 1, 1) := by decide +kernel
theorem dX9_pinsOfKind_22 : decode cX9_pinsOfKind 22 = .ok (.bipush 6, 2) := by decide +kernel
theorem dX9_pinsOfKind_24 : decode cX9_pinsOfKind 24 = .ok (.imul, 1) := by decide +kernel
theorem dX9_pinsOfKind_25 : decode cX9_pinsOfKind 25 = .ok (.iload_n 2, 1) := by decide +kernel
theorem dX9_pinsOfKind_26 : decode cX9_pinsOfKind 26 = .ok (.iadd, 1) := by decide +kernel
theorem dX9_pinsOfKind_27 : decode cX9_pinsOfKind 27 = .ok (.iaload, 1) := by decide +kernel
theorem dX9_pinsOfKind_28 : decode cX9_pinsOfKind 28 = .ok (.goto 4, 3) := by decide +kernel
theorem dX9_pinsOfKind_31 : decode cX9_pinsOfKind 31 = .ok (.iconst 0, 1) := by decide +kernel
theorem dX9_pinsOfKind_32 : decode cX9_pinsOfKind 32 = .ok (.ireturn, 1) := by decide +kernel
set_option maxHeartbeats 4000000 in
set_option maxRecDepth 100000 in
theorem c_X9_pinsOfKind (l : Launch) (E : GE) (o_t : Nat) (a_t : Nat → Nat) (t_told : Int32) (t_round : Int32) (t_x : Int32) (t_pins : (Nat → Int32)) (x1 : Int32) (x2 : Int32) (r : Int32) (h : f_X9_pinsOfKind t_told t_pins x1 x2 = some r) : Cn l E yX9_pinsOfKind cX9_pinsOfKind 3 (some .int) 2 0 0 [.ref o_t, .int x1, .int x2] (W_X9_pinsOfKind E o_t a_t t_told t_round t_x t_pins) (fun w => w = (W_X9_pinsOfKind E o_t a_t t_told t_round t_x t_pins)) (some (.int r)) := by
  refine Cn.ofI (by decide +kernel) (Nat.le_of_ble_eq_true rfl) (fun X hX hR C hret => ?_)
  subst hX
  show Gx X E 0 0 (W_X9_pinsOfKind E o_t a_t t_told t_round t_x t_pins) 0 [(0, .ref o_t), (1, .int x1), (2, .int x2)] []
  unfold f_X9_pinsOfKind at h
  refine g_aload_n (pc := 0) C dX9_pinsOfKind_0 rfl 0 rfl ?_
  refine g_iload_n (pc := 1) C dX9_pinsOfKind_1 rfl 1 rfl ?_
  obtain ⟨u1, hu1, h⟩ := bs h
  refine g_callV (pc := 2) (st := []) (st1 := [.int u1]) (ws' := (W_X9_pinsOfKind E o_t a_t t_told t_round t_x t_pins)) C mv_X9_isTold mi_X9_isTold ml_X9_44 (c_X9_isTold X.2.1 E o_t a_t t_told t_round t_x x1 u1 hu1) dX9_pinsOfKind_2 (by decide) rfl (Nat.le_of_ble_eq_true rfl) 0 8 rfl rfl [0] rfl (by decide) rfl rfl rfl rfl ?_
  refine g_if_eq (pc := 5) (tgt := 31) C dX9_pinsOfKind_5 (by decide) h (fun h => ?_) (fun h => ?_)
  · refine g_iconst (pc := 31) (v := 0) C dX9_pinsOfKind_31 (by decide) ?_
    cases h
    exact hret _ _ _ dX9_pinsOfKind_32 rfl rfl
  · refine g_iload_n (pc := 8) C dX9_pinsOfKind_8 rfl 2 rfl ?_
    refine g_iconst (pc := 9) (v := 0) C dX9_pinsOfKind_9 (by decide) ?_
    refine g_iconst (pc := 10) (v := 5) C dX9_pinsOfKind_10 (by decide) ?_
    obtain ⟨u2, hu2, h⟩ := bs h
    refine g_callSN (pc := 11) (st := []) (st1 := [.int u2]) (ws' := (W_X9_pinsOfKind E o_t a_t t_told t_round t_x t_pins)) C mv_X11_isWithin ms_X11_isWithin mn_X9_40 (c_X11_isWithin X.2.1 E x2 (0 : Int32) (5 : Int32) u2 hu2) dX9_pinsOfKind_11 (by decide) rfl (Nat.le_of_ble_eq_true rfl) [] rfl (by decide) rfl rfl rfl rfl ?_
    refine g_if_eq (pc := 14) (tgt := 31) C dX9_pinsOfKind_14 (by decide) h (fun h => ?_) (fun h => ?_)
    · refine g_iconst (pc := 31) (v := 0) C dX9_pinsOfKind_31 (by decide) ?_
      cases h
      exact hret _ _ _ dX9_pinsOfKind_32 rfl rfl
    · refine g_aload_n (pc := 17) C dX9_pinsOfKind_17 rfl 0 rfl ?_
      refine g_get (pc := 18) C fl_X9_21 dX9_pinsOfKind_18 0 rfl rfl ?_
      refine g_iload_n (pc := 21) C dX9_pinsOfKind_21 rfl 1 rfl ?_
      refine g_bipush (pc := 22) (v := 6) C dX9_pinsOfKind_22 (by decide) ?_
      refine g_imul (pc := 24) C dX9_pinsOfKind_24 ?_
      refine g_iload_n (pc := 25) C dX9_pinsOfKind_25 rfl 2 rfl ?_
      refine g_iadd (pc := 26) C dX9_pinsOfKind_26 ?_
      refine g_iald (pc := 27) C dX9_pinsOfKind_27 1 rfl h (fun v3 h => ?_)
      refine g_goto (pc := 28) (tgt := 32) C dX9_pinsOfKind_28 (by decide) ?_
      cases h
      exact hret _ _ _ dX9_pinsOfKind_32 rfl rfl
abbrev W_X9_put (E : GE) (O_t : Nat) (a_t : Nat → Nat) (t_told : Int32) (t_round : Int32) (t_x : Int32) (t_rooms : (Nat → Int32)) : va_W := [(O_t, ob_X9 a_t t_told t_round t_x), (a_t 1, .inl (E.2.1, 10, .inl t_rooms))]
def f_X9_put (t_told : Int32) (t_rooms : (Nat → Int32)) (x1 : Int32) (x2 : Int32) : Option (Int32 × (Nat → Int32)) := (f_X11_isWithin x1 (0 : Int32) (9 : Int32)).bind fun u1 => if u1 = 0 then (some (t_told, t_rooms)) else wr t_rooms 10 x1 x2 fun g2 => nm (t_told ||| ((1 : Int32) <<< (x1 &&& 31))) fun v3 => some (v3, g2)
theorem dX9_put_0 : decode cX9_put 0 = .ok (.iload_n 1, 1) := by decide +kernel
theorem dX9_put_1 : decode cX9_put 1 = .ok (.iconst 0, 1) := by decide +kernel
theorem dX9_put_2 : decode cX9_put 2 = .ok (.bipush 9, 2) := by decide +kernel
theorem dX9_put_4 : decode cX9_put 4 = .ok (.invokestatic 40, 3) := by decide +kernel
theorem dX9_put_7 : decode cX9_put 7 = .ok (.ifCond .eq 22, 3) := by decide +kernel
theorem dX9_put_10 : decode cX9_put 10 = .ok (.aload_n 0, 1) := by decide +kernel
theorem dX9_put_11 : decode cX9_put 11 = .ok (.getfield 15, 3) := by decide +kernel
theorem dX9_put_14 : decode cX9_put 14 = .ok (.iload_n 1, 1) := by decide +kernel
theorem dX9_put_15 : decode cX9_put 15 = .ok (.iload_n 2, 1) := by decide +kernel
theorem dX9_put_16 : decode cX9_put 16 = .ok (.iastore, 1) := by decide +kernel
theorem dX9_put_17 : decode cX9_put 17 = .ok (.aload_n 0, 1) := by decide +kernel
theorem dX9_put_18 : decode cX9_put 18 = .ok (.dup, 1) := by decide +kernel
theorem dX9_put_19 : decode cX9_put 19 = .ok (.getfield 34, 3) := by decide +kernel
theorem dX9_put_22 : decode cX9_put 22 = .ok (.iconst 1, 1) := by decide +kernel
theorem dX9_put_23 : decode cX9_put 23 = .ok (.iload_n 1, 1) := by decide +kernel
theorem dX9_put_24 : decode cX9_put 24 = .ok (.ishl, 1) := by decide +kernel
theorem dX9_put_25 : decode cX9_put 25 = .ok (.ior, 1) := by decide +kernel
theorem dX9_put_26 : decode cX9_put 26 = .ok (.putfield 34, 3) := by decide +kernel
theorem dX9_put_29 : decode cX9_put 29 = .ok (.return_, 1) := by decide +kernel
set_option maxHeartbeats 4000000 in
set_option maxRecDepth 100000 in
theorem c_X9_put (l : Launch) (E : GE) (o_t : Nat) (a_t : Nat → Nat) (t_told : Int32) (t_round : Int32) (t_x : Int32) (t_rooms : (Nat → Int32)) (x1 : Int32) (x2 : Int32) (r : Int32 × (Nat → Int32)) (h : f_X9_put t_told t_rooms x1 x2 = some r) : Cn l E yX9_put cX9_put 3 none 2 0 0 [.ref o_t, .int x1, .int x2] (W_X9_put E o_t a_t t_told t_round t_x t_rooms) (fun w => w = (W_X9_put E o_t a_t r.1 t_round t_x r.2)) none := by
  refine Cn.ofV (by decide +kernel) (Nat.le_of_ble_eq_true rfl) (fun X hX hR C hret => ?_)
  subst hX
  show Gx X E 0 0 (W_X9_put E o_t a_t t_told t_round t_x t_rooms) 0 [(0, .ref o_t), (1, .int x1), (2, .int x2)] []
  unfold f_X9_put at h
  refine g_iload_n (pc := 0) C dX9_put_0 rfl 1 rfl ?_
  refine g_iconst (pc := 1) (v := 0) C dX9_put_1 (by decide) ?_
  refine g_bipush (pc := 2) (v := 9) C dX9_put_2 (by decide) ?_
  obtain ⟨u1, hu1, h⟩ := bs h
  refine g_callSN (pc := 4) (st := []) (st1 := [.int u1]) (ws' := (W_X9_put E o_t a_t t_told t_round t_x t_rooms)) C mv_X11_isWithin ms_X11_isWithin mn_X9_40 (c_X11_isWithin X.2.1 E x1 (0 : Int32) (9 : Int32) u1 hu1) dX9_put_4 (by decide) rfl (Nat.le_of_ble_eq_true rfl) [] rfl (by decide) rfl rfl rfl rfl ?_
  refine g_if_eq (pc := 7) (tgt := 29) C dX9_put_7 (by decide) h (fun h => ?_) (fun h => ?_)
  · cases h
    exact hret _ _ _ dX9_put_29 rfl
  · refine g_aload_n (pc := 10) C dX9_put_10 rfl 0 rfl ?_
    refine g_get (pc := 11) C fl_X9_15 dX9_put_11 0 rfl rfl ?_
    refine g_iload_n (pc := 14) C dX9_put_14 rfl 1 rfl ?_
    refine g_iload_n (pc := 15) C dX9_put_15 rfl 2 rfl ?_
    refine g_iast (pc := 16) C dX9_put_16 1 rfl h (fun g2 h => ?_)
    refine g_ws (ws' := (W_X9_put E o_t a_t t_told t_round t_x g2)) rfl ?_
    refine g_aload_n (pc := 17) C dX9_put_17 rfl 0 rfl ?_
    refine g_dup (pc := 18) C dX9_put_18 rfl ?_
    refine g_get (pc := 19) C fl_X9_34 dX9_put_19 0 rfl rfl ?_
    refine g_iconst (pc := 22) (v := 1) C dX9_put_22 (by decide) ?_
    refine g_iload_n (pc := 23) C dX9_put_23 rfl 1 rfl ?_
    refine g_ishl (pc := 24) C dX9_put_24 ?_
    refine g_ior (pc := 25) C dX9_put_25 ?_
    refine g_nm h (fun v3 h => ?_)
    refine g_put (pc := 26) (ws' := (W_X9_put E o_t a_t v3 t_round t_x g2)) C .int fl_X9_34 dX9_put_26 0 rfl (by decide +kernel) rfl rfl (Nat.le_of_ble_eq_true rfl) rfl ?_
    cases h
    exact hret _ _ _ dX9_put_29 rfl
abbrev W_X9_roomOf (E : GE) (O_t : Nat) (a_t : Nat → Nat) (t_told : Int32) (t_round : Int32) (t_x : Int32) (t_rooms : (Nat → Int32)) : va_W := [(O_t, ob_X9 a_t t_told t_round t_x), (a_t 1, .inl (E.2.1, 10, .inl t_rooms))]
def f_X9_roomOf (t_told : Int32) (t_rooms : (Nat → Int32)) (x1 : Int32) : Option (Int32) := (f_X9_isTold t_told x1).bind fun u1 => if u1 = 0 then (some (-1 : Int32)) else rd t_rooms 10 x1 fun v2 => some v2
theorem dX9_roomOf_0 : decode cX9_roomOf 0 = .ok (.aload_n 0, 1) := by decide +kernel
theorem dX9_roomOf_1 : decode cX9_roomOf 1 = .ok (.iload_n 1, 1) := by decide +kernel
theorem dX9_roomOf_2 : decode cX9_roomOf 2 = .ok (.invokevirtual 44, 3) := by decide +kernel
theorem dX9_roomOf_5 : decode cX9_roomOf 5 = .ok (.ifCond .eq 12, 3) := by decide +kernel
theorem dX9_roomOf_8 : decode cX9_roomOf 8 = .ok (.aload_n 0, 1) := by decide +kernel
theorem dX9_roomOf_9 : decode cX9_roomOf 9 = .ok (.getfield 15, 3) := by decide +kernel
theorem dX9_roomOf_12 : decode cX9_roomOf 12 = .ok (.iload_n 1, 1) := by decide +kernel
theorem dX9_roomOf_13 : decode cX9_roomOf 13 = .ok (.iaload, 1) := by decide +kernel
theorem dX9_roomOf_14 : decode cX9_roomOf 14 = .ok (.goto 4, 3) := by decide +kernel
theorem dX9_roomOf_17 : decode cX9_roomOf 17 = .ok (.iconst (-1), 1) := by decide +kernel
theorem dX9_roomOf_18 : decode cX9_roomOf 18 = .ok (.ireturn, 1) := by decide +kernel
set_option maxHeartbeats 4000000 in
set_option maxRecDepth 100000 in
theorem c_X9_roomOf (l : Launch) (E : GE) (o_t : Nat) (a_t : Nat → Nat) (t_told : Int32) (t_round : Int32) (t_x : Int32) (t_rooms : (Nat → Int32)) (x1 : Int32) (r : Int32) (h : f_X9_roomOf t_told t_rooms x1 = some r) : Cn l E yX9_roomOf cX9_roomOf 2 (some .int) 2 0 0 [.ref o_t, .int x1] (W_X9_roomOf E o_t a_t t_told t_round t_x t_rooms) (fun w => w = (W_X9_roomOf E o_t a_t t_told t_round t_x t_rooms)) (some (.int r)) := by
  refine Cn.ofI (by decide +kernel) (Nat.le_of_ble_eq_true rfl) (fun X hX hR C hret => ?_)
  subst hX
  show Gx X E 0 0 (W_X9_roomOf E o_t a_t t_told t_round t_x t_rooms) 0 [(0, .ref o_t), (1, .int x1)] []
  unfold f_X9_roomOf at h
  refine g_aload_n (pc := 0) C dX9_roomOf_0 rfl 0 rfl ?_
  refine g_iload_n (pc := 1) C dX9_roomOf_1 rfl 1 rfl ?_
  obtain ⟨u1, hu1, h⟩ := bs h
  refine g_callV (pc := 2) (st := []) (st1 := [.int u1]) (ws' := (W_X9_roomOf E o_t a_t t_told t_round t_x t_rooms)) C mv_X9_isTold mi_X9_isTold ml_X9_44 (c_X9_isTold X.2.1 E o_t a_t t_told t_round t_x x1 u1 hu1) dX9_roomOf_2 (by decide) rfl (Nat.le_of_ble_eq_true rfl) 0 8 rfl rfl [0] rfl (by decide) rfl rfl rfl rfl ?_
  refine g_if_eq (pc := 5) (tgt := 17) C dX9_roomOf_5 (by decide) h (fun h => ?_) (fun h => ?_)
  · refine g_iconst (pc := 17) (v := -1) C dX9_roomOf_17 (by decide) ?_
    cases h
    exact hret _ _ _ dX9_roomOf_18 rfl rfl
  · refine g_aload_n (pc := 8) C dX9_roomOf_8 rfl 0 rfl ?_
    refine g_get (pc := 9) C fl_X9_15 dX9_roomOf_9 0 rfl rfl ?_
    refine g_iload_n (pc := 12) C dX9_roomOf_12 rfl 1 rfl ?_
    refine g_iald (pc := 13) C dX9_roomOf_13 1 rfl h (fun v2 h => ?_)
    refine g_goto (pc := 14) (tgt := 18) C dX9_roomOf_14 (by decide) ?_
    cases h
    exact hret _ _ _ dX9_roomOf_18 rfl rfl
abbrev W_X9_unrust (E : GE) (O_t : Nat) (a_t : Nat → Nat) (t_told : Int32) (t_round : Int32) (t_x : Int32) (t_rust : (Nat → Int32)) : va_W := [(O_t, ob_X9 a_t t_told t_round t_x), (a_t 0, .inl (E.2.1, 24, .inl t_rust))]
def f_X9_unrust (t_rust : (Nat → Int32)) (x1 : Int32) : Option ((Nat → Int32)) := (f_X11_isWithin x1 (0 : Int32) (23 : Int32)).bind fun u1 => if u1 = 0 then (some t_rust) else wr t_rust 24 x1 (0 : Int32) fun g2 => some g2
theorem dX9_unrust_0 : decode cX9_unrust 0 = .ok (.iload_n 1, 1) := by decide +kernel
theorem dX9_unrust_1 : decode cX9_unrust 1 = .ok (.iconst 0, 1) := by decide +kernel
theorem dX9_unrust_2 : decode cX9_unrust 2 = .ok (.bipush 23, 2) := by decide +kernel
theorem dX9_unrust_4 : decode cX9_unrust 4 = .ok (.invokestatic 40, 3) := by decide +kernel
theorem dX9_unrust_7 : decode cX9_unrust 7 = .ok (.ifCond .eq 10, 3) := by decide +kernel
theorem dX9_unrust_10 : decode cX9_unrust 10 = .ok (.aload_n 0, 1) := by decide +kernel
theorem dX9_unrust_11 : decode cX9_unrust 11 = .ok (.getfield 9, 3) := by decide +kernel
theorem dX9_unrust_14 : decode cX9_unrust 14 = .ok (.iload_n 1, 1) := by decide +kernel
theorem dX9_unrust_15 : decode cX9_unrust 15 = .ok (.iconst 0, 1) := by decide +kernel
theorem dX9_unrust_16 : decode cX9_unrust 16 = .ok (.iastore, 1) := by decide +kernel
theorem dX9_unrust_17 : decode cX9_unrust 17 = .ok (.return_, 1) := by decide +kernel
set_option maxHeartbeats 4000000 in
set_option maxRecDepth 100000 in
theorem c_X9_unrust (l : Launch) (E : GE) (o_t : Nat) (a_t : Nat → Nat) (t_told : Int32) (t_round : Int32) (t_x : Int32) (t_rust : (Nat → Int32)) (x1 : Int32) (r : (Nat → Int32)) (h : f_X9_unrust t_rust x1 = some r) : Cn l E yX9_unrust cX9_unrust 2 none 2 0 0 [.ref o_t, .int x1] (W_X9_unrust E o_t a_t t_told t_round t_x t_rust) (fun w => w = (W_X9_unrust E o_t a_t t_told t_round t_x r)) none := by
  refine Cn.ofV (by decide +kernel) (Nat.le_of_ble_eq_true rfl) (fun X hX hR C hret => ?_)
  subst hX
  show Gx X E 0 0 (W_X9_unrust E o_t a_t t_told t_round t_x t_rust) 0 [(0, .ref o_t), (1, .int x1)] []
  unfold f_X9_unrust at h
  refine g_iload_n (pc := 0) C dX9_unrust_0 rfl 1 rfl ?_
  refine g_iconst (pc := 1) (v := 0) C dX9_unrust_1 (by decide) ?_
  refine g_bipush (pc := 2) (v := 23) C dX9_unrust_2 (by decide) ?_
  obtain ⟨u1, hu1, h⟩ := bs h
  refine g_callSN (pc := 4) (st := []) (st1 := [.int u1]) (ws' := (W_X9_unrust E o_t a_t t_told t_round t_x t_rust)) C mv_X11_isWithin ms_X11_isWithin mn_X9_40 (c_X11_isWithin X.2.1 E x1 (0 : Int32) (23 : Int32) u1 hu1) dX9_unrust_4 (by decide) rfl (Nat.le_of_ble_eq_true rfl) [] rfl (by decide) rfl rfl rfl rfl ?_
  refine g_if_eq (pc := 7) (tgt := 17) C dX9_unrust_7 (by decide) h (fun h => ?_) (fun h => ?_)
  · cases h
    exact hret _ _ _ dX9_unrust_17 rfl
  · refine g_aload_n (pc := 10) C dX9_unrust_10 rfl 0 rfl ?_
    refine g_get (pc := 11) C fl_X9_9 dX9_unrust_11 0 rfl rfl ?_
    refine g_iload_n (pc := 14) C dX9_unrust_14 rfl 1 rfl ?_
    refine g_iconst (pc := 15) (v := 0) C dX9_unrust_15 (by decide) ?_
    refine g_iast (pc := 16) C dX9_unrust_16 1 rfl h (fun g2 h => ?_)
    refine g_ws (ws' := (W_X9_unrust E o_t a_t t_told t_round t_x g2)) rfl ?_
    cases h
    exact hret _ _ _ dX9_unrust_17 rfl
abbrev W_X9_whoPutUp (E : GE) (O_t : Nat) (a_t : Nat → Nat) (t_told : Int32) (t_round : Int32) (t_x : Int32) (t_hair : (Nat → Int32)) : va_W := [(O_t, ob_X9 a_t t_told t_round t_x), (a_t 2, .inl (E.2.1, 60, .inl t_hair))]
def L_X9_whoPutUp_5 (t_told : Int32) (t_hair : (Nat → Int32)) (x1 : Int32) (x2 : Int32) : Nat → Int32 × Int32 → Option (Int32) := lp fun go s => if (10 : Int32) ≤ s.2 then (some s.1) else (f_X9_isTold t_told s.2).bind fun u1 => if u1 = 0 then (nm (s.2 + (1 : Int32)) fun v2 => go (s.1, v2)) else (f_X11_isWithin x1 (0 : Int32) (5 : Int32)).bind fun u3 => if u3 = 0 then (nm (s.2 + (1 : Int32)) fun v4 => go (s.1, v4)) else rd t_hair 60 ((s.2 * (6 : Int32)) + x1) fun v5 => if v5 < x2 then (nm (s.2 + (1 : Int32)) fun v6 => go (s.1, v6)) else nm (s.1 ||| ((1 : Int32) <<< (s.2 &&& 31))) fun v7 => nm (s.2 + (1 : Int32)) fun v8 => go (v7, v8)
def f_X9_whoPutUp (t_told : Int32) (t_hair : (Nat → Int32)) (x1 : Int32) (x2 : Int32) : Option (Int32) := L_X9_whoPutUp_5 t_told t_hair x1 x2 fu ((0 : Int32), (0 : Int32))
theorem dX9_whoPutUp_0 : decode cX9_whoPutUp 0 = .ok (.iconst 0, 1) := by decide +kernel
theorem dX9_whoPutUp_1 : decode cX9_whoPutUp 1 = .ok (.istore_n 3, 1) := by decide +kernel
theorem dX9_whoPutUp_2 : decode cX9_whoPutUp 2 = .ok (.iconst 0, 1) := by decide +kernel
theorem dX9_whoPutUp_3 : decode cX9_whoPutUp 3 = .ok (.istore 4, 2) := by decide +kernel
theorem dX9_whoPutUp_5 : decode cX9_whoPutUp 5 = .ok (.iload 4, 2) := by decide +kernel
theorem dX9_whoPutUp_7 : decode cX9_whoPutUp 7 = .ok (.bipush 10, 2) := by decide +kernel
theorem dX9_whoPutUp_9 : decode cX9_whoPutUp 9 = .ok (.if_icmp .ge 50, 3) := by decide +kernel
theorem dX9_whoPutUp_12 : decode cX9_whoPutUp 12 = .ok (.aload_n 0, 1) := by decide +kernel
theorem dX9_whoPutUp_13 : decode cX9_whoPutUp 13 = .ok (.iload 4, 2) := by decide +kernel
theorem dX9_whoPutUp_15 : decode cX9_whoPutUp 15 = .ok (.invokevirtual 44, 3) := by decide +kernel
theorem dX9_whoPutUp_18 : decode cX9_whoPutUp 18 = .ok (.ifCond .eq 35, 3) := by decide +kernel
theorem dX9_whoPutUp_21 : decode cX9_whoPutUp 21 = .ok (.iload_n 1, 1) := by decide +kernel
theorem dX9_whoPutUp_22 : decode cX9_whoPutUp 22 = .ok (.iconst 0, 1) := by decide +kernel
theorem dX9_whoPutUp_23 : decode cX9_whoPutUp 23 = .ok (.iconst 5, 1) := by decide +kernel
theorem dX9_whoPutUp_24 : decode cX9_whoPutUp 24 = .ok (.invokestatic 40, 3) := by decide +kernel
theorem dX9_whoPutUp_27 : decode cX9_whoPutUp 27 = .ok (.ifCond .eq 26, 3) := by decide +kernel
theorem dX9_whoPutUp_30 : decode cX9_whoPutUp 30 = .ok (.aload_n 0, 1) := by decide +kernel
theorem dX9_whoPutUp_31 : decode cX9_whoPutUp 31 = .ok (.getfield 18, 3) := by decide +kernel
theorem dX9_whoPutUp_34 : decode cX9_whoPutUp 34 = .ok (.iload 4, 2) := by decide +kernel
theorem dX9_whoPutUp_36 : decode cX9_whoPutUp 36 = .ok (.bipush 6, 2) := by decide +kernel
theorem dX9_whoPutUp_38 : decode cX9_whoPutUp 38 = .ok (.imul, 1) := by decide +kernel
theorem dX9_whoPutUp_39 : decode cX9_whoPutUp 39 = .ok (.iload_n 1, 1) := by decide +kernel
theorem dX9_whoPutUp_40 : decode cX9_whoPutUp 40 = .ok (.iadd, 1) := by decide +kernel
theorem dX9_whoPutUp_41 : decode cX9_whoPutUp 41 = .ok (.iaload, 1) := by decide +kernel
theorem dX9_whoPutUp_42 : decode cX9_whoPutUp 42 = .ok (.iload_n 2, 1) := by decide +kernel
theorem dX9_whoPutUp_43 : decode cX9_whoPutUp 43 = .ok (.if_icmp .lt 10, 3) := by decide +kernel
theorem dX9_whoPutUp_46 : decode cX9_whoPutUp 46 = .ok (.iload_n 3, 1) := by decide +kernel
theorem dX9_whoPutUp_47 : decode cX9_whoPutUp 47 = .ok (.iconst 1, 1) := by decide +kernel
theorem dX9_whoPutUp_48 : decode cX9_whoPutUp 48 = .ok (.iload 4, 2) := by decide +kernel
theorem dX9_whoPutUp_50 : decode cX9_whoPutUp 50 = .ok (.ishl, 1) := by decide +kernel
theorem dX9_whoPutUp_51 : decode cX9_whoPutUp 51 = .ok (.ior, 1) := by decide +kernel
theorem dX9_whoPutUp_52 : decode cX9_whoPutUp 52 = .ok (.istore_n 3, 1) := by decide +kernel
theorem dX9_whoPutUp_53 : decode cX9_whoPutUp 53 = .ok (.iinc 4 1, 3) := by decide +kernel
theorem dX9_whoPutUp_56 : decode cX9_whoPutUp 56 = .ok (.goto (-51), 3) := by decide +kernel
theorem dX9_whoPutUp_59 : decode cX9_whoPutUp 59 = .ok (.iload_n 3, 1) := by decide +kernel
theorem dX9_whoPutUp_60 : decode cX9_whoPutUp 60 = .ok (.ireturn, 1) := by decide +kernel
set_option maxHeartbeats 4000000 in
set_option maxRecDepth 100000 in
theorem kL_X9_whoPutUp_5 {X : GC} {E : GE} (C : Cx X E cX9_whoPutUp RX9 2 5) (o_t : Nat) (a_t : Nat → Nat) (t_round : Int32) (t_x : Int32) (t_told : Int32) (t_hair : (Nat → Int32)) (x1 : Int32) (x2 : Int32) {r : Int32} (hret : RtI X E cX9_whoPutUp .int 0 0 (fun w => w = (W_X9_whoPutUp E o_t a_t t_told t_round t_x t_hair)) r) : ∀ (n : Nat) (s : Int32 × Int32), L_X9_whoPutUp_5 t_told t_hair x1 x2 n s = some r → Gx X E 0 0 (W_X9_whoPutUp E o_t a_t t_told t_round t_x t_hair) 5 [(0, .ref o_t), (1, .int x1), (2, .int x2), (3, .int s.1), (4, .int s.2)] [] := by
  unfold L_X9_whoPutUp_5
  refine lp_ind _ (fun go ih s h => ?_)
  refine g_iload (pc := 5) C dX9_whoPutUp_5 4 rfl ?_
  refine g_bipush (pc := 7) (v := 10) C dX9_whoPutUp_7 (by decide) ?_
  refine g_icmp_ge (pc := 9) (tgt := 59) C dX9_whoPutUp_9 (by decide) h (fun h => ?_) (fun h => ?_)
  · refine g_iload_n (pc := 59) C dX9_whoPutUp_59 rfl 3 rfl ?_
    cases h
    exact hret _ _ _ dX9_whoPutUp_60 rfl rfl
  · refine g_aload_n (pc := 12) C dX9_whoPutUp_12 rfl 0 rfl ?_
    refine g_iload (pc := 13) C dX9_whoPutUp_13 4 rfl ?_
    obtain ⟨u1, hu1, h⟩ := bs h
    refine g_callV (pc := 15) (st := []) (st1 := [.int u1]) (ws' := (W_X9_whoPutUp E o_t a_t t_told t_round t_x t_hair)) C mv_X9_isTold mi_X9_isTold ml_X9_44 (c_X9_isTold X.2.1 E o_t a_t t_told t_round t_x s.2 u1 hu1) dX9_whoPutUp_15 (by decide) rfl (Nat.le_of_ble_eq_true rfl) 0 8 rfl rfl [0] rfl (by decide) rfl rfl rfl rfl ?_
    refine g_if_eq (pc := 18) (tgt := 53) C dX9_whoPutUp_18 (by decide) h (fun h => ?_) (fun h => ?_)
    · refine g_iincn (pc := 53) (j := 4) (d := 1) (lv' := fun v2 => [(4, .int v2), (0, .ref o_t), (1, .int x1), (2, .int x2), (3, .int s.1)]) C dX9_whoPutUp_53 rfl (by decide) (by decide) (fun _ => rfl) h (fun v2 h => ?_)
      refine g_goto (pc := 56) (tgt := 5) C dX9_whoPutUp_56 (by decide) ?_
      refine g_sub [1, 2, 3, 4, 0] rfl ?_
      exact ih _ h
    · refine g_iload_n (pc := 21) C dX9_whoPutUp_21 rfl 1 rfl ?_
      refine g_iconst (pc := 22) (v := 0) C dX9_whoPutUp_22 (by decide) ?_
      refine g_iconst (pc := 23) (v := 5) C dX9_whoPutUp_23 (by decide) ?_
      obtain ⟨u3, hu3, h⟩ := bs h
      refine g_callSN (pc := 24) (st := []) (st1 := [.int u3]) (ws' := (W_X9_whoPutUp E o_t a_t t_told t_round t_x t_hair)) C mv_X11_isWithin ms_X11_isWithin mn_X9_40 (c_X11_isWithin X.2.1 E x1 (0 : Int32) (5 : Int32) u3 hu3) dX9_whoPutUp_24 (by decide) rfl (Nat.le_of_ble_eq_true rfl) [] rfl (by decide) rfl rfl rfl rfl ?_
      refine g_if_eq (pc := 27) (tgt := 53) C dX9_whoPutUp_27 (by decide) h (fun h => ?_) (fun h => ?_)
      · refine g_iincn (pc := 53) (j := 4) (d := 1) (lv' := fun v4 => [(4, .int v4), (0, .ref o_t), (1, .int x1), (2, .int x2), (3, .int s.1)]) C dX9_whoPutUp_53 rfl (by decide) (by decide) (fun _ => rfl) h (fun v4 h => ?_)
        refine g_goto (pc := 56) (tgt := 5) C dX9_whoPutUp_56 (by decide) ?_
        refine g_sub [1, 2, 3, 4, 0] rfl ?_
        exact ih _ h
      · refine g_aload_n (pc := 30) C dX9_whoPutUp_30 rfl 0 rfl ?_
        refine g_get (pc := 31) C fl_X9_18 dX9_whoPutUp_31 0 rfl rfl ?_
        refine g_iload (pc := 34) C dX9_whoPutUp_34 4 rfl ?_
        refine g_bipush (pc := 36) (v := 6) C dX9_whoPutUp_36 (by decide) ?_
        refine g_imul (pc := 38) C dX9_whoPutUp_38 ?_
        refine g_iload_n (pc := 39) C dX9_whoPutUp_39 rfl 1 rfl ?_
        refine g_iadd (pc := 40) C dX9_whoPutUp_40 ?_
        refine g_iald (pc := 41) C dX9_whoPutUp_41 1 rfl h (fun v5 h => ?_)
        refine g_iload_n (pc := 42) C dX9_whoPutUp_42 rfl 2 rfl ?_
        refine g_icmp_lt (pc := 43) (tgt := 53) C dX9_whoPutUp_43 (by decide) h (fun h => ?_) (fun h => ?_)
        · refine g_iincn (pc := 53) (j := 4) (d := 1) (lv' := fun v6 => [(4, .int v6), (0, .ref o_t), (1, .int x1), (2, .int x2), (3, .int s.1)]) C dX9_whoPutUp_53 rfl (by decide) (by decide) (fun _ => rfl) h (fun v6 h => ?_)
          refine g_goto (pc := 56) (tgt := 5) C dX9_whoPutUp_56 (by decide) ?_
          refine g_sub [1, 2, 3, 4, 0] rfl ?_
          exact ih _ h
        · refine g_iload_n (pc := 46) C dX9_whoPutUp_46 rfl 3 rfl ?_
          refine g_iconst (pc := 47) (v := 1) C dX9_whoPutUp_47 (by decide) ?_
          refine g_iload (pc := 48) C dX9_whoPutUp_48 4 rfl ?_
          refine g_ishl (pc := 50) C dX9_whoPutUp_50 ?_
          refine g_ior (pc := 51) C dX9_whoPutUp_51 ?_
          refine g_nm h (fun v7 h => ?_)
          refine g_istore_n (pc := 52) (lv' := [(3, .int v7), (0, .ref o_t), (1, .int x1), (2, .int x2), (4, .int s.2)]) C dX9_whoPutUp_52 rfl (by decide) rfl ?_
          refine g_iincn (pc := 53) (j := 4) (d := 1) (lv' := fun v8 => [(4, .int v8), (3, .int v7), (0, .ref o_t), (1, .int x1), (2, .int x2)]) C dX9_whoPutUp_53 rfl (by decide) (by decide) (fun _ => rfl) h (fun v8 h => ?_)
          refine g_goto (pc := 56) (tgt := 5) C dX9_whoPutUp_56 (by decide) ?_
          refine g_sub [2, 3, 4, 1, 0] rfl ?_
          exact ih _ h
set_option maxHeartbeats 4000000 in
set_option maxRecDepth 100000 in
theorem c_X9_whoPutUp (l : Launch) (E : GE) (o_t : Nat) (a_t : Nat → Nat) (t_told : Int32) (t_round : Int32) (t_x : Int32) (t_hair : (Nat → Int32)) (x1 : Int32) (x2 : Int32) (r : Int32) (h : f_X9_whoPutUp t_told t_hair x1 x2 = some r) : Cn l E yX9_whoPutUp cX9_whoPutUp 5 (some .int) 2 0 0 [.ref o_t, .int x1, .int x2] (W_X9_whoPutUp E o_t a_t t_told t_round t_x t_hair) (fun w => w = (W_X9_whoPutUp E o_t a_t t_told t_round t_x t_hair)) (some (.int r)) := by
  refine Cn.ofI (by decide +kernel) (Nat.le_of_ble_eq_true rfl) (fun X hX hR C hret => ?_)
  subst hX
  show Gx X E 0 0 (W_X9_whoPutUp E o_t a_t t_told t_round t_x t_hair) 0 [(0, .ref o_t), (1, .int x1), (2, .int x2)] []
  unfold f_X9_whoPutUp at h
  refine g_iconst (pc := 0) (v := 0) C dX9_whoPutUp_0 (by decide) ?_
  refine g_istore_n (pc := 1) (lv' := [(3, .int (0 : Int32)), (0, .ref o_t), (1, .int x1), (2, .int x2)]) C dX9_whoPutUp_1 rfl (by decide) rfl ?_
  refine g_iconst (pc := 2) (v := 0) C dX9_whoPutUp_2 (by decide) ?_
  refine g_istore (pc := 3) (lv' := [(4, .int (0 : Int32)), (3, .int (0 : Int32)), (0, .ref o_t), (1, .int x1), (2, .int x2)]) C dX9_whoPutUp_3 (by decide) rfl ?_
  refine g_sub [2, 3, 4, 1, 0] rfl ?_
  refine kL_X9_whoPutUp_5 C o_t a_t t_round t_x t_told t_hair x1 x2 hret  _ _ h
abbrev W_X9_takePin (E : GE) (O_t : Nat) (a_t : Nat → Nat) (t_told : Int32) (t_round : Int32) (t_x : Int32) (t_pins : (Nat → Int32)) : va_W := [(O_t, ob_X9 a_t t_told t_round t_x), (a_t 3, .inl (E.2.1, 60, .inl t_pins))]
def f_X9_takePin (t_told : Int32) (t_pins : (Nat → Int32)) (x1 : Int32) (x2 : Int32) : Option ((Nat → Int32)) := (f_X9_pinsOfKind t_told t_pins x1 x2).bind fun u1 => if u1 ≤ 0 then (some t_pins) else nm ((x1 * (6 : Int32)) + x2) fun v2 => rd t_pins 60 v2 fun v3 => wr t_pins 60 v2 (v3 - (1 : Int32)) fun g4 => some g4
theorem dX9_takePin_0 : decode cX9_takePin 0 = .ok (.aload_n 0, 1) := by decide +kernel
theorem dX9_takePin_1 : decode cX9_takePin 1 = .ok (.iload_n 1, 1) := by decide +kernel
theorem dX9_takePin_2 : decode cX9_takePin 2 = .ok (.iload_n 2, 1) := by decide +kernel
theorem dX9_takePin_3 : decode cX9_takePin 3 = .ok (.invokevirtual 48, 3) := by decide +kernel
theorem dX9_takePin_6 : decode cX9_takePin 6 = .ok (.ifCond .le 18, 3) := by decide +kernel
theorem dX9_takePin_9 : decode cX9_takePin 9 = .ok (.aload_n 0, 1) := by decide +kernel
theorem dX9_takePin_10 : decode cX9_takePin 10 = .ok (.getfield 21, 3) := by decide +kernel
theorem dX9_takePin_13 : decode cX9_takePin 13 = .ok (.iload_n 1, 1) := by decide +kernel
theorem dX9_takePin_14 : decode cX9_takePin 14 = .ok (.bipush 6, 2) := by decide +kernel
theorem dX9_takePin_16 : decode cX9_takePin 16 = .ok (.imul, 1) := by decide +kernel
theorem dX9_takePin_17 : decode cX9_takePin 17 = .ok (.iload_n 2, 1) := by decide +kernel
theorem dX9_takePin_18 : decode cX9_takePin 18 = .ok (.iadd, 1) := by decide +kernel
theorem dX9_takePin_19 : decode cX9_takePin 19 = .ok (.dup2, 1) := by decide +kernel
theorem dX9_takePin_20 : decode cX9_takePin 20 = .ok (.iaload, 1) := by decide +kernel
theorem dX9_takePin_21 : decode cX9_takePin 21 = .ok (.iconst 1, 1) := by decide +kernel
theorem dX9_takePin_22 : decode cX9_takePin 22 = .ok (.isub, 1) := by decide +kernel
theorem dX9_takePin_23 : decode cX9_takePin 23 = .ok (.iastore, 1) := by decide +kernel
theorem dX9_takePin_24 : decode cX9_takePin 24 = .ok (.return_, 1) := by decide +kernel
set_option maxHeartbeats 4000000 in
set_option maxRecDepth 100000 in
theorem c_X9_takePin (l : Launch) (E : GE) (o_t : Nat) (a_t : Nat → Nat) (t_told : Int32) (t_round : Int32) (t_x : Int32) (t_pins : (Nat → Int32)) (x1 : Int32) (x2 : Int32) (r : (Nat → Int32)) (h : f_X9_takePin t_told t_pins x1 x2 = some r) : Cn l E yX9_takePin cX9_takePin 3 none 3 0 0 [.ref o_t, .int x1, .int x2] (W_X9_takePin E o_t a_t t_told t_round t_x t_pins) (fun w => w = (W_X9_takePin E o_t a_t t_told t_round t_x r)) none := by
  refine Cn.ofV (by decide +kernel) (Nat.le_of_ble_eq_true rfl) (fun X hX hR C hret => ?_)
  subst hX
  show Gx X E 0 0 (W_X9_takePin E o_t a_t t_told t_round t_x t_pins) 0 [(0, .ref o_t), (1, .int x1), (2, .int x2)] []
  unfold f_X9_takePin at h
  refine g_aload_n (pc := 0) C dX9_takePin_0 rfl 0 rfl ?_
  refine g_iload_n (pc := 1) C dX9_takePin_1 rfl 1 rfl ?_
  refine g_iload_n (pc := 2) C dX9_takePin_2 rfl 2 rfl ?_
  obtain ⟨u1, hu1, h⟩ := bs h
  refine g_callV (pc := 3) (st := []) (st1 := [.int u1]) (ws' := (W_X9_takePin E o_t a_t t_told t_round t_x t_pins)) C mv_X9_pinsOfKind mi_X9_pinsOfKind ml_X9_48 (c_X9_pinsOfKind X.2.1 E o_t a_t t_told t_round t_x t_pins x1 x2 u1 hu1) dX9_takePin_3 (by decide) rfl (Nat.le_of_ble_eq_true rfl) 0 8 rfl rfl [0, 1] rfl (by decide) rfl rfl rfl rfl ?_
  refine g_if_le (pc := 6) (tgt := 24) C dX9_takePin_6 (by decide) h (fun h => ?_) (fun h => ?_)
  · cases h
    exact hret _ _ _ dX9_takePin_24 rfl
  · refine g_aload_n (pc := 9) C dX9_takePin_9 rfl 0 rfl ?_
    refine g_get (pc := 10) C fl_X9_21 dX9_takePin_10 0 rfl rfl ?_
    refine g_iload_n (pc := 13) C dX9_takePin_13 rfl 1 rfl ?_
    refine g_bipush (pc := 14) (v := 6) C dX9_takePin_14 (by decide) ?_
    refine g_imul (pc := 16) C dX9_takePin_16 ?_
    refine g_iload_n (pc := 17) C dX9_takePin_17 rfl 2 rfl ?_
    refine g_iadd (pc := 18) C dX9_takePin_18 ?_
    refine g_nm h (fun v2 h => ?_)
    refine g_dup2 (pc := 19) C dX9_takePin_19 rfl rfl ?_
    refine g_iald (pc := 20) C dX9_takePin_20 1 rfl h (fun v3 h => ?_)
    refine g_iconst (pc := 21) (v := 1) C dX9_takePin_21 (by decide) ?_
    refine g_isub (pc := 22) C dX9_takePin_22 ?_
    refine g_iast (pc := 23) C dX9_takePin_23 1 rfl h (fun g4 h => ?_)
    refine g_ws (ws' := (W_X9_takePin E o_t a_t t_told t_round t_x g4)) rfl ?_
    cases h
    exact hret _ _ _ dX9_takePin_24 rfl
