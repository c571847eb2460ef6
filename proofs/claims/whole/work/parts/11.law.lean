abbrev W_X2_add (E : GE) (O_t : Nat) (a_t : Nat → Nat) (t_size : Int32) (t_rules : Int32) (t_signs : (Nat → Int32)) (t_values : (Nat → Int32)) : va_W := [(O_t, ob_X2 a_t t_size t_rules), (a_t 0, .inl (E.2.1, 256, .inl t_signs)), (a_t 1, .inl (E.2.1, 256, .inl t_values))]
def f_X2_add (t_size : Int32) (t_signs : (Nat → Int32)) (t_values : (Nat → Int32)) (x1 : Int32) (x2 : Int32) : Option (Int32 × Int32 × (Nat → Int32) × (Nat → Int32)) := if t_size < (256 : Int32) then (wr t_signs 256 t_size x1 fun g1 => wr t_values 256 t_size x2 fun g2 => nm (t_size + (1 : Int32)) fun v3 => some ((v3 - (1 : Int32)), v3, g1, g2)) else some ((-1 : Int32), t_size, t_signs, t_values)
theorem dX2_add_0 : decode cX2_add 0 = .ok (.aload_n 0, 1) := by decide +kernel
theorem dX2_add_1 : decode cX2_add 1 = .ok (.getfield 37, 3) := by decide +kernel
theorem dX2_add_4 : decode cX2_add 4 = .ok (.sipush 256, 3) := by decide +kernel
theorem dX2_add_7 : decode cX2_add 7 = .ok (.if_icmp .lt 5, 3) := by decide +kernel
theorem dX2_add_10 : decode cX2_add 10 = .ok (.iconst (-1), 1) := by decide +kernel
theorem dX2_add_11 : decode cX2_add 11 = .ok (.ireturn, 1) := by decide +kernel
theorem dX2_add_12 : decode cX2_add 12 = .ok (.aload_n 0, 1) := by decide +kernel
theorem dX2_add_13 : decode cX2_add 13 = .ok (.getfield 11, 3) := by decide +kernel
theorem dX2_add_16 : decode cX2_add 16 = .ok (.aload_n 0, 1) := by decide +kernel
theorem dX2_add_17 : decode cX2_add 17 = .ok (.getfield 37, 3) := by decide +kernel
theorem dX2_add_20 : decode cX2_add 20 = .ok (.iload_n 1, 1) := by decide +kernel
theorem dX2_add_21 : decode cX2_add 21 = .ok (.iastore, 1) := by decide +kernel
theorem dX2_add_22 : decode cX2_add 22 = .ok (.aload_n 0, 1) := by decide +kernel
theorem dX2_add_23 : decode cX2_add 23 = .ok (.getfield 15, 3) := by decide +kernel
theorem dX2_add_26 : decode cX2_add 26 = .ok (.aload_n 0, 1) := by decide +kernel
theorem dX2_add_27 : decode cX2_add 27 = .ok (.getfield 37, 3) := by decide +kernel
theorem dX2_add_30 : decode cX2_add 30 = .ok (.iload_n 2, 1) := by decide +kernel
theorem dX2_add_31 : decode cX2_add 31 = .ok (.iastore, 1) := by decide +kernel
theorem dX2_add_32 : decode cX2_add 32 = .ok (.aload_n 0, 1) := by decide +kernel
theorem dX2_add_33 : decode cX2_add 33 = .ok (.dup, 1) := by decide +kernel
theorem dX2_add_34 : decode cX2_add 34 = .ok (.getfield 37, 3) := by decide +kernel
theorem dX2_add_37 : decode cX2_add 37 = .ok (.iconst 1, 1) := by decide +kernel
theorem dX2_add_38 : decode cX2_add 38 = .ok (.iadd, 1) := by decide +kernel
theorem dX2_add_39 : decode cX2_add 39 = .ok (.putfield 37, 3) := by decide +kernel
theorem dX2_add_42 : decode cX2_add 42 = .ok (.aload_n 0, 1) := by decide +kernel
theorem dX2_add_43 : decode cX2_add 43 = .ok (.getfield 37, 3) := by decide +kernel
theorem dX2_add_46 : decode cX2_add 46 = .ok (.iconst 1, 1) := by decide +kernel
theorem dX2_add_47 : decode cX2_add 47 = .ok (.isub, 1) := by decide +kernel
theorem dX2_add_48 : decode cX2_add 48 = .ok (.ireturn, 1) := by decide +kernel
set_option maxHeartbeats 4000000 in
set_option maxRecDepth 100000 in
theorem c_X2_add (l : Launch) (E : GE) (o_t : Nat) (a_t : Nat → Nat) (t_size : Int32) (t_rules : Int32) (t_signs : (Nat → Int32)) (t_values : (Nat → Int32)) (x1 : Int32) (x2 : Int32) (r : Int32 × Int32 × (Nat → Int32) × (Nat → Int32)) (h : f_X2_add t_size t_signs t_values x1 x2 = some r) : Cn l E yX2_add cX2_add 3 (some .int) 1 0 0 [.ref o_t, .int x1, .int x2] (W_X2_add E o_t a_t t_size t_rules t_signs t_values) (fun w => w = (W_X2_add E o_t a_t r.2.1 t_rules r.2.2.1 r.2.2.2)) (some (.int r.1)) := by
  refine Cn.ofI (by decide +kernel) (Nat.le_of_ble_eq_true rfl) (fun X hX hR C hret => ?_)
  subst hX
  show Gx X E 0 0 (W_X2_add E o_t a_t t_size t_rules t_signs t_values) 0 [(0, .ref o_t), (1, .int x1), (2, .int x2)] []
  unfold f_X2_add at h
  refine g_aload_n (pc := 0) C dX2_add_0 rfl 0 rfl ?_
  refine g_get (pc := 1) C fl_X2_37 dX2_add_1 0 rfl rfl ?_
  refine g_sipush (pc := 4) (v := 256) C dX2_add_4 (by decide) ?_
  refine g_icmp_lt (pc := 7) (tgt := 12) C dX2_add_7 (by decide) h (fun h => ?_) (fun h => ?_)
  · refine g_aload_n (pc := 12) C dX2_add_12 rfl 0 rfl ?_
    refine g_get (pc := 13) C fl_X2_11 dX2_add_13 0 rfl rfl ?_
    refine g_aload_n (pc := 16) C dX2_add_16 rfl 0 rfl ?_
    refine g_get (pc := 17) C fl_X2_37 dX2_add_17 0 rfl rfl ?_
    refine g_iload_n (pc := 20) C dX2_add_20 rfl 1 rfl ?_
    refine g_iast (pc := 21) C dX2_add_21 1 rfl h (fun g1 h => ?_)
    refine g_ws (ws' := (W_X2_add E o_t a_t t_size t_rules g1 t_values)) rfl ?_
    refine g_aload_n (pc := 22) C dX2_add_22 rfl 0 rfl ?_
    refine g_get (pc := 23) C fl_X2_15 dX2_add_23 0 rfl rfl ?_
    refine g_aload_n (pc := 26) C dX2_add_26 rfl 0 rfl ?_
    refine g_get (pc := 27) C fl_X2_37 dX2_add_27 0 rfl rfl ?_
    refine g_iload_n (pc := 30) C dX2_add_30 rfl 2 rfl ?_
    refine g_iast (pc := 31) C dX2_add_31 2 rfl h (fun g2 h => ?_)
    refine g_ws (ws' := (W_X2_add E o_t a_t t_size t_rules g1 g2)) rfl ?_
    refine g_aload_n (pc := 32) C dX2_add_32 rfl 0 rfl ?_
    refine g_dup (pc := 33) C dX2_add_33 rfl ?_
    refine g_get (pc := 34) C fl_X2_37 dX2_add_34 0 rfl rfl ?_
    refine g_iconst (pc := 37) (v := 1) C dX2_add_37 (by decide) ?_
    refine g_iadd (pc := 38) C dX2_add_38 ?_
    refine g_nm h (fun v3 h => ?_)
    refine g_put (pc := 39) (ws' := (W_X2_add E o_t a_t v3 t_rules g1 g2)) C .int fl_X2_37 dX2_add_39 0 rfl (by decide +kernel) rfl rfl (Nat.le_of_ble_eq_true rfl) rfl ?_
    refine g_aload_n (pc := 42) C dX2_add_42 rfl 0 rfl ?_
    refine g_get (pc := 43) C fl_X2_37 dX2_add_43 0 rfl rfl ?_
    refine g_iconst (pc := 46) (v := 1) C dX2_add_46 (by decide) ?_
    refine g_isub (pc := 47) C dX2_add_47 ?_
    cases h
    exact hret _ _ _ dX2_add_48 rfl rfl
  · refine g_iconst (pc := 10) (v := -1) C dX2_add_10 (by decide) ?_
    cases h
    exact hret _ _ _ dX2_add_11 rfl rfl
abbrev W_X2_clear (E : GE) (O_t : Nat) (a_t : Nat → Nat) (t_size : Int32) (t_rules : Int32) : va_W := [(O_t, ob_X2 a_t t_size t_rules)]
def f_X2_clear (t_size : Int32) (t_rules : Int32) : Option (Int32 × Int32) := some ((0 : Int32), (0 : Int32))
theorem dX2_clear_0 : decode cX2_clear 0 = .ok (.aload_n 0, 1) := by decide +kernel
theorem dX2_clear_1 : decode cX2_clear 1 = .ok (.iconst 0, 1) := by decide +kernel
theorem dX2_clear_2 : decode cX2_clear 2 = .ok (.putfield 37, 3) := by decide +kernel
theorem dX2_clear_5 : decode cX2_clear 5 = .ok (.aload_n 0, 1) := by decide +kernel
theorem dX2_clear_6 : decode cX2_clear 6 = .ok (.iconst 0, 1) := by decide +kernel
theorem dX2_clear_7 : decode cX2_clear 7 = .ok (.putfield 41, 3) := by decide +kernel
theorem dX2_clear_10 : decode cX2_clear 10 = .ok (.return_, 1) := by decide +kernel
set_option maxHeartbeats 4000000 in
set_option maxRecDepth 100000 in
theorem c_X2_clear (l : Launch) (E : GE) (o_t : Nat) (a_t : Nat → Nat) (t_size : Int32) (t_rules : Int32) (r : Int32 × Int32) (h : f_X2_clear t_size t_rules = some r) : Cn l E yX2_clear cX2_clear 1 none 1 0 0 [.ref o_t] (W_X2_clear E o_t a_t t_size t_rules) (fun w => w = (W_X2_clear E o_t a_t r.1 r.2)) none := by
  refine Cn.ofV (by decide +kernel) (Nat.le_of_ble_eq_true rfl) (fun X hX hR C hret => ?_)
  subst hX
  show Gx X E 0 0 (W_X2_clear E o_t a_t t_size t_rules) 0 [(0, .ref o_t)] []
  unfold f_X2_clear at h
  refine g_aload_n (pc := 0) C dX2_clear_0 rfl 0 rfl ?_
  refine g_iconst (pc := 1) (v := 0) C dX2_clear_1 (by decide) ?_
  refine g_put (pc := 2) (ws' := (W_X2_clear E o_t a_t (0 : Int32) t_rules)) C .int fl_X2_37 dX2_clear_2 0 rfl (by decide +kernel) rfl rfl (Nat.le_of_ble_eq_true rfl) rfl ?_
  refine g_aload_n (pc := 5) C dX2_clear_5 rfl 0 rfl ?_
  refine g_iconst (pc := 6) (v := 0) C dX2_clear_6 (by decide) ?_
  refine g_put (pc := 7) (ws' := (W_X2_clear E o_t a_t (0 : Int32) (0 : Int32))) C .int fl_X2_41 dX2_clear_7 0 rfl (by decide +kernel) rfl rfl (Nat.le_of_ble_eq_true rfl) rfl ?_
  cases h
  exact hret _ _ _ dX2_clear_10 rfl
abbrev W_X2_endRule (E : GE) (O_t : Nat) (a_t : Nat → Nat) (t_size : Int32) (t_rules : Int32) (t_letters : (Nat → Int32)) (t_amounts : (Nat → Int32)) (t_conditions : (Nat → Int32)) (t_ends : (Nat → Int32)) : va_W := [(O_t, ob_X2 a_t t_size t_rules), (a_t 3, .inl (E.2.1, 16, .inl t_letters)), (a_t 4, .inl (E.2.1, 16, .inl t_amounts)), (a_t 5, .inl (E.2.1, 16, .inl t_conditions)), (a_t 6, .inl (E.2.1, 16, .inl t_ends))]
def f_X2_endRule (t_size : Int32) (t_rules : Int32) (t_letters : (Nat → Int32)) (t_amounts : (Nat → Int32)) (t_conditions : (Nat → Int32)) (t_ends : (Nat → Int32)) (x1 : Int32) (x2 : Int32) (x3 : Int32) : Option (Int32 × (Nat → Int32) × (Nat → Int32) × (Nat → Int32) × (Nat → Int32)) := if (16 : Int32) ≤ t_rules then (some (t_rules, t_letters, t_amounts, t_conditions, t_ends)) else wr t_letters 16 t_rules x1 fun g1 => wr t_amounts 16 t_rules x2 fun g2 => wr t_conditions 16 t_rules x3 fun g3 => wr t_ends 16 t_rules t_size fun g4 => nm (t_rules + (1 : Int32)) fun v5 => some (v5, g1, g2, g3, g4)
theorem dX2_endRule_0 : decode cX2_endRule 0 = .ok (.aload_n 0, 1) := by decide +kernel
theorem dX2_endRule_1 : decode cX2_endRule 1 = .ok (.getfield 41, 3) := by decide +kernel
theorem dX2_endRule_4 : decode cX2_endRule 4 = .ok (.bipush 16, 2) := by decide +kernel
theorem dX2_endRule_6 : decode cX2_endRule 6 = .ok (.if_icmp .ge 56, 3) := by decide +kernel
theorem dX2_endRule_9 : decode cX2_endRule 9 = .ok (.aload_n 0, 1) := by decide +kernel
theorem dX2_endRule_10 : decode cX2_endRule 10 = .ok (.getfield 21, 3) := by decide +kernel
theorem dX2_endRule_13 : decode cX2_endRule 13 = .ok (.aload_n 0, 1) := by decide +kernel
theorem dX2_endRule_14 : decode cX2_endRule 14 = .ok (.getfield 41, 3) := by decide +kernel
theorem dX2_endRule_17 : decode cX2_endRule 17 = .ok (.iload_n 1, 1) := by decide +kernel
theorem dX2_endRule_18 : decode cX2_endRule 18 = .ok (.iastore, 1) := by decide +kernel
theorem dX2_endRule_19 : decode cX2_endRule 19 = .ok (.aload_n 0, 1) := by decide +kernel
theorem dX2_endRule_20 : decode cX2_endRule 20 = .ok (.getfield 24, 3) := by decide +kernel
theorem dX2_endRule_23 : decode cX2_endRule 23 = .ok (.aload_n 0, 1) := by decide +kernel
theorem dX2_endRule_24 : decode cX2_endRule 24 = .ok (.getfield 41, 3) := by decide +kernel
theorem dX2_endRule_27 : decode cX2_endRule 27 = .ok (.iload_n 2, 1) := by decide +kernel
theorem dX2_endRule_28 : decode cX2_endRule 28 = .ok (.iastore, 1) := by decide +kernel
theorem dX2_endRule_29 : decode cX2_endRule 29 = .ok (.aload_n 0, 1) := by decide +kernel
theorem dX2_endRule_30 : decode cX2_endRule 30 = .ok (.getfield 27, 3) := by decide +kernel
theorem dX2_endRule_33 : decode cX2_endRule 33 = .ok (.aload_n 0, 1) := by decide +kernel
theorem dX2_endRule_34 : decode cX2_endRule 34 = .ok (.getfield 41, 3) := by decide +kernel
theorem dX2_endRule_37 : decode cX2_endRule 37 = .ok (.iload_n 3, 1) := by decide +kernel
theorem dX2_endRule_38 : decode cX2_endRule 38 = .ok (.iastore, 1) := by decide +kernel
theorem dX2_endRule_39 : decode cX2_endRule 39 = .ok (.aload_n 0, 1) := by decide +kernel
theorem dX2_endRule_40 : decode cX2_endRule 40 = .ok (.getfield 30, 3) := by decide +kernel
theorem dX2_endRule_43 : decode cX2_endRule 43 = .ok (.aload_n 0, 1) := by decide +kernel
theorem dX2_endRule_44 : decode cX2_endRule 44 = .ok (.getfield 41, 3) := by decide +kernel
theorem dX2_endRule_47 : decode cX2_endRule 47 = .ok (.aload_n 0, 1) := by decide +kernel
theorem dX2_endRule_48 : decode cX2_endRule 48 = .ok (.getfield 37, 3) := by decide +kernel
theorem dX2_endRule_51 : decode cX2_endRule 51 = .ok (.iastore, 1) := by decide +kernel
theorem dX2_endRule_52 : decode cX2_endRule 52 = .ok (.aload_n 0, 1) := by decide +kernel
theorem dX2_endRule_53 : decode cX2_endRule 53 = .ok (.dup, 1) := by decide +kernel
theorem dX2_endRule_54 : decode cX2_endRule 54 = .ok (.getfield 41, 3) := by decide +kernel
theorem dX2_endRule_57 : decode cX2_endRule 57 = .ok (.iconst 1, 1) := by decide +kernel
theorem dX2_endRule_58 : decode cX2_endRule 58 = .ok (.iadd, 1) := by decide +kernel
theorem dX2_endRule_59 : decode cX2_endRule 59 = .ok (.putfield 41, 3) := by decide +kernel
theorem dX2_endRule_62 : decode cX2_endRule 62 = .ok (.return_, 1) := by decide +kernel
set_option maxHeartbeats 4000000 in
set_option maxRecDepth 100000 in
theorem c_X2_endRule (l : Launch) (E : GE) (o_t : Nat) (a_t : Nat → Nat) (t_size : Int32) (t_rules : Int32) (t_letters : (Nat → Int32)) (t_amounts : (Nat → Int32)) (t_conditions : (Nat → Int32)) (t_ends : (Nat → Int32)) (x1 : Int32) (x2 : Int32) (x3 : Int32) (r : Int32 × (Nat → Int32) × (Nat → Int32) × (Nat → Int32) × (Nat → Int32)) (h : f_X2_endRule t_size t_rules t_letters t_amounts t_conditions t_ends x1 x2 x3 = some r) : Cn l E yX2_endRule cX2_endRule 4 none 1 0 0 [.ref o_t, .int x1, .int x2, .int x3] (W_X2_endRule E o_t a_t t_size t_rules t_letters t_amounts t_conditions t_ends) (fun w => w = (W_X2_endRule E o_t a_t t_size r.1 r.2.1 r.2.2.1 r.2.2.2.1 r.2.2.2.2)) none := by
  refine Cn.ofV (by decide +kernel) (Nat.le_of_ble_eq_true rfl) (fun X hX hR C hret => ?_)
  subst hX
  show Gx X E 0 0 (W_X2_endRule E o_t a_t t_size t_rules t_letters t_amounts t_conditions t_ends) 0 [(0, .ref o_t), (1, .int x1), (2, .int x2), (3, .int x3)] []
  unfold f_X2_endRule at h
  refine g_aload_n (pc := 0) C dX2_endRule_0 rfl 0 rfl ?_
  refine g_get (pc := 1) C fl_X2_41 dX2_endRule_1 0 rfl rfl ?_
  refine g_bipush (pc := 4) (v := 16) C dX2_endRule_4 (by decide) ?_
  refine g_icmp_ge (pc := 6) (tgt := 62) C dX2_endRule_6 (by decide) h (fun h => ?_) (fun h => ?_)
  · cases h
    exact hret _ _ _ dX2_endRule_62 rfl
  · refine g_aload_n (pc := 9) C dX2_endRule_9 rfl 0 rfl ?_
    refine g_get (pc := 10) C fl_X2_21 dX2_endRule_10 0 rfl rfl ?_
    refine g_aload_n (pc := 13) C dX2_endRule_13 rfl 0 rfl ?_
    refine g_get (pc := 14) C fl_X2_41 dX2_endRule_14 0 rfl rfl ?_
    refine g_iload_n (pc := 17) C dX2_endRule_17 rfl 1 rfl ?_
    refine g_iast (pc := 18) C dX2_endRule_18 1 rfl h (fun g1 h => ?_)
    refine g_ws (ws' := (W_X2_endRule E o_t a_t t_size t_rules g1 t_amounts t_conditions t_ends)) rfl ?_
    refine g_aload_n (pc := 19) C dX2_endRule_19 rfl 0 rfl ?_
    refine g_get (pc := 20) C fl_X2_24 dX2_endRule_20 0 rfl rfl ?_
    refine g_aload_n (pc := 23) C dX2_endRule_23 rfl 0 rfl ?_
    refine g_get (pc := 24) C fl_X2_41 dX2_endRule_24 0 rfl rfl ?_
    refine g_iload_n (pc := 27) C dX2_endRule_27 rfl 2 rfl ?_
    refine g_iast (pc := 28) C dX2_endRule_28 2 rfl h (fun g2 h => ?_)
    refine g_ws (ws' := (W_X2_endRule E o_t a_t t_size t_rules g1 g2 t_conditions t_ends)) rfl ?_
    refine g_aload_n (pc := 29) C dX2_endRule_29 rfl 0 rfl ?_
    refine g_get (pc := 30) C fl_X2_27 dX2_endRule_30 0 rfl rfl ?_
    refine g_aload_n (pc := 33) C dX2_endRule_33 rfl 0 rfl ?_
    refine g_get (pc := 34) C fl_X2_41 dX2_endRule_34 0 rfl rfl ?_
    refine g_iload_n (pc := 37) C dX2_endRule_37 rfl 3 rfl ?_
    refine g_iast (pc := 38) C dX2_endRule_38 3 rfl h (fun g3 h => ?_)
    refine g_ws (ws' := (W_X2_endRule E o_t a_t t_size t_rules g1 g2 g3 t_ends)) rfl ?_
    refine g_aload_n (pc := 39) C dX2_endRule_39 rfl 0 rfl ?_
    refine g_get (pc := 40) C fl_X2_30 dX2_endRule_40 0 rfl rfl ?_
    refine g_aload_n (pc := 43) C dX2_endRule_43 rfl 0 rfl ?_
    refine g_get (pc := 44) C fl_X2_41 dX2_endRule_44 0 rfl rfl ?_
    refine g_aload_n (pc := 47) C dX2_endRule_47 rfl 0 rfl ?_
    refine g_get (pc := 48) C fl_X2_37 dX2_endRule_48 0 rfl rfl ?_
    refine g_iast (pc := 51) C dX2_endRule_51 4 rfl h (fun g4 h => ?_)
    refine g_ws (ws' := (W_X2_endRule E o_t a_t t_size t_rules g1 g2 g3 g4)) rfl ?_
    refine g_aload_n (pc := 52) C dX2_endRule_52 rfl 0 rfl ?_
    refine g_dup (pc := 53) C dX2_endRule_53 rfl ?_
    refine g_get (pc := 54) C fl_X2_41 dX2_endRule_54 0 rfl rfl ?_
    refine g_iconst (pc := 57) (v := 1) C dX2_endRule_57 (by decide) ?_
    refine g_iadd (pc := 58) C dX2_endRule_58 ?_
    refine g_nm h (fun v5 h => ?_)
    refine g_put (pc := 59) (ws' := (W_X2_endRule E o_t a_t t_size v5 g1 g2 g3 g4)) C .int fl_X2_41 dX2_endRule_59 0 rfl (by decide +kernel) rfl rfl (Nat.le_of_ble_eq_true rfl) rfl ?_
    cases h
    exact hret _ _ _ dX2_endRule_62 rfl
abbrev W_X2_joined (E : GE) : va_W := []
def f_X2_joined (x0 : Int32) (x1 : Int32) (x2 : Int32) : Option (Int32) := if x0 = (37 : Int32) then (if x2 = 0 then (some (0 : Int32)) else rm x1 x2 fun v2 => some v2) else if x0 = (42 : Int32) then (some (x1 * x2)) else if x0 = (43 : Int32) then (some (x1 + x2)) else if x0 = (45 : Int32) then (some (x1 - x2)) else if x0 = (47 : Int32) then (if x2 = 0 then (some (0 : Int32)) else dv x1 x2 fun v7 => some v7) else if x0 = (60 : Int32) then (if x2 ≤ x1 then (some (0 : Int32)) else some (1 : Int32)) else if x0 = (62 : Int32) then (if x1 ≤ x2 then (some (0 : Int32)) else some (1 : Int32)) else if x1 = x2 then (some (1 : Int32)) else some (0 : Int32)
theorem dX2_joined_0 : decode cX2_joined 0 = .ok (.iload_n 0, 1) := by decide +kernel
theorem dX2_joined_1 : decode cX2_joined 1 = .ok (.lookupswitch 125 #[(37, 91), (42, 75), (43, 67), (45, 71), (47, 79), (60, 103), (62, 114)], 67) := by decide +kernel
theorem dX2_joined_68 : decode cX2_joined 68 = .ok (.iload_n 1, 1) := by decide +kernel
theorem dX2_joined_69 : decode cX2_joined 69 = .ok (.iload_n 2, 1) := by decide +kernel
theorem dX2_joined_70 : decode cX2_joined 70 = .ok (.iadd, 1) := by decide +kernel
theorem dX2_joined_71 : decode cX2_joined 71 = .ok (.ireturn, 1) := by decide +kernel
theorem dX2_joined_72 : decode cX2_joined 72 = .ok (.iload_n 1, 1) := by decide +kernel
theorem dX2_joined_73 : decode cX2_joined 73 = .ok (.iload_n 2, 1) := by decide +kernel
theorem dX2_joined_74 : decode cX2_joined 74 = .ok (.isub, 1) := by decide +kernel
theorem dX2_joined_75 : decode cX2_joined 75 = .ok (.ireturn, 1) := by decide +kernel
theorem dX2_joined_76 : decode cX2_joined 76 = .ok (.iload_n 1, 1) := by decide +kernel
theorem dX2_joined_77 : decode cX2_joined 77 = .ok (.iload_n 2, 1) := by decide +kernel
theorem dX2_joined_78 : decode cX2_joined 78 = .ok (.imul, 1) := by decide +kernel
theorem dX2_joined_79 : decode cX2_joined 79 = .ok (.ireturn, 1) := by decide +kernel
theorem dX2_joined_80 : decode cX2_joined 80 = .ok (.iload_n 2, 1) := by decide +kernel
theorem dX2_joined_81 : decode cX2_joined 81 = .ok (.ifCond .ne 7, 3) := by decide +kernel
theorem dX2_joined_84 : decode cX2_joined 84 = .ok (.iconst 0, 1) := by decide +kernel
theorem dX2_joined_85 : decode cX2_joined 85 = .ok (.goto 6, 3) := by decide +kernel
theorem dX2_joined_88 : decode cX2_joined 88 = .ok (.iload_n 1, 1) := by decide +kernel
theorem dX2_joined_89 : decode cX2_joined 89 = .ok (.iload_n 2, 1) := by decide +kernel
theorem dX2_joined_90 : decode cX2_joined 90 = .ok (.idiv, 1) := by decide +kernel
theorem dX2_joined_91 : decode cX2_joined 91 = .ok (.ireturn, 1) := by decide +kernel
theorem dX2_joined_92 : decode cX2_joined 92 = .ok (.iload_n 2, 1) := by decide +kernel
theorem dX2_joined_93 : decode cX2_joined 93 = .ok (.ifCond .ne 7, 3) := by decide +kernel
theorem dX2_joined_96 : decode cX2_joined 96 = .ok (.iconst 0, 1) := by decide +kernel
theorem dX2_joined_97 : decode cX2_joined 97 = .ok (.goto 6, 3) := by decide +kernel
theorem dX2_joined_100 : decode cX2_joined 100 = .ok (.iload_n 1, 1) := by decide +kernel
theorem dX2_joined_101 : decode cX2_joined 101 = .ok (.iload_n 2, 1) := by decide +kernel
theorem dX2_joined_102 : decode cX2_joined 102 = .ok (.irem, 1) := by decide +kernel
theorem dX2_joined_103 : decode cX2_joined 103 = .ok (.ireturn, 1) := by decide +kernel
theorem dX2_joined_104 : decode cX2_joined 104 = .ok (.iload_n 1, 1) := by decide +kernel
theorem dX2_joined_105 : decode cX2_joined 105 = .ok (.iload_n 2, 1) := by decide +kernel
theorem dX2_joined_106 : decode cX2_joined 106 = .ok (.if_icmp .ge 7, 3) := by decide +kernel
theorem dX2_joined_109 : decode cX2_joined 109 = .ok (.iconst 1, 1) := by decide +kernel
theorem dX2_joined_110 : decode cX2_joined 110 = .ok (.goto 4, 3) := by decide +kernel
theorem dX2_joined_113 : decode cX2_joined 113 = .ok (.iconst 0, 1) := by decide +kernel
theorem dX2_joined_114 : decode cX2_joined 114 = .ok (.ireturn, 1) := by decide +kernel
theorem dX2_joined_115 : decode cX2_joined 115 = .ok (.iload_n 1, 1) := by decide +kernel
theorem dX2_joined_116 : decode cX2_joined 116 = .ok (.iload_n 2, 1) := by decide +kernel
theorem dX2_joined_117 : decode cX2_joined 117 = .ok (.if_icmp .le 7, 3) := by decide +kernel
theorem dX2_joined_120 : decode cX2_joined 120 = .ok (.iconst 1, 1) := by decide +kernel
theorem dX2_joined_121 : decode cX2_joined 121 = .ok (.goto 4, 3) := by decide +kernel
theorem dX2_joined_124 : decode cX2_joined 124 = .ok (.iconst 0, 1) := by decide +kernel
theorem dX2_joined_125 : decode cX2_joined 125 = .ok (.ireturn, 1) := by decide +kernel
theorem dX2_joined_126 : decode cX2_joined 126 = .ok (.iload_n 1, 1) := by decide +kernel
theorem dX2_joined_127 : decode cX2_joined 127 = .ok (.iload_n 2, 1) := by decide +kernel
theorem dX2_joined_128 : decode cX2_joined 128 = .ok (.if_icmp .ne 7, 3) := by decide +kernel
theorem dX2_joined_131 : decode cX2_joined 131 = .ok (.iconst 1, 1) := by decide +kernel
theorem dX2_joined_132 : decode cX2_joined 132 = .ok (.goto 4, 3) := by decide +kernel
theorem dX2_joined_135 : decode cX2_joined 135 = .ok (.iconst 0, 1) := by decide +kernel
theorem dX2_joined_136 : decode cX2_joined 136 = .ok (.ireturn, 1) := by decide +kernel
set_option maxHeartbeats 4000000 in
set_option maxRecDepth 100000 in
theorem c_X2_joined (l : Launch) (E : GE) (x0 : Int32) (x1 : Int32) (x2 : Int32) (r : Int32) (h : f_X2_joined x0 x1 x2 = some r) : Cn l E yX2_joined cX2_joined 3 (some .int) 1 0 0 [.int x0, .int x1, .int x2] (W_X2_joined E) (fun w => w = (W_X2_joined E)) (some (.int r)) := by
  refine Cn.ofI (by decide +kernel) (Nat.le_of_ble_eq_true rfl) (fun X hX hR C hret => ?_)
  subst hX
  show Gx X E 0 0 (W_X2_joined E) 0 [(0, .int x0), (1, .int x1), (2, .int x2)] []
  unfold f_X2_joined at h
  refine g_iload_n (pc := 0) C dX2_joined_0 rfl 0 rfl ?_
  rcases ite_cs h with ⟨c1, h⟩ | ⟨c1, h⟩
  · refine g_look (pc := 1) (off := 91) (tgt := 92) C dX2_joined_1 (by decide) (by rw [c1]; first | done | decide) (by decide) ?_
    refine g_iload_n (pc := 92) C dX2_joined_92 rfl 2 rfl ?_
    refine g_if_ne (pc := 93) (tgt := 100) C dX2_joined_93 (by decide) h (fun h => ?_) (fun h => ?_)
    · refine g_iload_n (pc := 100) C dX2_joined_100 rfl 1 rfl ?_
      refine g_iload_n (pc := 101) C dX2_joined_101 rfl 2 rfl ?_
      refine g_irem (pc := 102) C dX2_joined_102 h (fun v2 h => ?_)
      cases h
      exact hret _ _ _ dX2_joined_103 rfl rfl
    · refine g_iconst (pc := 96) (v := 0) C dX2_joined_96 (by decide) ?_
      refine g_goto (pc := 97) (tgt := 103) C dX2_joined_97 (by decide) ?_
      cases h
      exact hret _ _ _ dX2_joined_103 rfl rfl
  rcases ite_cs h with ⟨c3, h⟩ | ⟨c3, h⟩
  · refine g_look (pc := 1) (off := 75) (tgt := 76) C dX2_joined_1 (by decide) (by rw [c3]; first | done | decide) (by decide) ?_
    refine g_iload_n (pc := 76) C dX2_joined_76 rfl 1 rfl ?_
    refine g_iload_n (pc := 77) C dX2_joined_77 rfl 2 rfl ?_
    refine g_imul (pc := 78) C dX2_joined_78 ?_
    cases h
    exact hret _ _ _ dX2_joined_79 rfl rfl
  rcases ite_cs h with ⟨c4, h⟩ | ⟨c4, h⟩
  · refine g_look (pc := 1) (off := 67) (tgt := 68) C dX2_joined_1 (by decide) (by rw [c4]; first | done | decide) (by decide) ?_
    refine g_iload_n (pc := 68) C dX2_joined_68 rfl 1 rfl ?_
    refine g_iload_n (pc := 69) C dX2_joined_69 rfl 2 rfl ?_
    refine g_iadd (pc := 70) C dX2_joined_70 ?_
    cases h
    exact hret _ _ _ dX2_joined_71 rfl rfl
  rcases ite_cs h with ⟨c5, h⟩ | ⟨c5, h⟩
  · refine g_look (pc := 1) (off := 71) (tgt := 72) C dX2_joined_1 (by decide) (by rw [c5]; first | done | decide) (by decide) ?_
    refine g_iload_n (pc := 72) C dX2_joined_72 rfl 1 rfl ?_
    refine g_iload_n (pc := 73) C dX2_joined_73 rfl 2 rfl ?_
    refine g_isub (pc := 74) C dX2_joined_74 ?_
    cases h
    exact hret _ _ _ dX2_joined_75 rfl rfl
  rcases ite_cs h with ⟨c6, h⟩ | ⟨c6, h⟩
  · refine g_look (pc := 1) (off := 79) (tgt := 80) C dX2_joined_1 (by decide) (by rw [c6]; first | done | decide) (by decide) ?_
    refine g_iload_n (pc := 80) C dX2_joined_80 rfl 2 rfl ?_
    refine g_if_ne (pc := 81) (tgt := 88) C dX2_joined_81 (by decide) h (fun h => ?_) (fun h => ?_)
    · refine g_iload_n (pc := 88) C dX2_joined_88 rfl 1 rfl ?_
      refine g_iload_n (pc := 89) C dX2_joined_89 rfl 2 rfl ?_
      refine g_idiv (pc := 90) C dX2_joined_90 h (fun v7 h => ?_)
      cases h
      exact hret _ _ _ dX2_joined_91 rfl rfl
    · refine g_iconst (pc := 84) (v := 0) C dX2_joined_84 (by decide) ?_
      refine g_goto (pc := 85) (tgt := 91) C dX2_joined_85 (by decide) ?_
      cases h
      exact hret _ _ _ dX2_joined_91 rfl rfl
  rcases ite_cs h with ⟨c8, h⟩ | ⟨c8, h⟩
  · refine g_look (pc := 1) (off := 103) (tgt := 104) C dX2_joined_1 (by decide) (by rw [c8]; first | done | decide) (by decide) ?_
    refine g_iload_n (pc := 104) C dX2_joined_104 rfl 1 rfl ?_
    refine g_iload_n (pc := 105) C dX2_joined_105 rfl 2 rfl ?_
    refine g_icmp_ge (pc := 106) (tgt := 113) C dX2_joined_106 (by decide) h (fun h => ?_) (fun h => ?_)
    · refine g_iconst (pc := 113) (v := 0) C dX2_joined_113 (by decide) ?_
      cases h
      exact hret _ _ _ dX2_joined_114 rfl rfl
    · refine g_iconst (pc := 109) (v := 1) C dX2_joined_109 (by decide) ?_
      refine g_goto (pc := 110) (tgt := 114) C dX2_joined_110 (by decide) ?_
      cases h
      exact hret _ _ _ dX2_joined_114 rfl rfl
  rcases ite_cs h with ⟨c9, h⟩ | ⟨c9, h⟩
  · refine g_look (pc := 1) (off := 114) (tgt := 115) C dX2_joined_1 (by decide) (by rw [c9]; first | done | decide) (by decide) ?_
    refine g_iload_n (pc := 115) C dX2_joined_115 rfl 1 rfl ?_
    refine g_iload_n (pc := 116) C dX2_joined_116 rfl 2 rfl ?_
    refine g_icmp_le (pc := 117) (tgt := 124) C dX2_joined_117 (by decide) h (fun h => ?_) (fun h => ?_)
    · refine g_iconst (pc := 124) (v := 0) C dX2_joined_124 (by decide) ?_
      cases h
      exact hret _ _ _ dX2_joined_125 rfl rfl
    · refine g_iconst (pc := 120) (v := 1) C dX2_joined_120 (by decide) ?_
      refine g_goto (pc := 121) (tgt := 125) C dX2_joined_121 (by decide) ?_
      cases h
      exact hret _ _ _ dX2_joined_125 rfl rfl
  refine g_look (pc := 1) (off := 125) (tgt := 126) C dX2_joined_1 (by decide) ((lv_osw (a := 37) c1 (by decide)).trans ((lv_osw (a := 42) c3 (by decide)).trans ((lv_osw (a := 43) c4 (by decide)).trans ((lv_osw (a := 45) c5 (by decide)).trans ((lv_osw (a := 47) c6 (by decide)).trans ((lv_osw (a := 60) c8 (by decide)).trans ((lv_osw (a := 62) c9 (by decide)).trans rfl))))))) (by decide) ?_
  refine g_iload_n (pc := 126) C dX2_joined_126 rfl 1 rfl ?_
  refine g_iload_n (pc := 127) C dX2_joined_127 rfl 2 rfl ?_
  refine g_icmp_ne (pc := 128) (tgt := 135) C dX2_joined_128 (by decide) h (fun h => ?_) (fun h => ?_)
  · refine g_iconst (pc := 135) (v := 0) C dX2_joined_135 (by decide) ?_
    cases h
    exact hret _ _ _ dX2_joined_136 rfl rfl
  · refine g_iconst (pc := 131) (v := 1) C dX2_joined_131 (by decide) ?_
    refine g_goto (pc := 132) (tgt := 136) C dX2_joined_132 (by decide) ?_
    cases h
    exact hret _ _ _ dX2_joined_136 rfl rfl
abbrev W_X2_letterAt (E : GE) : va_W := []
def L_X2_letterAt_2 (x0 : Int32) : Nat → Int32 → Option (Int32) := lp fun go s => if (10 : Int32) ≤ s then (some (-1 : Int32)) else rd ltF 10 s fun v3 => if v3 = x0 then (some s) else nm (s + (1 : Int32)) fun v4 => go v4
def f_X2_letterAt (x0 : Int32) : Option (Int32) := L_X2_letterAt_2 x0 fu (0 : Int32)
theorem dX2_letterAt_0 : decode cX2_letterAt 0 = .ok (.iconst 0, 1) := by decide +kernel
theorem dX2_letterAt_1 : decode cX2_letterAt 1 = .ok (.istore_n 1, 1) := by decide +kernel
theorem dX2_letterAt_2 : decode cX2_letterAt 2 = .ok (.iload_n 1, 1) := by decide +kernel
theorem dX2_letterAt_3 : decode cX2_letterAt 3 = .ok (.getstatic 33, 3) := by decide +kernel
theorem dX2_letterAt_6 : decode cX2_letterAt 6 = .ok (.arraylength, 1) := by decide +kernel
theorem dX2_letterAt_7 : decode cX2_letterAt 7 = .ok (.if_icmp .ge 20, 3) := by decide +kernel
theorem dX2_letterAt_10 : decode cX2_letterAt 10 = .ok (.getstatic 33, 3) := by decide +kernel
theorem dX2_letterAt_13 : decode cX2_letterAt 13 = .ok (.iload_n 1, 1) := by decide +kernel
theorem dX2_letterAt_14 : decode cX2_letterAt 14 = .ok (.caload, 1) := by decide +kernel
theorem dX2_letterAt_15 : decode cX2_letterAt 15 = .ok (.iload_n 0, 1) := by decide +kernel
theorem dX2_letterAt_16 : decode cX2_letterAt 16 = .ok (.if_icmp .ne 5, 3) := by decide +kernel
theorem dX2_letterAt_19 : decode cX2_letterAt 19 = .ok (.iload_n 1, 1) := by decide +kernel
theorem dX2_letterAt_20 : decode cX2_letterAt 20 = .ok (.ireturn, 1) := by decide +kernel
theorem dX2_letterAt_21 : decode cX2_letterAt 21 = .ok (.iinc 1 1, 3) := by decide +kernel
theorem dX2_letterAt_24 : decode cX2_letterAt 24 = .ok (.goto (-22), 3) := by decide +kernel
theorem dX2_letterAt_27 : decode cX2_letterAt 27 = .ok (.iconst (-1), 1) := by decide +kernel
theorem dX2_letterAt_28 : decode cX2_letterAt 28 = .ok (.ireturn, 1) := by decide +kernel
set_option maxHeartbeats 4000000 in
set_option maxRecDepth 100000 in
theorem kL_X2_letterAt_2 {X : GC} {E : GE} (C : Cx X E cX2_letterAt RX2 1 2) (x0 : Int32) {r : Int32} (hret : RtI X E cX2_letterAt .int 0 0 (fun w => w = (W_X2_letterAt E)) r) : ∀ (n : Nat) (s : Int32), L_X2_letterAt_2 x0 n s = some r → Gx X E 0 0 (W_X2_letterAt E) 2 [(0, .int x0), (1, .int s)] [] := by
  unfold L_X2_letterAt_2
  refine lp_ind _ (fun go ih s h => ?_)
  refine g_iload_n (pc := 2) C dX2_letterAt_2 rfl 1 rfl ?_
  refine g_getsL (pc := 3) C fs_X2_33 dX2_letterAt_3 (fun t1 ht1 => ?_)
  refine g_alenL (pc := 6) (v := 10) C ht1 dX2_letterAt_6 (by decide) ?_
  refine g_icmp_ge (pc := 7) (tgt := 27) C dX2_letterAt_7 (by decide) h (fun h => ?_) (fun h => ?_)
  · refine g_iconst (pc := 27) (v := -1) C dX2_letterAt_27 (by decide) ?_
    cases h
    exact hret _ _ _ dX2_letterAt_28 rfl rfl
  · refine g_getsL (pc := 10) C fs_X2_33 dX2_letterAt_10 (fun t2 ht2 => ?_)
    refine g_iload_n (pc := 13) C dX2_letterAt_13 rfl 1 rfl ?_
    refine g_caldL (pc := 14) C ht2 dX2_letterAt_14 h (fun v3 h => ?_)
    refine g_iload_n (pc := 15) C dX2_letterAt_15 rfl 0 rfl ?_
    refine g_icmp_ne (pc := 16) (tgt := 21) C dX2_letterAt_16 (by decide) h (fun h => ?_) (fun h => ?_)
    · refine g_iincn (pc := 21) (j := 1) (d := 1) (lv' := fun v4 => [(1, .int v4), (0, .int x0)]) C dX2_letterAt_21 rfl (by decide) (by decide) (fun _ => rfl) h (fun v4 h => ?_)
      refine g_goto (pc := 24) (tgt := 2) C dX2_letterAt_24 (by decide) ?_
      refine g_sub [1, 0] rfl ?_
      exact ih _ h
    · refine g_iload_n (pc := 19) C dX2_letterAt_19 rfl 1 rfl ?_
      cases h
      exact hret _ _ _ dX2_letterAt_20 rfl rfl
set_option maxHeartbeats 4000000 in
set_option maxRecDepth 100000 in
theorem c_X2_letterAt (l : Launch) (E : GE) (x0 : Int32) (r : Int32) (h : f_X2_letterAt x0 = some r) : Cn l E yX2_letterAt cX2_letterAt 2 (some .int) 1 0 0 [.int x0] (W_X2_letterAt E) (fun w => w = (W_X2_letterAt E)) (some (.int r)) := by
  refine Cn.ofI (by decide +kernel) (Nat.le_of_ble_eq_true rfl) (fun X hX hR C hret => ?_)
  subst hX
  show Gx X E 0 0 (W_X2_letterAt E) 0 [(0, .int x0)] []
  unfold f_X2_letterAt at h
  refine g_iconst (pc := 0) (v := 0) C dX2_letterAt_0 (by decide) ?_
  refine g_istore_n (pc := 1) (lv' := [(1, .int (0 : Int32)), (0, .int x0)]) C dX2_letterAt_1 rfl (by decide) rfl ?_
  refine g_sub [1, 0] rfl ?_
  refine kL_X2_letterAt_2 C x0 hret  _ _ h
abbrev W_X2_letterValue (E : GE) (q1 : Nat) (n1 : Nat) (f1 : (Nat → Int32)) : va_W := [(q1, .inl (E.2.1, n1, .inl f1))]
def f_X2_letterValue (n1 : Nat) (f1 : (Nat → Int32)) (x0 : Int32) : Option (Int32) := if x0 < 0 then (some (0 : Int32)) else if (Int32.ofNat n1) ≤ x0 then (some (0 : Int32)) else rd f1 n1 x0 fun v1 => some v1
theorem dX2_letterValue_0 : decode cX2_letterValue 0 = .ok (.iload_n 0, 1) := by decide +kernel
theorem dX2_letterValue_1 : decode cX2_letterValue 1 = .ok (.ifCond .lt 15, 3) := by decide +kernel
theorem dX2_letterValue_4 : decode cX2_letterValue 4 = .ok (.iload_n 0, 1) := by decide +kernel
theorem dX2_letterValue_5 : decode cX2_letterValue 5 = .ok (.aload_n 1, 1) := by decide +kernel
theorem dX2_letterValue_6 : decode cX2_letterValue 6 = .ok (.arraylength, 1) := by decide +kernel
theorem dX2_letterValue_7 : decode cX2_letterValue 7 = .ok (.if_icmp .ge 9, 3) := by decide +kernel
theorem dX2_letterValue_10 : decode cX2_letterValue 10 = .ok (.aload_n 1, 1) := by decide +kernel
theorem dX2_letterValue_11 : decode cX2_letterValue 11 = .ok (.iload_n 0, 1) := by decide +kernel
theorem dX2_letterValue_12 : decode cX2_letterValue 12 = .ok (.iaload, 1) := by decide +kernel
theorem dX2_letterValue_13 : decode cX2_letterValue 13 = .ok (.goto 4, 3) := by decide +kernel
theorem dX2_letterValue_16 : decode cX2_letterValue 16 = .ok (.iconst 0, 1) := by decide +kernel
theorem dX2_letterValue_17 : decode cX2_letterValue 17 = .ok (.ireturn, 1) := by decide +kernel
set_option maxHeartbeats 4000000 in
set_option maxRecDepth 100000 in
theorem c_X2_letterValue (l : Launch) (E : GE) (q1 : Nat) (n1 : Nat) (f1 : (Nat → Int32)) (x0 : Int32) (r : Int32) (h : f_X2_letterValue n1 f1 x0 = some r) : Cn l E yX2_letterValue cX2_letterValue 2 (some .int) 1 0 0 [.int x0, .ref q1] (W_X2_letterValue E q1 n1 f1) (fun w => w = (W_X2_letterValue E q1 n1 f1)) (some (.int r)) := by
  refine Cn.ofI (by decide +kernel) (Nat.le_of_ble_eq_true rfl) (fun X hX hR C hret => ?_)
  subst hX
  show Gx X E 0 0 (W_X2_letterValue E q1 n1 f1) 0 [(0, .int x0), (1, .ref q1)] []
  unfold f_X2_letterValue at h
  refine g_iload_n (pc := 0) C dX2_letterValue_0 rfl 0 rfl ?_
  refine g_if_lt (pc := 1) (tgt := 16) C dX2_letterValue_1 (by decide) h (fun h => ?_) (fun h => ?_)
  · refine g_iconst (pc := 16) (v := 0) C dX2_letterValue_16 (by decide) ?_
    cases h
    exact hret _ _ _ dX2_letterValue_17 rfl rfl
  · refine g_iload_n (pc := 4) C dX2_letterValue_4 rfl 0 rfl ?_
    refine g_aload_n (pc := 5) C dX2_letterValue_5 rfl 1 rfl ?_
    refine g_alen (pc := 6) C dX2_letterValue_6 0 rfl rfl ?_
    refine g_icmp_ge (pc := 7) (tgt := 16) C dX2_letterValue_7 (by decide) h (fun h => ?_) (fun h => ?_)
    · refine g_iconst (pc := 16) (v := 0) C dX2_letterValue_16 (by decide) ?_
      cases h
      exact hret _ _ _ dX2_letterValue_17 rfl rfl
    · refine g_aload_n (pc := 10) C dX2_letterValue_10 rfl 1 rfl ?_
      refine g_iload_n (pc := 11) C dX2_letterValue_11 rfl 0 rfl ?_
      refine g_iald (pc := 12) C dX2_letterValue_12 0 rfl h (fun v1 h => ?_)
      refine g_goto (pc := 13) (tgt := 17) C dX2_letterValue_13 (by decide) ?_
      cases h
      exact hret _ _ _ dX2_letterValue_17 rfl rfl
abbrev W_X2_landJumps (E : GE) (O_t : Nat) (a_t : Nat → Nat) (t_size : Int32) (t_rules : Int32) (t_values : (Nat → Int32)) : va_W := [(O_t, ob_X2 a_t t_size t_rules), (a_t 1, .inl (E.2.1, 256, .inl t_values))]
def L_X2_landJumps_4 (t_size : Int32) : Nat → Int32 × Int32 × (Nat → Int32) → Option ((Nat → Int32)) := lp fun go s => if (256 : Int32) ≤ s.2.1 then (some s.2.2) else (f_X11_isWithin s.1 (0 : Int32) (255 : Int32)).bind fun u1 => if u1 = 0 then (some s.2.2) else rd s.2.2 256 s.1 fun v2 => wr s.2.2 256 s.1 t_size fun g3 => nm (s.2.1 + (1 : Int32)) fun v4 => go (v2, v4, g3)
def f_X2_landJumps (t_size : Int32) (t_values : (Nat → Int32)) (x1 : Int32) : Option ((Nat → Int32)) := L_X2_landJumps_4 t_size fu (x1, (0 : Int32), t_values)
theorem dX2_landJumps_0 : decode cX2_landJumps 0 = .ok (.iload_n 1, 1) := by decide +kernel
theorem dX2_landJumps_1 : decode cX2_landJumps 1 = .ok (.istore_n 2, 1) := by decide +kernel
theorem dX2_landJumps_2 : decode cX2_landJumps 2 = .ok (.iconst 0, 1) := by decide +kernel
theorem dX2_landJumps_3 : decode cX2_landJumps 3 = .ok (.istore_n 3, 1) := by decide +kernel
theorem dX2_landJumps_4 : decode cX2_landJumps 4 = .ok (.iload_n 3, 1) := by decide +kernel
theorem dX2_landJumps_5 : decode cX2_landJumps 5 = .ok (.sipush 256, 3) := by decide +kernel
theorem dX2_landJumps_8 : decode cX2_landJumps 8 = .ok (.if_icmp .ge 41, 3) := by decide +kernel
theorem dX2_landJumps_11 : decode cX2_landJumps 11 = .ok (.iload_n 2, 1) := by decide +kernel
theorem dX2_landJumps_12 : decode cX2_landJumps 12 = .ok (.iconst 0, 1) := by decide +kernel
theorem dX2_landJumps_13 : decode cX2_landJumps 13 = .ok (.sipush 255, 3) := by decide +kernel
theorem dX2_landJumps_16 : decode cX2_landJumps 16 = .ok (.invokestatic 44, 3) := by decide +kernel
theorem dX2_landJumps_19 : decode cX2_landJumps 19 = .ok (.ifCond .eq 30, 3) := by decide +kernel
theorem dX2_landJumps_22 : decode cX2_landJumps 22 = .ok (.aload_n 0, 1) := by decide +kernel
theorem dX2_landJumps_23 : decode cX2_landJumps 23 = .ok (.getfield 15, 3) := by decide +kernel
theorem dX2_landJumps_26 : decode cX2_landJumps 26 = .ok (.iload_n 2, 1) := by decide +kernel
theorem dX2_landJumps_27 : decode cX2_landJumps 27 = .ok (.iaload, 1) := by decide +kernel
theorem dX2_landJumps_28 : decode cX2_landJumps 28 = .ok (.istore 4, 2) := by decide +kernel
theorem dX2_landJumps_30 : decode cX2_landJumps 30 = .ok (.aload_n 0, 1) := by decide +kernel
theorem dX2_landJumps_31 : decode cX2_landJumps 31 = .ok (.getfield 15, 3) := by decide +kernel
theorem dX2_landJumps_34 : decode cX2_landJumps 34 = .ok (.iload_n 2, 1) := by decide +kernel
theorem dX2_landJumps_35 : decode cX2_landJumps 35 = .ok (.aload_n 0, 1) := by decide +kernel
theorem dX2_landJumps_36 : decode cX2_landJumps 36 = .ok (.getfield 37, 3) := by decide +kernel
theorem dX2_landJumps_39 : decode cX2_landJumps 39 = .ok (.iastore, 1) := by decide +kernel
theorem dX2_landJumps_40 : decode cX2_landJumps 40 = .ok (.iload 4, 2) := by decide +kernel
theorem dX2_landJumps_42 : decode cX2_landJumps 42 = .ok (.istore_n 2, 1) := by decide +kernel
theorem dX2_landJumps_43 : decode cX2_landJumps 43 = .ok (.iinc 3 1, 3) := by decide +kernel
theorem dX2_landJumps_46 : decode cX2_landJumps 46 = .ok (.goto (-42), 3) := by decide +kernel
theorem dX2_landJumps_49 : decode cX2_landJumps 49 = .ok (.return_, 1) := by decide +kernel
set_option maxHeartbeats 4000000 in
set_option maxRecDepth 100000 in
theorem kL_X2_landJumps_4 {X : GC} {E : GE} (C : Cx X E cX2_landJumps RX2 2 5) (o_t : Nat) (a_t : Nat → Nat) (t_rules : Int32) (t_size : Int32) {r : (Nat → Int32)} (hret : RtV X E cX2_landJumps 0 0 (fun w => w = (W_X2_landJumps E o_t a_t t_size t_rules r))) : ∀ (n : Nat) (s : Int32 × Int32 × (Nat → Int32)), L_X2_landJumps_4 t_size n s = some r → Gx X E 0 0 (W_X2_landJumps E o_t a_t t_size t_rules s.2.2) 4 [(0, .ref o_t), (2, .int s.1), (3, .int s.2.1)] [] := by
  unfold L_X2_landJumps_4
  refine lp_ind _ (fun go ih s h => ?_)
  refine g_iload_n (pc := 4) C dX2_landJumps_4 rfl 2 rfl ?_
  refine g_sipush (pc := 5) (v := 256) C dX2_landJumps_5 (by decide) ?_
  refine g_icmp_ge (pc := 8) (tgt := 49) C dX2_landJumps_8 (by decide) h (fun h => ?_) (fun h => ?_)
  · cases h
    exact hret _ _ _ dX2_landJumps_49 rfl
  · refine g_iload_n (pc := 11) C dX2_landJumps_11 rfl 1 rfl ?_
    refine g_iconst (pc := 12) (v := 0) C dX2_landJumps_12 (by decide) ?_
    refine g_sipush (pc := 13) (v := 255) C dX2_landJumps_13 (by decide) ?_
    obtain ⟨u1, hu1, h⟩ := bs h
    refine g_callSN (pc := 16) (st := []) (st1 := [.int u1]) (ws' := (W_X2_landJumps E o_t a_t t_size t_rules s.2.2)) C mv_X11_isWithin ms_X11_isWithin mn_X2_44 (c_X11_isWithin X.2.1 E s.1 (0 : Int32) (255 : Int32) u1 hu1) dX2_landJumps_16 (by decide) rfl (Nat.le_of_ble_eq_true rfl) [] rfl (by decide) rfl rfl rfl rfl ?_
    refine g_if_eq (pc := 19) (tgt := 49) C dX2_landJumps_19 (by decide) h (fun h => ?_) (fun h => ?_)
    · cases h
      exact hret _ _ _ dX2_landJumps_49 rfl
    · refine g_aload_n (pc := 22) C dX2_landJumps_22 rfl 0 rfl ?_
      refine g_get (pc := 23) C fl_X2_15 dX2_landJumps_23 0 rfl rfl ?_
      refine g_iload_n (pc := 26) C dX2_landJumps_26 rfl 1 rfl ?_
      refine g_iald (pc := 27) C dX2_landJumps_27 1 rfl h (fun v2 h => ?_)
      refine g_istore (pc := 28) (lv' := [(4, .int v2), (0, .ref o_t), (2, .int s.1), (3, .int s.2.1)]) C dX2_landJumps_28 (by decide) rfl ?_
      refine g_aload_n (pc := 30) C dX2_landJumps_30 rfl 1 rfl ?_
      refine g_get (pc := 31) C fl_X2_15 dX2_landJumps_31 0 rfl rfl ?_
      refine g_iload_n (pc := 34) C dX2_landJumps_34 rfl 2 rfl ?_
      refine g_aload_n (pc := 35) C dX2_landJumps_35 rfl 1 rfl ?_
      refine g_get (pc := 36) C fl_X2_37 dX2_landJumps_36 0 rfl rfl ?_
      refine g_iast (pc := 39) C dX2_landJumps_39 1 rfl h (fun g3 h => ?_)
      refine g_ws (ws' := (W_X2_landJumps E o_t a_t t_size t_rules g3)) rfl ?_
      refine g_iload (pc := 40) C dX2_landJumps_40 0 rfl ?_
      refine g_istore_n (pc := 42) (lv' := [(2, .int v2), (4, .int v2), (0, .ref o_t), (3, .int s.2.1)]) C dX2_landJumps_42 rfl (by decide) rfl ?_
      refine g_iincn (pc := 43) (j := 3) (d := 1) (lv' := fun v4 => [(3, .int v4), (2, .int v2), (4, .int v2), (0, .ref o_t)]) C dX2_landJumps_43 rfl (by decide) (by decide) (fun _ => rfl) h (fun v4 h => ?_)
      refine g_goto (pc := 46) (tgt := 4) C dX2_landJumps_46 (by decide) ?_
      refine g_sub [3, 1, 0] rfl ?_
      exact ih _ h
set_option maxHeartbeats 4000000 in
set_option maxRecDepth 100000 in
theorem c_X2_landJumps (l : Launch) (E : GE) (o_t : Nat) (a_t : Nat → Nat) (t_size : Int32) (t_rules : Int32) (t_values : (Nat → Int32)) (x1 : Int32) (r : (Nat → Int32)) (h : f_X2_landJumps t_size t_values x1 = some r) : Cn l E yX2_landJumps cX2_landJumps 5 none 2 0 0 [.ref o_t, .int x1] (W_X2_landJumps E o_t a_t t_size t_rules t_values) (fun w => w = (W_X2_landJumps E o_t a_t t_size t_rules r)) none := by
  refine Cn.ofV (by decide +kernel) (Nat.le_of_ble_eq_true rfl) (fun X hX hR C hret => ?_)
  subst hX
  show Gx X E 0 0 (W_X2_landJumps E o_t a_t t_size t_rules t_values) 0 [(0, .ref o_t), (1, .int x1)] []
  unfold f_X2_landJumps at h
  refine g_iload_n (pc := 0) C dX2_landJumps_0 rfl 1 rfl ?_
  refine g_istore_n (pc := 1) (lv' := [(2, .int x1), (0, .ref o_t), (1, .int x1)]) C dX2_landJumps_1 rfl (by decide) rfl ?_
  refine g_iconst (pc := 2) (v := 0) C dX2_landJumps_2 (by decide) ?_
  refine g_istore_n (pc := 3) (lv' := [(3, .int (0 : Int32)), (2, .int x1), (0, .ref o_t), (1, .int x1)]) C dX2_landJumps_3 rfl (by decide) rfl ?_
  refine g_sub [2, 1, 0] rfl ?_
  refine kL_X2_landJumps_4 C o_t a_t t_rules t_size hret  _ _ h
abbrev W_X2_reckon (E : GE) (O_t : Nat) (a_t : Nat → Nat) (q3 : Nat) (n3 : Nat) (t_size : Int32) (t_rules : Int32) (t_signs : (Nat → Int32)) (t_values : (Nat → Int32)) (t_stack : (Nat → Int32)) (f3 : (Nat → Int32)) : va_W := [(O_t, ob_X2 a_t t_size t_rules), (a_t 0, .inl (E.2.1, 256, .inl t_signs)), (a_t 1, .inl (E.2.1, 256, .inl t_values)), (a_t 2, .inl (E.2.1, 64, .inl t_stack)), (q3, .inl (E.2.1, n3, .inl f3))]
def L_X2_reckon_9 (n3 : Nat) (t_signs : (Nat → Int32)) (t_values : (Nat → Int32)) (f3 : (Nat → Int32)) (x2 : Int32) (k0 : Int32 × (Nat → Int32) → Option (Int32 × (Nat → Int32))) : Nat → Int32 × Int32 × Int32 × (Nat → Int32) → Option (Int32 × (Nat → Int32)) := lp fun go s => if (256 : Int32) ≤ s.2.2.1 then (k0 (s.1, s.2.2.2)) else if s.2.1 < 0 then (k0 (s.1, s.2.2.2)) else if x2 ≤ s.2.1 then (k0 (s.1, s.2.2.2)) else if (256 : Int32) ≤ s.2.1 then (k0 (s.1, s.2.2.2)) else rd t_signs 256 s.2.1 fun v1 => rd t_values 256 s.2.1 fun v2 => nm (s.2.1 + (1 : Int32)) fun v3 => jn (fun s4 : Unit => if s.1 < (64 : Int32) then (jn (fun s5 : Int32 => wr s.2.2.2 64 s.1 s5 fun g6 => nm (s.1 + (1 : Int32)) fun v7 => nm (s.2.2.1 + (1 : Int32)) fun v8 => go (v7, v3, v8, g6)) fun j107 => if v1 = (48 : Int32) then (j107 v2) else (f_X2_letterValue n3 f3 v2).bind fun u9 => j107 u9) else some ((0 : Int32), s.2.2.2)) fun j71 => if v1 = (48 : Int32) then (j71 ()) else if v1 = (97 : Int32) then (j71 ()) else if (1 : Int32) ≤ s.1 then (if v1 = (33 : Int32) then (rd s.2.2.2 64 (s.1 - (1 : Int32)) fun v25 => wr s.2.2.2 64 (s.1 - (1 : Int32)) ((1 : Int32) - v25) fun g26 => nm (s.2.2.1 + (1 : Int32)) fun v27 => go (s.1, v3, v27, g26)) else jn (fun s10 : Unit => rd s.2.2.2 64 (s.1 - (1 : Int32)) fun v11 => jn (fun s12 : Int32 => jn (fun s13 : Int32 => if s12 = s13 then (nm (s.2.2.1 + (1 : Int32)) fun v16 => go (s.1, v2, v16, s.2.2.2)) else nm (s.1 + (-1 : Int32)) fun v14 => nm (s.2.2.1 + (1 : Int32)) fun v15 => go (v14, v3, v15, s.2.2.2)) fun j195 => if v1 = (38 : Int32) then (j195 (1 : Int32)) else j195 (0 : Int32)) fun j183 => if v11 = 0 then (j183 (1 : Int32)) else j183 (0 : Int32)) fun j166 => if v1 = (38 : Int32) then (j166 ()) else if v1 = (124 : Int32) then (j166 ()) else rd s.2.2.2 64 (s.1 - (1 : Int32)) fun v17 => jn (fun s18 : Int32 => if s18 = 0 then (if (2 : Int32) ≤ s.1 then (rd s.2.2.2 64 (s.1 - (2 : Int32)) fun v19 => (f_X2_joined v1 v19 v17).bind fun u20 => wr s.2.2.2 64 (s.1 - (2 : Int32)) u20 fun g21 => nm (s.1 + (-1 : Int32)) fun v22 => nm (s.2.2.1 + (1 : Int32)) fun v23 => go (v22, v3, v23, g21)) else some ((0 : Int32), s.2.2.2)) else some ((0 : Int32), s.2.2.2)) fun j246 => jn (fun s24 : Unit => j246 (0 : Int32)) fun j245 => if v17 = 0 then (if v1 = (47 : Int32) then (j246 (1 : Int32)) else if v1 = (37 : Int32) then (j246 (1 : Int32)) else j245 ()) else j245 ()) else some ((0 : Int32), s.2.2.2)
def f_X2_reckon (n3 : Nat) (t_signs : (Nat → Int32)) (t_values : (Nat → Int32)) (t_stack : (Nat → Int32)) (f3 : (Nat → Int32)) (x1 : Int32) (x2 : Int32) : Option (Int32 × (Nat → Int32)) := L_X2_reckon_9 n3 t_signs t_values f3 x2 (fun s28 => if s28.1 ≤ 0 then (some ((0 : Int32), s28.2)) else rd s28.2 64 (s28.1 - (1 : Int32)) fun v29 => some (v29, s28.2)) fu ((0 : Int32), x1, (0 : Int32), t_stack)
theorem dX2_reckon_0 : decode cX2_reckon 0 = .ok (.iconst 0, 1) := by decide +kernel
theorem dX2_reckon_1 : decode cX2_reckon 1 = .ok (.istore 4, 2) := by decide +kernel
theorem dX2_reckon_3 : decode cX2_reckon 3 = .ok (.iload_n 1, 1) := by decide +kernel
theorem dX2_reckon_4 : decode cX2_reckon 4 = .ok (.istore 5, 2) := by decide +kernel
theorem dX2_reckon_6 : decode cX2_reckon 6 = .ok (.iconst 0, 1) := by decide +kernel
theorem dX2_reckon_7 : decode cX2_reckon 7 = .ok (.istore 6, 2) := by decide +kernel
theorem dX2_reckon_9 : decode cX2_reckon 9 = .ok (.iload 6, 2) := by decide +kernel
theorem dX2_reckon_11 : decode cX2_reckon 11 = .ok (.sipush 256, 3) := by decide +kernel
theorem dX2_reckon_14 : decode cX2_reckon 14 = .ok (.if_icmp .ge 281, 3) := by decide +kernel
theorem dX2_reckon_17 : decode cX2_reckon 17 = .ok (.iload 5, 2) := by decide +kernel
theorem dX2_reckon_19 : decode cX2_reckon 19 = .ok (.ifCond .lt 276, 3) := by decide +kernel
theorem dX2_reckon_22 : decode cX2_reckon 22 = .ok (.iload 5, 2) := by decide +kernel
theorem dX2_reckon_24 : decode cX2_reckon 24 = .ok (.iload_n 2, 1) := by decide +kernel
theorem dX2_reckon_25 : decode cX2_reckon 25 = .ok (.if_icmp .ge 270, 3) := by decide +kernel
theorem dX2_reckon_28 : decode cX2_reckon 28 = .ok (.iload 5, 2) := by decide +kernel
theorem dX2_reckon_30 : decode cX2_reckon 30 = .ok (.sipush 256, 3) := by decide +kernel
theorem dX2_reckon_33 : decode cX2_reckon 33 = .ok (.if_icmp .ge 262, 3) := by decide +kernel
theorem dX2_reckon_36 : decode cX2_reckon 36 = .ok (.aload_n 0, 1) := by decide +kernel
theorem dX2_reckon_37 : decode cX2_reckon 37 = .ok (.getfield 11, 3) := by decide +kernel
theorem dX2_reckon_40 : decode cX2_reckon 40 = .ok (.iload 5, 2) := by decide +kernel
theorem dX2_reckon_42 : decode cX2_reckon 42 = .ok (.iaload, 1) := by decide +kernel
theorem dX2_reckon_43 : decode cX2_reckon 43 = .ok (.istore 7, 2) := by decide +kernel
theorem dX2_reckon_45 : decode cX2_reckon 45 = .ok (.aload_n 0, 1) := by decide +kernel
theorem dX2_reckon_46 : decode cX2_reckon 46 = .ok (.getfield 15, 3) := by decide +kernel
theorem dX2_reckon_49 : decode cX2_reckon 49 = .ok (.iload 5, 2) := by decide +kernel
theorem dX2_reckon_51 : decode cX2_reckon 51 = .ok (.iaload, 1) := by decide +kernel
theorem dX2_reckon_52 : decode cX2_reckon 52 = .ok (.istore 8, 2) := by decide +kernel
theorem dX2_reckon_54 : decode cX2_reckon 54 = .ok (.iinc 5 1, 3) := by decide +kernel
theorem dX2_reckon_57 : decode cX2_reckon 57 = .ok (.iload 7, 2) := by decide +kernel
theorem dX2_reckon_59 : decode cX2_reckon 59 = .ok (.bipush 48, 2) := by decide +kernel
theorem dX2_reckon_61 : decode cX2_reckon 61 = .ok (.if_icmp .eq 10, 3) := by decide +kernel
theorem dX2_reckon_64 : decode cX2_reckon 64 = .ok (.iload 7, 2) := by decide +kernel
theorem dX2_reckon_66 : decode cX2_reckon 66 = .ok (.bipush 97, 2) := by decide +kernel
theorem dX2_reckon_68 : decode cX2_reckon 68 = .ok (.if_icmp .ne 46, 3) := by decide +kernel
theorem dX2_reckon_71 : decode cX2_reckon 71 = .ok (.iload 4, 2) := by decide +kernel
theorem dX2_reckon_73 : decode cX2_reckon 73 = .ok (.aload_n 0, 1) := by decide +kernel
theorem dX2_reckon_74 : decode cX2_reckon 74 = .ok (.getfield 18, 3) := by decide +kernel
theorem dX2_reckon_77 : decode cX2_reckon 77 = .ok (.arraylength, 1) := by decide +kernel
theorem dX2_reckon_78 : decode cX2_reckon 78 = .ok (.if_icmp .lt 5, 3) := by decide +kernel
theorem dX2_reckon_81 : decode cX2_reckon 81 = .ok (.iconst 0, 1) := by decide +kernel
theorem dX2_reckon_82 : decode cX2_reckon 82 = .ok (.ireturn, 1) := by decide +kernel
theorem dX2_reckon_83 : decode cX2_reckon 83 = .ok (.aload_n 0, 1) := by decide +kernel
theorem dX2_reckon_84 : decode cX2_reckon 84 = .ok (.getfield 18, 3) := by decide +kernel
theorem dX2_reckon_87 : decode cX2_reckon 87 = .ok (.iload 4, 2) := by decide +kernel
theorem dX2_reckon_89 : decode cX2_reckon 89 = .ok (.iload 7, 2) := by decide +kernel
theorem dX2_reckon_91 : decode cX2_reckon 91 = .ok (.bipush 48, 2) := by decide +kernel
theorem dX2_reckon_93 : decode cX2_reckon 93 = .ok (.if_icmp .ne 8, 3) := by decide +kernel
theorem dX2_reckon_96 : decode cX2_reckon 96 = .ok (.iload 8, 2) := by decide +kernel
theorem dX2_reckon_98 : decode cX2_reckon 98 = .ok (.goto 9, 3) := by decide +kernel
theorem dX2_reckon_101 : decode cX2_reckon 101 = .ok (.iload 8, 2) := by decide +kernel
theorem dX2_reckon_103 : decode cX2_reckon 103 = .ok (.aload_n 3, 1) := by decide +kernel
theorem dX2_reckon_104 : decode cX2_reckon 104 = .ok (.invokestatic 61, 3) := by decide +kernel
theorem dX2_reckon_107 : decode cX2_reckon 107 = .ok (.iastore, 1) := by decide +kernel
theorem dX2_reckon_108 : decode cX2_reckon 108 = .ok (.iinc 4 1, 3) := by decide +kernel
theorem dX2_reckon_111 : decode cX2_reckon 111 = .ok (.goto 178, 3) := by decide +kernel
theorem dX2_reckon_114 : decode cX2_reckon 114 = .ok (.iload 4, 2) := by decide +kernel
theorem dX2_reckon_116 : decode cX2_reckon 116 = .ok (.iconst 1, 1) := by decide +kernel
theorem dX2_reckon_117 : decode cX2_reckon 117 = .ok (.if_icmp .ge 5, 3) := by decide +kernel
theorem dX2_reckon_120 : decode cX2_reckon 120 = .ok (.iconst 0, 1) := by decide +kernel
theorem dX2_reckon_121 : decode cX2_reckon 121 = .ok (.ireturn, 1) := by decide +kernel
theorem dX2_reckon_122 : decode cX2_reckon 122 = .ok (.iload 7, 2) := by decide +kernel
theorem dX2_reckon_124 : decode cX2_reckon 124 = .ok (.bipush 33, 2) := by decide +kernel
theorem dX2_reckon_126 : decode cX2_reckon 126 = .ok (.if_icmp .ne 26, 3) := by decide +kernel
theorem dX2_reckon_129 : decode cX2_reckon 129 = .ok (.aload_n 0, 1) := by decide +kernel
theorem dX2_reckon_130 : decode cX2_reckon 130 = .ok (.getfield 18, 3) := by decide +kernel
theorem dX2_reckon_133 : decode cX2_reckon 133 = .ok (.iload 4, 2) := by decide +kernel
theorem dX2_reckon_135 : decode cX2_reckon 135 = .ok (.iconst 1, 1) := by decide +kernel
theorem dX2_reckon_136 : decode cX2_reckon 136 = .ok (.isub, 1) := by decide +kernel
theorem dX2_reckon_137 : decode cX2_reckon 137 = .ok (.iconst 1, 1) := by decide +kernel
theorem dX2_reckon_138 : decode cX2_reckon 138 = .ok (.aload_n 0, 1) := by decide +kernel
theorem dX2_reckon_139 : decode cX2_reckon 139 = .ok (.getfield 18, 3) := by decide +kernel
theorem dX2_reckon_142 : decode cX2_reckon 142 = .ok (.iload 4, 2) := by decide +kernel
theorem dX2_reckon_144 : decode cX2_reckon 144 = .ok (.iconst 1, 1) := by decide +kernel
theorem dX2_reckon_145 : decode cX2_reckon 145 = .ok (.isub, 1) := by decide +kernel
theorem dX2_reckon_146 : decode cX2_reckon 146 = .ok (.iaload, 1) := by decide +kernel
theorem dX2_reckon_147 : decode cX2_reckon 147 = .ok (.isub, 1) := by decide +kernel
theorem dX2_reckon_148 : decode cX2_reckon 148 = .ok (.iastore, 1) := by decide +kernel
theorem dX2_reckon_149 : decode cX2_reckon 149 = .ok (.goto 140, 3) := by decide +kernel
theorem dX2_reckon_152 : decode cX2_reckon 152 = .ok (.iload 7, 2) := by decide +kernel
theorem dX2_reckon_154 : decode cX2_reckon 154 = .ok (.bipush 38, 2) := by decide +kernel
theorem dX2_reckon_156 : decode cX2_reckon 156 = .ok (.if_icmp .eq 10, 3) := by decide +kernel
theorem dX2_reckon_159 : decode cX2_reckon 159 = .ok (.iload 7, 2) := by decide +kernel
theorem dX2_reckon_161 : decode cX2_reckon 161 = .ok (.bipush 124, 2) := by decide +kernel
theorem dX2_reckon_163 : decode cX2_reckon 163 = .ok (.if_icmp .ne 48, 3) := by decide +kernel
theorem dX2_reckon_166 : decode cX2_reckon 166 = .ok (.aload_n 0, 1) := by decide +kernel
theorem dX2_reckon_167 : decode cX2_reckon 167 = .ok (.getfield 18, 3) := by decide +kernel
theorem dX2_reckon_170 : decode cX2_reckon 170 = .ok (.iload 4, 2) := by decide +kernel
theorem dX2_reckon_172 : decode cX2_reckon 172 = .ok (.iconst 1, 1) := by decide +kernel
theorem dX2_reckon_173 : decode cX2_reckon 173 = .ok (.isub, 1) := by decide +kernel
theorem dX2_reckon_174 : decode cX2_reckon 174 = .ok (.iaload, 1) := by decide +kernel
theorem dX2_reckon_175 : decode cX2_reckon 175 = .ok (.ifCond .ne 7, 3) := by decide +kernel
theorem dX2_reckon_178 : decode cX2_reckon 178 = .ok (.iconst 1, 1) := by decide +kernel
theorem dX2_reckon_179 : decode cX2_reckon 179 = .ok (.goto 4, 3) := by decide +kernel
theorem dX2_reckon_182 : decode cX2_reckon 182 = .ok (.iconst 0, 1) := by decide +kernel
theorem dX2_reckon_183 : decode cX2_reckon 183 = .ok (.iload 7, 2) := by decide +kernel
theorem dX2_reckon_185 : decode cX2_reckon 185 = .ok (.bipush 38, 2) := by decide +kernel
theorem dX2_reckon_187 : decode cX2_reckon 187 = .ok (.if_icmp .ne 7, 3) := by decide +kernel
theorem dX2_reckon_190 : decode cX2_reckon 190 = .ok (.iconst 1, 1) := by decide +kernel
theorem dX2_reckon_191 : decode cX2_reckon 191 = .ok (.goto 4, 3) := by decide +kernel
theorem dX2_reckon_194 : decode cX2_reckon 194 = .ok (.iconst 0, 1) := by decide +kernel
theorem dX2_reckon_195 : decode cX2_reckon 195 = .ok (.if_icmp .ne 10, 3) := by decide +kernel
theorem dX2_reckon_198 : decode cX2_reckon 198 = .ok (.iload 8, 2) := by decide +kernel
theorem dX2_reckon_200 : decode cX2_reckon 200 = .ok (.istore 5, 2) := by decide +kernel
theorem dX2_reckon_202 : decode cX2_reckon 202 = .ok (.goto 87, 3) := by decide +kernel
theorem dX2_reckon_205 : decode cX2_reckon 205 = .ok (.iinc 4 (-1), 3) := by decide +kernel
theorem dX2_reckon_208 : decode cX2_reckon 208 = .ok (.goto 81, 3) := by decide +kernel
theorem dX2_reckon_211 : decode cX2_reckon 211 = .ok (.aload_n 0, 1) := by decide +kernel
theorem dX2_reckon_212 : decode cX2_reckon 212 = .ok (.getfield 18, 3) := by decide +kernel
theorem dX2_reckon_215 : decode cX2_reckon 215 = .ok (.iload 4, 2) := by decide +kernel
theorem dX2_reckon_217 : decode cX2_reckon 217 = .ok (.iconst 1, 1) := by decide +kernel
theorem dX2_reckon_218 : decode cX2_reckon 218 = .ok (.isub, 1) := by decide +kernel
theorem dX2_reckon_219 : decode cX2_reckon 219 = .ok (.iaload, 1) := by decide +kernel
theorem dX2_reckon_220 : decode cX2_reckon 220 = .ok (.istore 9, 2) := by decide +kernel
theorem dX2_reckon_222 : decode cX2_reckon 222 = .ok (.iload 9, 2) := by decide +kernel
theorem dX2_reckon_224 : decode cX2_reckon 224 = .ok (.ifCond .ne 21, 3) := by decide +kernel
theorem dX2_reckon_227 : decode cX2_reckon 227 = .ok (.iload 7, 2) := by decide +kernel
theorem dX2_reckon_229 : decode cX2_reckon 229 = .ok (.bipush 47, 2) := by decide +kernel
theorem dX2_reckon_231 : decode cX2_reckon 231 = .ok (.if_icmp .eq 10, 3) := by decide +kernel
theorem dX2_reckon_234 : decode cX2_reckon 234 = .ok (.iload 7, 2) := by decide +kernel
theorem dX2_reckon_236 : decode cX2_reckon 236 = .ok (.bipush 37, 2) := by decide +kernel
theorem dX2_reckon_238 : decode cX2_reckon 238 = .ok (.if_icmp .ne 7, 3) := by decide +kernel
theorem dX2_reckon_241 : decode cX2_reckon 241 = .ok (.iconst 1, 1) := by decide +kernel
theorem dX2_reckon_242 : decode cX2_reckon 242 = .ok (.goto 4, 3) := by decide +kernel
theorem dX2_reckon_245 : decode cX2_reckon 245 = .ok (.iconst 0, 1) := by decide +kernel
theorem dX2_reckon_246 : decode cX2_reckon 246 = .ok (.istore 10, 2) := by decide +kernel
theorem dX2_reckon_248 : decode cX2_reckon 248 = .ok (.iload 10, 2) := by decide +kernel
theorem dX2_reckon_250 : decode cX2_reckon 250 = .ok (.ifCond .ne 9, 3) := by decide +kernel
theorem dX2_reckon_253 : decode cX2_reckon 253 = .ok (.iload 4, 2) := by decide +kernel
theorem dX2_reckon_255 : decode cX2_reckon 255 = .ok (.iconst 2, 1) := by decide +kernel
theorem dX2_reckon_256 : decode cX2_reckon 256 = .ok (.if_icmp .ge 5, 3) := by decide +kernel
theorem dX2_reckon_259 : decode cX2_reckon 259 = .ok (.iconst 0, 1) := by decide +kernel
theorem dX2_reckon_260 : decode cX2_reckon 260 = .ok (.ireturn, 1) := by decide +kernel
theorem dX2_reckon_261 : decode cX2_reckon 261 = .ok (.aload_n 0, 1) := by decide +kernel
theorem dX2_reckon_262 : decode cX2_reckon 262 = .ok (.getfield 18, 3) := by decide +kernel
theorem dX2_reckon_265 : decode cX2_reckon 265 = .ok (.iload 4, 2) := by decide +kernel
theorem dX2_reckon_267 : decode cX2_reckon 267 = .ok (.iconst 2, 1) := by decide +kernel
theorem dX2_reckon_268 : decode cX2_reckon 268 = .ok (.isub, 1) := by decide +kernel
theorem dX2_reckon_269 : decode cX2_reckon 269 = .ok (.iload 7, 2) := by decide +kernel
theorem dX2_reckon_271 : decode cX2_reckon 271 = .ok (.aload_n 0, 1) := by decide +kernel
theorem dX2_reckon_272 : decode cX2_reckon 272 = .ok (.getfield 18, 3) := by decide +kernel
theorem dX2_reckon_275 : decode cX2_reckon 275 = .ok (.iload 4, 2) := by decide +kernel
theorem dX2_reckon_277 : decode cX2_reckon 277 = .ok (.iconst 2, 1) := by decide +kernel
theorem dX2_reckon_278 : decode cX2_reckon 278 = .ok (.isub, 1) := by decide +kernel
theorem dX2_reckon_279 : decode cX2_reckon 279 = .ok (.iaload, 1) := by decide +kernel
theorem dX2_reckon_280 : decode cX2_reckon 280 = .ok (.iload 9, 2) := by decide +kernel
theorem dX2_reckon_282 : decode cX2_reckon 282 = .ok (.invokestatic 65, 3) := by decide +kernel
theorem dX2_reckon_285 : decode cX2_reckon 285 = .ok (.iastore, 1) := by decide +kernel
theorem dX2_reckon_286 : decode cX2_reckon 286 = .ok (.iinc 4 (-1), 3) := by decide +kernel
theorem dX2_reckon_289 : decode cX2_reckon 289 = .ok (.iinc 6 1, 3) := by decide +kernel
theorem dX2_reckon_292 : decode cX2_reckon 292 = .ok (.goto (-283), 3) := by decide +kernel
theorem dX2_reckon_295 : decode cX2_reckon 295 = .ok (.iload 4, 2) := by decide +kernel
theorem dX2_reckon_297 : decode cX2_reckon 297 = .ok (.ifCond .le 15, 3) := by decide +kernel
theorem dX2_reckon_300 : decode cX2_reckon 300 = .ok (.aload_n 0, 1) := by decide +kernel
theorem dX2_reckon_301 : decode cX2_reckon 301 = .ok (.getfield 18, 3) := by decide +kernel
theorem dX2_reckon_304 : decode cX2_reckon 304 = .ok (.iload 4, 2) := by decide +kernel
theorem dX2_reckon_306 : decode cX2_reckon 306 = .ok (.iconst 1, 1) := by decide +kernel
theorem dX2_reckon_307 : decode cX2_reckon 307 = .ok (.isub, 1) := by decide +kernel
theorem dX2_reckon_308 : decode cX2_reckon 308 = .ok (.iaload, 1) := by decide +kernel
theorem dX2_reckon_309 : decode cX2_reckon 309 = .ok (.goto 4, 3) := by decide +kernel
theorem dX2_reckon_312 : decode cX2_reckon 312 = .ok (.iconst 0, 1) := by decide +kernel
theorem dX2_reckon_313 : decode cX2_reckon 313 = .ok (.ireturn, 1) := by decide +kernel
set_option maxHeartbeats 4000000 in
set_option maxRecDepth 100000 in
theorem kL_X2_reckon_9 {X : GC} {E : GE} (C : Cx X E cX2_reckon RX2 2 11) (o_t : Nat) (a_t : Nat → Nat) (q3 : Nat) (t_size : Int32) (t_rules : Int32) (n3 : Nat) (t_signs : (Nat → Int32)) (t_values : (Nat → Int32)) (f3 : (Nat → Int32)) (x2 : Int32) (k0 : Int32 × (Nat → Int32) → Option (Int32 × (Nat → Int32))) {r : Int32 × (Nat → Int32)} (hret : RtI X E cX2_reckon .int 0 0 (fun w => w = (W_X2_reckon E o_t a_t q3 n3 t_size t_rules t_signs t_values r.2 f3)) r.1) (hk0 : ∀ u, k0 u = some r → Gx X E 0 0 (W_X2_reckon E o_t a_t q3 n3 t_size t_rules t_signs t_values u.2 f3) 295 [(0, .ref o_t), (4, .int u.1)] []) : ∀ (n : Nat) (s : Int32 × Int32 × Int32 × (Nat → Int32)), L_X2_reckon_9 n3 t_signs t_values f3 x2 k0 n s = some r → Gx X E 0 0 (W_X2_reckon E o_t a_t q3 n3 t_size t_rules t_signs t_values s.2.2.2 f3) 9 [(0, .ref o_t), (2, .int x2), (3, .ref q3), (4, .int s.1), (5, .int s.2.1), (6, .int s.2.2.1)] [] := by
  unfold L_X2_reckon_9
  refine lp_ind _ (fun go ih s h => ?_)
  refine g_iload (pc := 9) C dX2_reckon_9 5 rfl ?_
  refine g_sipush (pc := 11) (v := 256) C dX2_reckon_11 (by decide) ?_
  refine g_icmp_ge (pc := 14) (tgt := 295) C dX2_reckon_14 (by decide) h (fun h => ?_) (fun h => ?_)
  · refine g_sub [0, 3] rfl ?_
    exact hk0 _ h
  · refine g_iload (pc := 17) C dX2_reckon_17 4 rfl ?_
    refine g_if_lt (pc := 19) (tgt := 295) C dX2_reckon_19 (by decide) h (fun h => ?_) (fun h => ?_)
    · refine g_sub [0, 3] rfl ?_
      exact hk0 _ h
    · refine g_iload (pc := 22) C dX2_reckon_22 4 rfl ?_
      refine g_iload_n (pc := 24) C dX2_reckon_24 rfl 1 rfl ?_
      refine g_icmp_ge (pc := 25) (tgt := 295) C dX2_reckon_25 (by decide) h (fun h => ?_) (fun h => ?_)
      · refine g_sub [0, 3] rfl ?_
        exact hk0 _ h
      · refine g_iload (pc := 28) C dX2_reckon_28 4 rfl ?_
        refine g_sipush (pc := 30) (v := 256) C dX2_reckon_30 (by decide) ?_
        refine g_icmp_ge (pc := 33) (tgt := 295) C dX2_reckon_33 (by decide) h (fun h => ?_) (fun h => ?_)
        · refine g_sub [0, 3] rfl ?_
          exact hk0 _ h
        · refine g_aload_n (pc := 36) C dX2_reckon_36 rfl 0 rfl ?_
          refine g_get (pc := 37) C fl_X2_11 dX2_reckon_37 0 rfl rfl ?_
          refine g_iload (pc := 40) C dX2_reckon_40 4 rfl ?_
          refine g_iald (pc := 42) C dX2_reckon_42 1 rfl h (fun v1 h => ?_)
          refine g_istore (pc := 43) (lv' := [(7, .int v1), (0, .ref o_t), (2, .int x2), (3, .ref q3), (4, .int s.1), (5, .int s.2.1), (6, .int s.2.2.1)]) C dX2_reckon_43 (by decide) rfl ?_
          refine g_aload_n (pc := 45) C dX2_reckon_45 rfl 1 rfl ?_
          refine g_get (pc := 46) C fl_X2_15 dX2_reckon_46 0 rfl rfl ?_
          refine g_iload (pc := 49) C dX2_reckon_49 5 rfl ?_
          refine g_iald (pc := 51) C dX2_reckon_51 2 rfl h (fun v2 h => ?_)
          refine g_istore (pc := 52) (lv' := [(8, .int v2), (7, .int v1), (0, .ref o_t), (2, .int x2), (3, .ref q3), (4, .int s.1), (5, .int s.2.1), (6, .int s.2.2.1)]) C dX2_reckon_52 (by decide) rfl ?_
          refine g_iincn (pc := 54) (j := 6) (d := 1) (lv' := fun v3 => [(5, .int v3), (8, .int v2), (7, .int v1), (0, .ref o_t), (2, .int x2), (3, .ref q3), (4, .int s.1), (6, .int s.2.2.1)]) C dX2_reckon_54 rfl (by decide) (by decide) (fun _ => rfl) h (fun v3 h => ?_)
          refine g_iload (pc := 57) C dX2_reckon_57 2 rfl ?_
          refine g_bipush (pc := 59) (v := 48) C dX2_reckon_59 (by decide) ?_
          refine g_jn (fun s4 : Unit => Gx X E 0 0 (W_X2_reckon E o_t a_t q3 n3 t_size t_rules t_signs t_values s.2.2.2 f3) 71 [(0, .ref o_t), (2, .int x2), (3, .ref q3), (4, .int s.1), (5, .int v3), (6, .int s.2.2.1), (7, .int v1), (8, .int v2)] []) h (fun s4 h => ?_) (fun j71 hj71 h => ?_)
          · refine g_iload (pc := 71) C dX2_reckon_71 3 rfl ?_
            refine g_aload_n (pc := 73) C dX2_reckon_73 rfl 0 rfl ?_
            refine g_get (pc := 74) C fl_X2_18 dX2_reckon_74 0 rfl rfl ?_
            refine g_alen (pc := 77) (v := 64) C dX2_reckon_77 3 rfl (by decide) ?_
            refine g_icmp_lt (pc := 78) (tgt := 83) C dX2_reckon_78 (by decide) h (fun h => ?_) (fun h => ?_)
            · refine g_aload_n (pc := 83) C dX2_reckon_83 rfl 0 rfl ?_
              refine g_get (pc := 84) C fl_X2_18 dX2_reckon_84 0 rfl rfl ?_
              refine g_iload (pc := 87) C dX2_reckon_87 3 rfl ?_
              refine g_iload (pc := 89) C dX2_reckon_89 6 rfl ?_
              refine g_bipush (pc := 91) (v := 48) C dX2_reckon_91 (by decide) ?_
              refine g_jn (fun s5 : Int32 => Gx X E 0 0 (W_X2_reckon E o_t a_t q3 n3 t_size t_rules t_signs t_values s.2.2.2 f3) 107 [(0, .ref o_t), (2, .int x2), (3, .ref q3), (4, .int s.1), (5, .int v3), (6, .int s.2.2.1)] [.int s5, .int s.1, .ref (a_t 2)]) h (fun s5 h => ?_) (fun j107 hj107 h => ?_)
              · refine g_iast (pc := 107) C dX2_reckon_107 3 rfl h (fun g6 h => ?_)
                refine g_ws (ws' := (W_X2_reckon E o_t a_t q3 n3 t_size t_rules t_signs t_values g6 f3)) rfl ?_
                refine g_iincn (pc := 108) (j := 3) (d := 1) (lv' := fun v7 => [(4, .int v7), (0, .ref o_t), (2, .int x2), (3, .ref q3), (5, .int v3), (6, .int s.2.2.1)]) C dX2_reckon_108 rfl (by decide) (by decide) (fun _ => rfl) h (fun v7 h => ?_)
                refine g_goto (pc := 111) (tgt := 289) C dX2_reckon_111 (by decide) ?_
                refine g_iincn (pc := 289) (j := 5) (d := 1) (lv' := fun v8 => [(6, .int v8), (4, .int v7), (0, .ref o_t), (2, .int x2), (3, .ref q3), (5, .int v3)]) C dX2_reckon_289 rfl (by decide) (by decide) (fun _ => rfl) h (fun v8 h => ?_)
                refine g_goto (pc := 292) (tgt := 9) C dX2_reckon_292 (by decide) ?_
                refine g_sub [2, 3, 4, 1, 5, 0] rfl ?_
                exact ih _ h
              refine g_icmp_ne (pc := 93) (tgt := 101) C dX2_reckon_93 (by decide) h (fun h => ?_) (fun h => ?_)
              · refine g_iload (pc := 101) C dX2_reckon_101 7 rfl ?_
                refine g_aload_n (pc := 103) C dX2_reckon_103 rfl 2 rfl ?_
                obtain ⟨u9, hu9, h⟩ := bs h
                refine g_callS (pc := 104) (st := [.int s.1, .ref (a_t 2)]) (st1 := [.int u9, .int s.1, .ref (a_t 2)]) (ws' := (W_X2_reckon E o_t a_t q3 n3 t_size t_rules t_signs t_values s.2.2.2 f3)) C mv_X2_letterValue ms_X2_letterValue ml_X2_61 (c_X2_letterValue X.2.1 E q3 n3 f3 v2 u9 hu9) dX2_reckon_104 (by decide) rfl (Nat.le_of_ble_eq_true rfl) [4] rfl (by decide) rfl rfl rfl rfl ?_
                refine g_sub [0, 1, 2, 3, 4, 5] rfl ?_
                exact hj107 _ h
              · refine g_iload (pc := 96) C dX2_reckon_96 7 rfl ?_
                refine g_goto (pc := 98) (tgt := 107) C dX2_reckon_98 (by decide) ?_
                refine g_sub [0, 1, 2, 3, 4, 5] rfl ?_
                exact hj107 _ h
            · refine g_iconst (pc := 81) (v := 0) C dX2_reckon_81 (by decide) ?_
              cases h
              exact hret _ _ _ dX2_reckon_82 rfl rfl
          refine g_icmp_eq (pc := 61) (tgt := 71) C dX2_reckon_61 (by decide) h (fun h => ?_) (fun h => ?_)
          · refine g_sub [3, 4, 5, 6, 0, 7, 2, 1] rfl ?_
            exact hj71 _ h
          · refine g_iload (pc := 64) C dX2_reckon_64 2 rfl ?_
            refine g_bipush (pc := 66) (v := 97) C dX2_reckon_66 (by decide) ?_
            refine g_icmp_ne (pc := 68) (tgt := 114) C dX2_reckon_68 (by decide) h (fun h => ?_) (fun h => ?_)
            · refine g_iload (pc := 114) C dX2_reckon_114 6 rfl ?_
              refine g_iconst (pc := 116) (v := 1) C dX2_reckon_116 (by decide) ?_
              refine g_icmp_ge (pc := 117) (tgt := 122) C dX2_reckon_117 (by decide) h (fun h => ?_) (fun h => ?_)
              · refine g_iload (pc := 122) C dX2_reckon_122 2 rfl ?_
                refine g_bipush (pc := 124) (v := 33) C dX2_reckon_124 (by decide) ?_
                refine g_icmp_ne (pc := 126) (tgt := 152) C dX2_reckon_126 (by decide) h (fun h => ?_) (fun h => ?_)
                · refine g_iload (pc := 152) C dX2_reckon_152 2 rfl ?_
                  refine g_bipush (pc := 154) (v := 38) C dX2_reckon_154 (by decide) ?_
                  refine g_jn (fun s10 : Unit => Gx X E 0 0 (W_X2_reckon E o_t a_t q3 n3 t_size t_rules t_signs t_values s.2.2.2 f3) 166 [(0, .ref o_t), (2, .int x2), (3, .ref q3), (4, .int s.1), (5, .int v3), (6, .int s.2.2.1), (7, .int v1), (8, .int v2)] []) h (fun s10 h => ?_) (fun j166 hj166 h => ?_)
                  · refine g_aload_n (pc := 166) C dX2_reckon_166 rfl 0 rfl ?_
                    refine g_get (pc := 167) C fl_X2_18 dX2_reckon_167 0 rfl rfl ?_
                    refine g_iload (pc := 170) C dX2_reckon_170 3 rfl ?_
                    refine g_iconst (pc := 172) (v := 1) C dX2_reckon_172 (by decide) ?_
                    refine g_isub (pc := 173) C dX2_reckon_173 ?_
                    refine g_iald (pc := 174) C dX2_reckon_174 3 rfl h (fun v11 h => ?_)
                    refine g_jn (fun s12 : Int32 => Gx X E 0 0 (W_X2_reckon E o_t a_t q3 n3 t_size t_rules t_signs t_values s.2.2.2 f3) 183 [(0, .ref o_t), (2, .int x2), (3, .ref q3), (4, .int s.1), (5, .int v3), (6, .int s.2.2.1), (7, .int v1), (8, .int v2)] [.int s12]) h (fun s12 h => ?_) (fun j183 hj183 h => ?_)
                    · refine g_iload (pc := 183) C dX2_reckon_183 6 rfl ?_
                      refine g_bipush (pc := 185) (v := 38) C dX2_reckon_185 (by decide) ?_
                      refine g_jn (fun s13 : Int32 => Gx X E 0 0 (W_X2_reckon E o_t a_t q3 n3 t_size t_rules t_signs t_values s.2.2.2 f3) 195 [(0, .ref o_t), (2, .int x2), (3, .ref q3), (4, .int s.1), (5, .int v3), (6, .int s.2.2.1), (8, .int v2)] [.int s13, .int s12]) h (fun s13 h => ?_) (fun j195 hj195 h => ?_)
                      · refine g_icmp_ne (pc := 195) (tgt := 205) C dX2_reckon_195 (by decide) h (fun h => ?_) (fun h => ?_)
                        · refine g_iincn (pc := 205) (j := 3) (d := -1) (lv' := fun v14 => [(4, .int v14), (0, .ref o_t), (2, .int x2), (3, .ref q3), (5, .int v3), (6, .int s.2.2.1), (8, .int v2)]) C dX2_reckon_205 rfl (by decide) (by decide) (fun _ => rfl) h (fun v14 h => ?_)
                          refine g_goto (pc := 208) (tgt := 289) C dX2_reckon_208 (by decide) ?_
                          refine g_iincn (pc := 289) (j := 5) (d := 1) (lv' := fun v15 => [(6, .int v15), (4, .int v14), (0, .ref o_t), (2, .int x2), (3, .ref q3), (5, .int v3), (8, .int v2)]) C dX2_reckon_289 rfl (by decide) (by decide) (fun _ => rfl) h (fun v15 h => ?_)
                          refine g_goto (pc := 292) (tgt := 9) C dX2_reckon_292 (by decide) ?_
                          refine g_sub [2, 3, 4, 1, 5, 0] rfl ?_
                          exact ih _ h
                        · refine g_iload (pc := 198) C dX2_reckon_198 6 rfl ?_
                          refine g_istore (pc := 200) (lv' := [(5, .int v2), (0, .ref o_t), (2, .int x2), (3, .ref q3), (4, .int s.1), (6, .int s.2.2.1), (8, .int v2)]) C dX2_reckon_200 (by decide) rfl ?_
                          refine g_goto (pc := 202) (tgt := 289) C dX2_reckon_202 (by decide) ?_
                          refine g_iincn (pc := 289) (j := 5) (d := 1) (lv' := fun v16 => [(6, .int v16), (5, .int v2), (0, .ref o_t), (2, .int x2), (3, .ref q3), (4, .int s.1), (8, .int v2)]) C dX2_reckon_289 rfl (by decide) (by decide) (fun _ => rfl) h (fun v16 h => ?_)
                          refine g_goto (pc := 292) (tgt := 9) C dX2_reckon_292 (by decide) ?_
                          refine g_sub [2, 3, 4, 5, 1, 0] rfl ?_
                          exact ih _ h
                      refine g_icmp_ne (pc := 187) (tgt := 194) C dX2_reckon_187 (by decide) h (fun h => ?_) (fun h => ?_)
                      · refine g_iconst (pc := 194) (v := 0) C dX2_reckon_194 (by decide) ?_
                        refine g_sub [0, 1, 2, 3, 4, 5, 7] rfl ?_
                        exact hj195 _ h
                      · refine g_iconst (pc := 190) (v := 1) C dX2_reckon_190 (by decide) ?_
                        refine g_goto (pc := 191) (tgt := 195) C dX2_reckon_191 (by decide) ?_
                        refine g_sub [0, 1, 2, 3, 4, 5, 7] rfl ?_
                        exact hj195 _ h
                    refine g_if_ne (pc := 175) (tgt := 182) C dX2_reckon_175 (by decide) h (fun h => ?_) (fun h => ?_)
                    · refine g_iconst (pc := 182) (v := 0) C dX2_reckon_182 (by decide) ?_
                      exact hj183 _ h
                    · refine g_iconst (pc := 178) (v := 1) C dX2_reckon_178 (by decide) ?_
                      refine g_goto (pc := 179) (tgt := 183) C dX2_reckon_179 (by decide) ?_
                      exact hj183 _ h
                  refine g_icmp_eq (pc := 156) (tgt := 166) C dX2_reckon_156 (by decide) h (fun h => ?_) (fun h => ?_)
                  · refine g_sub [3, 4, 5, 6, 0, 7, 2, 1] rfl ?_
                    exact hj166 _ h
                  · refine g_iload (pc := 159) C dX2_reckon_159 2 rfl ?_
                    refine g_bipush (pc := 161) (v := 124) C dX2_reckon_161 (by decide) ?_
                    refine g_icmp_ne (pc := 163) (tgt := 211) C dX2_reckon_163 (by decide) h (fun h => ?_) (fun h => ?_)
                    · refine g_aload_n (pc := 211) C dX2_reckon_211 rfl 3 rfl ?_
                      refine g_get (pc := 212) C fl_X2_18 dX2_reckon_212 0 rfl rfl ?_
                      refine g_iload (pc := 215) C dX2_reckon_215 6 rfl ?_
                      refine g_iconst (pc := 217) (v := 1) C dX2_reckon_217 (by decide) ?_
                      refine g_isub (pc := 218) C dX2_reckon_218 ?_
                      refine g_iald (pc := 219) C dX2_reckon_219 3 rfl h (fun v17 h => ?_)
                      refine g_istore (pc := 220) (lv' := [(9, .int v17), (5, .int v3), (8, .int v2), (7, .int v1), (0, .ref o_t), (2, .int x2), (3, .ref q3), (4, .int s.1), (6, .int s.2.2.1)]) C dX2_reckon_220 (by decide) rfl ?_
                      refine g_iload (pc := 222) C dX2_reckon_222 0 rfl ?_
                      refine g_jn (fun s18 : Int32 => Gx X E 0 0 (W_X2_reckon E o_t a_t q3 n3 t_size t_rules t_signs t_values s.2.2.2 f3) 246 [(0, .ref o_t), (2, .int x2), (3, .ref q3), (4, .int s.1), (5, .int v3), (6, .int s.2.2.1), (7, .int v1), (9, .int v17)] [.int s18]) h (fun s18 h => ?_) (fun j246 hj246 h => ?_)
                      · refine g_istore (pc := 246) (lv' := [(10, .int s18), (0, .ref o_t), (2, .int x2), (3, .ref q3), (4, .int s.1), (5, .int v3), (6, .int s.2.2.1), (7, .int v1), (9, .int v17)]) C dX2_reckon_246 (by decide) rfl ?_
                        refine g_iload (pc := 248) C dX2_reckon_248 0 rfl ?_
                        refine g_if_ne (pc := 250) (tgt := 259) C dX2_reckon_250 (by decide) h (fun h => ?_) (fun h => ?_)
                        · refine g_iconst (pc := 259) (v := 0) C dX2_reckon_259 (by decide) ?_
                          cases h
                          exact hret _ _ _ dX2_reckon_260 rfl rfl
                        · refine g_iload (pc := 253) C dX2_reckon_253 4 rfl ?_
                          refine g_iconst (pc := 255) (v := 2) C dX2_reckon_255 (by decide) ?_
                          refine g_icmp_ge (pc := 256) (tgt := 261) C dX2_reckon_256 (by decide) h (fun h => ?_) (fun h => ?_)
                          · refine g_aload_n (pc := 261) C dX2_reckon_261 rfl 1 rfl ?_
                            refine g_get (pc := 262) C fl_X2_18 dX2_reckon_262 0 rfl rfl ?_
                            refine g_iload (pc := 265) C dX2_reckon_265 4 rfl ?_
                            refine g_iconst (pc := 267) (v := 2) C dX2_reckon_267 (by decide) ?_
                            refine g_isub (pc := 268) C dX2_reckon_268 ?_
                            refine g_iload (pc := 269) C dX2_reckon_269 7 rfl ?_
                            refine g_aload_n (pc := 271) C dX2_reckon_271 rfl 1 rfl ?_
                            refine g_get (pc := 272) C fl_X2_18 dX2_reckon_272 0 rfl rfl ?_
                            refine g_iload (pc := 275) C dX2_reckon_275 4 rfl ?_
                            refine g_iconst (pc := 277) (v := 2) C dX2_reckon_277 (by decide) ?_
                            refine g_isub (pc := 278) C dX2_reckon_278 ?_
                            refine g_iald (pc := 279) C dX2_reckon_279 3 rfl h (fun v19 h => ?_)
                            refine g_iload (pc := 280) C dX2_reckon_280 8 rfl ?_
                            obtain ⟨u20, hu20, h⟩ := bs h
                            refine g_callS (pc := 282) (st := [.int (s.1 - (2 : Int32)), .ref (a_t 2)]) (st1 := [.int u20, .int (s.1 - (2 : Int32)), .ref (a_t 2)]) (ws' := (W_X2_reckon E o_t a_t q3 n3 t_size t_rules t_signs t_values s.2.2.2 f3)) C mv_X2_joined ms_X2_joined ml_X2_65 (c_X2_joined X.2.1 E v1 v19 v17 u20 hu20) dX2_reckon_282 (by decide) rfl (Nat.le_of_ble_eq_true rfl) [] rfl (by decide) rfl rfl rfl rfl ?_
                            refine g_iast (pc := 285) C dX2_reckon_285 3 rfl h (fun g21 h => ?_)
                            refine g_ws (ws' := (W_X2_reckon E o_t a_t q3 n3 t_size t_rules t_signs t_values g21 f3)) rfl ?_
                            refine g_iincn (pc := 286) (j := 4) (d := -1) (lv' := fun v22 => [(4, .int v22), (10, .int s18), (0, .ref o_t), (2, .int x2), (3, .ref q3), (5, .int v3), (6, .int s.2.2.1), (7, .int v1), (9, .int v17)]) C dX2_reckon_286 rfl (by decide) (by decide) (fun _ => rfl) h (fun v22 h => ?_)
                            refine g_iincn (pc := 289) (j := 6) (d := 1) (lv' := fun v23 => [(6, .int v23), (4, .int v22), (10, .int s18), (0, .ref o_t), (2, .int x2), (3, .ref q3), (5, .int v3), (7, .int v1), (9, .int v17)]) C dX2_reckon_289 rfl (by decide) (by decide) (fun _ => rfl) h (fun v23 h => ?_)
                            refine g_goto (pc := 292) (tgt := 9) C dX2_reckon_292 (by decide) ?_
                            refine g_sub [3, 4, 5, 1, 6, 0] rfl ?_
                            exact ih _ h
                          · refine g_iconst (pc := 259) (v := 0) C dX2_reckon_259 (by decide) ?_
                            cases h
                            exact hret _ _ _ dX2_reckon_260 rfl rfl
                      refine g_jn (fun s24 : Unit => Gx X E 0 0 (W_X2_reckon E o_t a_t q3 n3 t_size t_rules t_signs t_values s.2.2.2 f3) 245 [(0, .ref o_t), (2, .int x2), (3, .ref q3), (4, .int s.1), (5, .int v3), (6, .int s.2.2.1), (7, .int v1), (9, .int v17)] []) h (fun s24 h => ?_) (fun j245 hj245 h => ?_)
                      · refine g_iconst (pc := 245) (v := 0) C dX2_reckon_245 (by decide) ?_
                        exact hj246 _ h
                      refine g_if_ne (pc := 224) (tgt := 245) C dX2_reckon_224 (by decide) h (fun h => ?_) (fun h => ?_)
                      · refine g_sub [4, 5, 6, 7, 1, 8, 3, 0] rfl ?_
                        exact hj245 _ h
                      · refine g_iload (pc := 227) C dX2_reckon_227 3 rfl ?_
                        refine g_bipush (pc := 229) (v := 47) C dX2_reckon_229 (by decide) ?_
                        refine g_icmp_eq (pc := 231) (tgt := 241) C dX2_reckon_231 (by decide) h (fun h => ?_) (fun h => ?_)
                        · refine g_iconst (pc := 241) (v := 1) C dX2_reckon_241 (by decide) ?_
                          refine g_goto (pc := 242) (tgt := 246) C dX2_reckon_242 (by decide) ?_
                          refine g_sub [4, 5, 6, 7, 1, 8, 3, 0] rfl ?_
                          exact hj246 _ h
                        · refine g_iload (pc := 234) C dX2_reckon_234 3 rfl ?_
                          refine g_bipush (pc := 236) (v := 37) C dX2_reckon_236 (by decide) ?_
                          refine g_icmp_ne (pc := 238) (tgt := 245) C dX2_reckon_238 (by decide) h (fun h => ?_) (fun h => ?_)
                          · refine g_sub [4, 5, 6, 7, 1, 8, 3, 0] rfl ?_
                            exact hj245 _ h
                          · refine g_iconst (pc := 241) (v := 1) C dX2_reckon_241 (by decide) ?_
                            refine g_goto (pc := 242) (tgt := 246) C dX2_reckon_242 (by decide) ?_
                            refine g_sub [4, 5, 6, 7, 1, 8, 3, 0] rfl ?_
                            exact hj246 _ h
                    · refine g_sub [3, 4, 5, 6, 0, 7, 2, 1] rfl ?_
                      exact hj166 _ h
                · refine g_aload_n (pc := 129) C dX2_reckon_129 rfl 3 rfl ?_
                  refine g_get (pc := 130) C fl_X2_18 dX2_reckon_130 0 rfl rfl ?_
                  refine g_iload (pc := 133) C dX2_reckon_133 6 rfl ?_
                  refine g_iconst (pc := 135) (v := 1) C dX2_reckon_135 (by decide) ?_
                  refine g_isub (pc := 136) C dX2_reckon_136 ?_
                  refine g_iconst (pc := 137) (v := 1) C dX2_reckon_137 (by decide) ?_
                  refine g_aload_n (pc := 138) C dX2_reckon_138 rfl 3 rfl ?_
                  refine g_get (pc := 139) C fl_X2_18 dX2_reckon_139 0 rfl rfl ?_
                  refine g_iload (pc := 142) C dX2_reckon_142 6 rfl ?_
                  refine g_iconst (pc := 144) (v := 1) C dX2_reckon_144 (by decide) ?_
                  refine g_isub (pc := 145) C dX2_reckon_145 ?_
                  refine g_iald (pc := 146) C dX2_reckon_146 3 rfl h (fun v25 h => ?_)
                  refine g_isub (pc := 147) C dX2_reckon_147 ?_
                  refine g_iast (pc := 148) C dX2_reckon_148 3 rfl h (fun g26 h => ?_)
                  refine g_ws (ws' := (W_X2_reckon E o_t a_t q3 n3 t_size t_rules t_signs t_values g26 f3)) rfl ?_
                  refine g_goto (pc := 149) (tgt := 289) C dX2_reckon_149 (by decide) ?_
                  refine g_iincn (pc := 289) (j := 7) (d := 1) (lv' := fun v27 => [(6, .int v27), (5, .int v3), (8, .int v2), (7, .int v1), (0, .ref o_t), (2, .int x2), (3, .ref q3), (4, .int s.1)]) C dX2_reckon_289 rfl (by decide) (by decide) (fun _ => rfl) h (fun v27 h => ?_)
                  refine g_goto (pc := 292) (tgt := 9) C dX2_reckon_292 (by decide) ?_
                  refine g_sub [4, 5, 6, 7, 1, 0] rfl ?_
                  exact ih _ h
              · refine g_iconst (pc := 120) (v := 0) C dX2_reckon_120 (by decide) ?_
                cases h
                exact hret _ _ _ dX2_reckon_121 rfl rfl
            · refine g_sub [3, 4, 5, 6, 0, 7, 2, 1] rfl ?_
              exact hj71 _ h
set_option maxHeartbeats 4000000 in
set_option maxRecDepth 100000 in
theorem c_X2_reckon (l : Launch) (E : GE) (o_t : Nat) (a_t : Nat → Nat) (q3 : Nat) (n3 : Nat) (t_size : Int32) (t_rules : Int32) (t_signs : (Nat → Int32)) (t_values : (Nat → Int32)) (t_stack : (Nat → Int32)) (f3 : (Nat → Int32)) (x1 : Int32) (x2 : Int32) (r : Int32 × (Nat → Int32)) (h : f_X2_reckon n3 t_signs t_values t_stack f3 x1 x2 = some r) : Cn l E yX2_reckon cX2_reckon 11 (some .int) 2 0 0 [.ref o_t, .int x1, .int x2, .ref q3] (W_X2_reckon E o_t a_t q3 n3 t_size t_rules t_signs t_values t_stack f3) (fun w => w = (W_X2_reckon E o_t a_t q3 n3 t_size t_rules t_signs t_values r.2 f3)) (some (.int r.1)) := by
  refine Cn.ofI (by decide +kernel) (Nat.le_of_ble_eq_true rfl) (fun X hX hR C hret => ?_)
  subst hX
  show Gx X E 0 0 (W_X2_reckon E o_t a_t q3 n3 t_size t_rules t_signs t_values t_stack f3) 0 [(0, .ref o_t), (1, .int x1), (2, .int x2), (3, .ref q3)] []
  unfold f_X2_reckon at h
  refine g_iconst (pc := 0) (v := 0) C dX2_reckon_0 (by decide) ?_
  refine g_istore (pc := 1) (lv' := [(4, .int (0 : Int32)), (0, .ref o_t), (1, .int x1), (2, .int x2), (3, .ref q3)]) C dX2_reckon_1 (by decide) rfl ?_
  refine g_iload_n (pc := 3) C dX2_reckon_3 rfl 2 rfl ?_
  refine g_istore (pc := 4) (lv' := [(5, .int x1), (4, .int (0 : Int32)), (0, .ref o_t), (1, .int x1), (2, .int x2), (3, .ref q3)]) C dX2_reckon_4 (by decide) rfl ?_
  refine g_iconst (pc := 6) (v := 0) C dX2_reckon_6 (by decide) ?_
  refine g_istore (pc := 7) (lv' := [(6, .int (0 : Int32)), (5, .int x1), (4, .int (0 : Int32)), (0, .ref o_t), (1, .int x1), (2, .int x2), (3, .ref q3)]) C dX2_reckon_7 (by decide) rfl ?_
  refine g_sub [3, 5, 6, 2, 1, 0] rfl ?_
  refine kL_X2_reckon_9 C o_t a_t q3 t_size t_rules n3 t_signs t_values f3 x2 _ hret (fun s28 h => ?_) _ _ h
  refine g_iload (pc := 295) C dX2_reckon_295 1 rfl ?_
  refine g_if_le (pc := 297) (tgt := 312) C dX2_reckon_297 (by decide) h (fun h => ?_) (fun h => ?_)
  · refine g_iconst (pc := 312) (v := 0) C dX2_reckon_312 (by decide) ?_
    cases h
    exact hret _ _ _ dX2_reckon_313 rfl rfl
  · refine g_aload_n (pc := 300) C dX2_reckon_300 rfl 0 rfl ?_
    refine g_get (pc := 301) C fl_X2_18 dX2_reckon_301 0 rfl rfl ?_
    refine g_iload (pc := 304) C dX2_reckon_304 1 rfl ?_
    refine g_iconst (pc := 306) (v := 1) C dX2_reckon_306 (by decide) ?_
    refine g_isub (pc := 307) C dX2_reckon_307 ?_
    refine g_iald (pc := 308) C dX2_reckon_308 3 rfl h (fun v29 h => ?_)
    refine g_goto (pc := 309) (tgt := 313) C dX2_reckon_309 (by decide) ?_
    cases h
    exact hret _ _ _ dX2_reckon_313 rfl rfl
abbrev W_X2_amountOf (E : GE) (O_t : Nat) (a_t : Nat → Nat) (q3 : Nat) (n3 : Nat) (t_size : Int32) (t_rules : Int32) (t_signs : (Nat → Int32)) (t_values : (Nat → Int32)) (t_stack : (Nat → Int32)) (t_letters : (Nat → Int32)) (t_amounts : (Nat → Int32)) (t_conditions : (Nat → Int32)) (t_ends : (Nat → Int32)) (f3 : (Nat → Int32)) : va_W := [(O_t, ob_X2 a_t t_size t_rules), (a_t 0, .inl (E.2.1, 256, .inl t_signs)), (a_t 1, .inl (E.2.1, 256, .inl t_values)), (a_t 2, .inl (E.2.1, 64, .inl t_stack)), (a_t 3, .inl (E.2.1, 16, .inl t_letters)), (a_t 4, .inl (E.2.1, 16, .inl t_amounts)), (a_t 5, .inl (E.2.1, 16, .inl t_conditions)), (a_t 6, .inl (E.2.1, 16, .inl t_ends)), (q3, .inl (E.2.1, n3, .inl f3))]
def L_X2_amountOf_3 (n3 : Nat) (t_rules : Int32) (t_signs : (Nat → Int32)) (t_values : (Nat → Int32)) (t_letters : (Nat → Int32)) (t_amounts : (Nat → Int32)) (t_conditions : (Nat → Int32)) (t_ends : (Nat → Int32)) (f3 : (Nat → Int32)) (x1 : Int32) (x2 : Int32) (k0 : Int32 × (Nat → Int32) → Option (Int32 × (Nat → Int32))) : Nat → Int32 × (Nat → Int32) → Option (Int32 × (Nat → Int32)) := lp fun go s => if t_rules ≤ s.1 then (some ((0 : Int32), s.2)) else if (16 : Int32) ≤ s.1 then (some ((0 : Int32), s.2)) else rd t_letters 16 s.1 fun v1 => if v1 = x1 then (rd t_conditions 16 s.1 fun v3 => rd t_ends 16 s.1 fun v4 => (f_X2_reckon n3 t_signs t_values s.2 f3 v3 v4).bind fun u5 => if u5.1 = 0 then (nm (s.1 + (1 : Int32)) fun v6 => go (v6, u5.2)) else k0 (s.1, u5.2)) else nm (s.1 + (1 : Int32)) fun v2 => go (v2, s.2)
def f_X2_amountOf (n3 : Nat) (t_rules : Int32) (t_signs : (Nat → Int32)) (t_values : (Nat → Int32)) (t_stack : (Nat → Int32)) (t_letters : (Nat → Int32)) (t_amounts : (Nat → Int32)) (t_conditions : (Nat → Int32)) (t_ends : (Nat → Int32)) (f3 : (Nat → Int32)) (x1 : Int32) (x2 : Int32) : Option (Int32 × (Nat → Int32)) := L_X2_amountOf_3 n3 t_rules t_signs t_values t_letters t_amounts t_conditions t_ends f3 x1 x2 (fun s7 => rd t_amounts 16 s7.1 fun v8 => rd t_conditions 16 s7.1 fun v9 => (f_X2_reckon n3 t_signs t_values s7.2 f3 v8 v9).bind fun u10 => some ((imax (0 : Int32) (imin x2 u10.1)), u10.2)) fu ((0 : Int32), t_stack)
theorem dX2_amountOf_0 : decode cX2_amountOf 0 = .ok (.iconst 0, 1) := by decide +kernel
theorem dX2_amountOf_1 : decode cX2_amountOf 1 = .ok (.istore 4, 2) := by decide +kernel
theorem dX2_amountOf_3 : decode cX2_amountOf 3 = .ok (.iload 4, 2) := by decide +kernel
theorem dX2_amountOf_5 : decode cX2_amountOf 5 = .ok (.aload_n 0, 1) := by decide +kernel
theorem dX2_amountOf_6 : decode cX2_amountOf 6 = .ok (.getfield 41, 3) := by decide +kernel
theorem dX2_amountOf_9 : decode cX2_amountOf 9 = .ok (.if_icmp .ge 81, 3) := by decide +kernel
theorem dX2_amountOf_12 : decode cX2_amountOf 12 = .ok (.iload 4, 2) := by decide +kernel
theorem dX2_amountOf_14 : decode cX2_amountOf 14 = .ok (.bipush 16, 2) := by decide +kernel
theorem dX2_amountOf_16 : decode cX2_amountOf 16 = .ok (.if_icmp .ge 74, 3) := by decide +kernel
theorem dX2_amountOf_19 : decode cX2_amountOf 19 = .ok (.aload_n 0, 1) := by decide +kernel
theorem dX2_amountOf_20 : decode cX2_amountOf 20 = .ok (.getfield 21, 3) := by decide +kernel
theorem dX2_amountOf_23 : decode cX2_amountOf 23 = .ok (.iload 4, 2) := by decide +kernel
theorem dX2_amountOf_25 : decode cX2_amountOf 25 = .ok (.iaload, 1) := by decide +kernel
theorem dX2_amountOf_26 : decode cX2_amountOf 26 = .ok (.iload_n 1, 1) := by decide +kernel
theorem dX2_amountOf_27 : decode cX2_amountOf 27 = .ok (.if_icmp .ne 57, 3) := by decide +kernel
theorem dX2_amountOf_30 : decode cX2_amountOf 30 = .ok (.aload_n 0, 1) := by decide +kernel
theorem dX2_amountOf_31 : decode cX2_amountOf 31 = .ok (.aload_n 0, 1) := by decide +kernel
theorem dX2_amountOf_32 : decode cX2_amountOf 32 = .ok (.getfield 27, 3) := by decide +kernel
theorem dX2_amountOf_35 : decode cX2_amountOf 35 = .ok (.iload 4, 2) := by decide +kernel
theorem dX2_amountOf_37 : decode cX2_amountOf 37 = .ok (.iaload, 1) := by decide +kernel
theorem dX2_amountOf_38 : decode cX2_amountOf 38 = .ok (.aload_n 0, 1) := by decide +kernel
theorem dX2_amountOf_39 : decode cX2_amountOf 39 = .ok (.getfield 30, 3) := by decide +kernel
theorem dX2_amountOf_42 : decode cX2_amountOf 42 = .ok (.iload 4, 2) := by decide +kernel
theorem dX2_amountOf_44 : decode cX2_amountOf 44 = .ok (.iaload, 1) := by decide +kernel
theorem dX2_amountOf_45 : decode cX2_amountOf 45 = .ok (.aload_n 3, 1) := by decide +kernel
theorem dX2_amountOf_46 : decode cX2_amountOf 46 = .ok (.invokevirtual 48, 3) := by decide +kernel
theorem dX2_amountOf_49 : decode cX2_amountOf 49 = .ok (.ifCond .eq 35, 3) := by decide +kernel
theorem dX2_amountOf_52 : decode cX2_amountOf 52 = .ok (.aload_n 0, 1) := by decide +kernel
theorem dX2_amountOf_53 : decode cX2_amountOf 53 = .ok (.aload_n 0, 1) := by decide +kernel
theorem dX2_amountOf_54 : decode cX2_amountOf 54 = .ok (.getfield 24, 3) := by decide +kernel
theorem dX2_amountOf_57 : decode cX2_amountOf 57 = .ok (.iload 4, 2) := by decide +kernel
theorem dX2_amountOf_59 : decode cX2_amountOf 59 = .ok (.iaload, 1) := by decide +kernel
theorem dX2_amountOf_60 : decode cX2_amountOf 60 = .ok (.aload_n 0, 1) := by decide +kernel
theorem dX2_amountOf_61 : decode cX2_amountOf 61 = .ok (.getfield 27, 3) := by decide +kernel
theorem dX2_amountOf_64 : decode cX2_amountOf 64 = .ok (.iload 4, 2) := by decide +kernel
theorem dX2_amountOf_66 : decode cX2_amountOf 66 = .ok (.iaload, 1) := by decide +kernel
theorem dX2_amountOf_67 : decode cX2_amountOf 67 = .ok (.aload_n 3, 1) := by decide +kernel
theorem dX2_amountOf_68 : decode cX2_amountOf 68 = .ok (.invokevirtual 48, 3) := by decide +kernel
theorem dX2_amountOf_71 : decode cX2_amountOf 71 = .ok (.istore 5, 2) := by decide +kernel
theorem dX2_amountOf_73 : decode cX2_amountOf 73 = .ok (.iconst 0, 1) := by decide +kernel
theorem dX2_amountOf_74 : decode cX2_amountOf 74 = .ok (.iload_n 2, 1) := by decide +kernel
theorem dX2_amountOf_75 : decode cX2_amountOf 75 = .ok (.iload 5, 2) := by decide +kernel
theorem dX2_amountOf_77 : decode cX2_amountOf 77 = .ok (.invokestatic 52, 3) := by decide +kernel
theorem dX2_amountOf_80 : decode cX2_amountOf 80 = .ok (.invokestatic 58, 3) := by decide +kernel
theorem dX2_amountOf_83 : decode cX2_amountOf 83 = .ok (.ireturn, 1) := by decide +kernel
theorem dX2_amountOf_84 : decode cX2_amountOf 84 = .ok (.iinc 4 1, 3) := by decide +kernel
theorem dX2_amountOf_87 : decode cX2_amountOf 87 = .ok (.goto (-84), 3) := by decide +kernel
theorem dX2_amountOf_90 : decode cX2_amountOf 90 = .ok (.iconst 0, 1) := by decide +kernel
theorem dX2_amountOf_91 : decode cX2_amountOf 91 = .ok (.ireturn, 1) := by decide +kernel
set_option maxHeartbeats 4000000 in
set_option maxRecDepth 100000 in
theorem kL_X2_amountOf_3 {X : GC} {E : GE} (C : Cx X E cX2_amountOf RX2 3 6) (o_t : Nat) (a_t : Nat → Nat) (q3 : Nat) (t_size : Int32) (n3 : Nat) (t_rules : Int32) (t_signs : (Nat → Int32)) (t_values : (Nat → Int32)) (t_letters : (Nat → Int32)) (t_amounts : (Nat → Int32)) (t_conditions : (Nat → Int32)) (t_ends : (Nat → Int32)) (f3 : (Nat → Int32)) (x1 : Int32) (x2 : Int32) (k0 : Int32 × (Nat → Int32) → Option (Int32 × (Nat → Int32))) {r : Int32 × (Nat → Int32)} (hret : RtI X E cX2_amountOf .int 0 0 (fun w => w = (W_X2_amountOf E o_t a_t q3 n3 t_size t_rules t_signs t_values r.2 t_letters t_amounts t_conditions t_ends f3)) r.1) (hk0 : ∀ u, k0 u = some r → Gx X E 0 0 (W_X2_amountOf E o_t a_t q3 n3 t_size t_rules t_signs t_values u.2 t_letters t_amounts t_conditions t_ends f3) 52 [(0, .ref o_t), (2, .int x2), (3, .ref q3), (4, .int u.1)] []) : ∀ (n : Nat) (s : Int32 × (Nat → Int32)), L_X2_amountOf_3 n3 t_rules t_signs t_values t_letters t_amounts t_conditions t_ends f3 x1 x2 k0 n s = some r → Gx X E 0 0 (W_X2_amountOf E o_t a_t q3 n3 t_size t_rules t_signs t_values s.2 t_letters t_amounts t_conditions t_ends f3) 3 [(0, .ref o_t), (1, .int x1), (2, .int x2), (3, .ref q3), (4, .int s.1)] [] := by
  unfold L_X2_amountOf_3
  refine lp_ind _ (fun go ih s h => ?_)
  refine g_iload (pc := 3) C dX2_amountOf_3 4 rfl ?_
  refine g_aload_n (pc := 5) C dX2_amountOf_5 rfl 0 rfl ?_
  refine g_get (pc := 6) C fl_X2_41 dX2_amountOf_6 0 rfl rfl ?_
  refine g_icmp_ge (pc := 9) (tgt := 90) C dX2_amountOf_9 (by decide) h (fun h => ?_) (fun h => ?_)
  · refine g_iconst (pc := 90) (v := 0) C dX2_amountOf_90 (by decide) ?_
    cases h
    exact hret _ _ _ dX2_amountOf_91 rfl rfl
  · refine g_iload (pc := 12) C dX2_amountOf_12 4 rfl ?_
    refine g_bipush (pc := 14) (v := 16) C dX2_amountOf_14 (by decide) ?_
    refine g_icmp_ge (pc := 16) (tgt := 90) C dX2_amountOf_16 (by decide) h (fun h => ?_) (fun h => ?_)
    · refine g_iconst (pc := 90) (v := 0) C dX2_amountOf_90 (by decide) ?_
      cases h
      exact hret _ _ _ dX2_amountOf_91 rfl rfl
    · refine g_aload_n (pc := 19) C dX2_amountOf_19 rfl 0 rfl ?_
      refine g_get (pc := 20) C fl_X2_21 dX2_amountOf_20 0 rfl rfl ?_
      refine g_iload (pc := 23) C dX2_amountOf_23 4 rfl ?_
      refine g_iald (pc := 25) C dX2_amountOf_25 4 rfl h (fun v1 h => ?_)
      refine g_iload_n (pc := 26) C dX2_amountOf_26 rfl 1 rfl ?_
      refine g_icmp_ne (pc := 27) (tgt := 84) C dX2_amountOf_27 (by decide) h (fun h => ?_) (fun h => ?_)
      · refine g_iincn (pc := 84) (j := 4) (d := 1) (lv' := fun v2 => [(4, .int v2), (0, .ref o_t), (1, .int x1), (2, .int x2), (3, .ref q3)]) C dX2_amountOf_84 rfl (by decide) (by decide) (fun _ => rfl) h (fun v2 h => ?_)
        refine g_goto (pc := 87) (tgt := 3) C dX2_amountOf_87 (by decide) ?_
        refine g_sub [1, 2, 3, 4, 0] rfl ?_
        exact ih _ h
      · refine g_aload_n (pc := 30) C dX2_amountOf_30 rfl 0 rfl ?_
        refine g_aload_n (pc := 31) C dX2_amountOf_31 rfl 0 rfl ?_
        refine g_get (pc := 32) C fl_X2_27 dX2_amountOf_32 0 rfl rfl ?_
        refine g_iload (pc := 35) C dX2_amountOf_35 4 rfl ?_
        refine g_iald (pc := 37) C dX2_amountOf_37 6 rfl h (fun v3 h => ?_)
        refine g_aload_n (pc := 38) C dX2_amountOf_38 rfl 0 rfl ?_
        refine g_get (pc := 39) C fl_X2_30 dX2_amountOf_39 0 rfl rfl ?_
        refine g_iload (pc := 42) C dX2_amountOf_42 4 rfl ?_
        refine g_iald (pc := 44) C dX2_amountOf_44 7 rfl h (fun v4 h => ?_)
        refine g_aload_n (pc := 45) C dX2_amountOf_45 rfl 3 rfl ?_
        obtain ⟨u5, hu5, h⟩ := bs h
        refine g_callV (pc := 46) (st := []) (st1 := [.int u5.1]) (ws' := (W_X2_amountOf E o_t a_t q3 n3 t_size t_rules t_signs t_values u5.2 t_letters t_amounts t_conditions t_ends f3)) C mv_X2_reckon mi_X2_reckon ml_X2_48 (c_X2_reckon X.2.1 E o_t a_t q3 n3 t_size t_rules t_signs t_values s.2 f3 v3 v4 u5 hu5) dX2_amountOf_46 (by decide) rfl (Nat.le_of_ble_eq_true rfl) 0 2 rfl rfl [0, 1, 2, 3, 8] rfl (by decide) rfl rfl rfl rfl ?_
        refine g_if_eq (pc := 49) (tgt := 84) C dX2_amountOf_49 (by decide) h (fun h => ?_) (fun h => ?_)
        · refine g_iincn (pc := 84) (j := 4) (d := 1) (lv' := fun v6 => [(4, .int v6), (0, .ref o_t), (1, .int x1), (2, .int x2), (3, .ref q3)]) C dX2_amountOf_84 rfl (by decide) (by decide) (fun _ => rfl) h (fun v6 h => ?_)
          refine g_goto (pc := 87) (tgt := 3) C dX2_amountOf_87 (by decide) ?_
          refine g_sub [1, 2, 3, 4, 0] rfl ?_
          exact ih _ h
        · refine g_sub [0, 2, 3, 4] rfl ?_
          exact hk0 _ h
set_option maxHeartbeats 4000000 in
set_option maxRecDepth 100000 in
theorem c_X2_amountOf (l : Launch) (E : GE) (o_t : Nat) (a_t : Nat → Nat) (q3 : Nat) (n3 : Nat) (t_size : Int32) (t_rules : Int32) (t_signs : (Nat → Int32)) (t_values : (Nat → Int32)) (t_stack : (Nat → Int32)) (t_letters : (Nat → Int32)) (t_amounts : (Nat → Int32)) (t_conditions : (Nat → Int32)) (t_ends : (Nat → Int32)) (f3 : (Nat → Int32)) (x1 : Int32) (x2 : Int32) (r : Int32 × (Nat → Int32)) (h : f_X2_amountOf n3 t_rules t_signs t_values t_stack t_letters t_amounts t_conditions t_ends f3 x1 x2 = some r) : Cn l E yX2_amountOf cX2_amountOf 6 (some .int) 3 0 0 [.ref o_t, .int x1, .int x2, .ref q3] (W_X2_amountOf E o_t a_t q3 n3 t_size t_rules t_signs t_values t_stack t_letters t_amounts t_conditions t_ends f3) (fun w => w = (W_X2_amountOf E o_t a_t q3 n3 t_size t_rules t_signs t_values r.2 t_letters t_amounts t_conditions t_ends f3)) (some (.int r.1)) := by
  refine Cn.ofI (by decide +kernel) (Nat.le_of_ble_eq_true rfl) (fun X hX hR C hret => ?_)
  subst hX
  show Gx X E 0 0 (W_X2_amountOf E o_t a_t q3 n3 t_size t_rules t_signs t_values t_stack t_letters t_amounts t_conditions t_ends f3) 0 [(0, .ref o_t), (1, .int x1), (2, .int x2), (3, .ref q3)] []
  unfold f_X2_amountOf at h
  refine g_iconst (pc := 0) (v := 0) C dX2_amountOf_0 (by decide) ?_
  refine g_istore (pc := 1) (lv' := [(4, .int (0 : Int32)), (0, .ref o_t), (1, .int x1), (2, .int x2), (3, .ref q3)]) C dX2_amountOf_1 (by decide) rfl ?_
  refine g_sub [1, 2, 3, 4, 0] rfl ?_
  refine kL_X2_amountOf_3 C o_t a_t q3 t_size n3 t_rules t_signs t_values t_letters t_amounts t_conditions t_ends f3 x1 x2 _ hret (fun s7 h => ?_) _ _ h
  refine g_aload_n (pc := 52) C dX2_amountOf_52 rfl 0 rfl ?_
  refine g_aload_n (pc := 53) C dX2_amountOf_53 rfl 0 rfl ?_
  refine g_get (pc := 54) C fl_X2_24 dX2_amountOf_54 0 rfl rfl ?_
  refine g_iload (pc := 57) C dX2_amountOf_57 3 rfl ?_
  refine g_iald (pc := 59) C dX2_amountOf_59 5 rfl h (fun v8 h => ?_)
  refine g_aload_n (pc := 60) C dX2_amountOf_60 rfl 0 rfl ?_
  refine g_get (pc := 61) C fl_X2_27 dX2_amountOf_61 0 rfl rfl ?_
  refine g_iload (pc := 64) C dX2_amountOf_64 3 rfl ?_
  refine g_iald (pc := 66) C dX2_amountOf_66 6 rfl h (fun v9 h => ?_)
  refine g_aload_n (pc := 67) C dX2_amountOf_67 rfl 2 rfl ?_
  obtain ⟨u10, hu10, h⟩ := bs h
  refine g_callV (pc := 68) (st := []) (st1 := [.int u10.1]) (ws' := (W_X2_amountOf E o_t a_t q3 n3 t_size t_rules t_signs t_values u10.2 t_letters t_amounts t_conditions t_ends f3)) C mv_X2_reckon mi_X2_reckon ml_X2_48 (c_X2_reckon X.2.1 E o_t a_t q3 n3 t_size t_rules t_signs t_values s7.2 f3 v8 v9 u10 hu10) dX2_amountOf_68 (by decide) rfl (Nat.le_of_ble_eq_true rfl) 0 2 rfl rfl [0, 1, 2, 3, 8] rfl (by decide) rfl rfl rfl rfl ?_
  refine g_istore (pc := 71) (lv' := [(5, .int u10.1), (0, .ref o_t), (2, .int x2), (3, .ref q3), (4, .int s7.1)]) C dX2_amountOf_71 (by decide) rfl ?_
  refine g_iconst (pc := 73) (v := 0) C dX2_amountOf_73 (by decide) ?_
  refine g_iload_n (pc := 74) C dX2_amountOf_74 rfl 2 rfl ?_
  refine g_iload (pc := 75) C dX2_amountOf_75 0 rfl ?_
  refine g_mmin (pc := 77) C ml_X2_52 ms_min mini_Math mcode_min (Nat.le_of_ble_eq_true rfl) ⟨Nat.zero_le _, Nat.zero_le _⟩ dX2_amountOf_77 ?_
  refine g_mmax (pc := 80) C ml_X2_58 ms_max mini_Math mcode_max (Nat.le_of_ble_eq_true rfl) ⟨Nat.zero_le _, Nat.zero_le _⟩ dX2_amountOf_80 ?_
  cases h
  exact hret _ _ _ dX2_amountOf_83 rfl rfl
abbrev W_X2_isAnyTrue (E : GE) (O_t : Nat) (a_t : Nat → Nat) (q2 : Nat) (n2 : Nat) (t_size : Int32) (t_rules : Int32) (t_signs : (Nat → Int32)) (t_values : (Nat → Int32)) (t_stack : (Nat → Int32)) (t_letters : (Nat → Int32)) (t_conditions : (Nat → Int32)) (t_ends : (Nat → Int32)) (f2 : (Nat → Int32)) : va_W := [(O_t, ob_X2 a_t t_size t_rules), (a_t 0, .inl (E.2.1, 256, .inl t_signs)), (a_t 1, .inl (E.2.1, 256, .inl t_values)), (a_t 2, .inl (E.2.1, 64, .inl t_stack)), (a_t 3, .inl (E.2.1, 16, .inl t_letters)), (a_t 5, .inl (E.2.1, 16, .inl t_conditions)), (a_t 6, .inl (E.2.1, 16, .inl t_ends)), (q2, .inl (E.2.1, n2, .inl f2))]
def L_X2_isAnyTrue_2 (n2 : Nat) (t_rules : Int32) (t_signs : (Nat → Int32)) (t_values : (Nat → Int32)) (t_letters : (Nat → Int32)) (t_conditions : (Nat → Int32)) (t_ends : (Nat → Int32)) (f2 : (Nat → Int32)) (x1 : Int32) : Nat → Int32 × (Nat → Int32) → Option (Int32 × (Nat → Int32)) := lp fun go s => if t_rules ≤ s.1 then (some ((0 : Int32), s.2)) else if (16 : Int32) ≤ s.1 then (some ((0 : Int32), s.2)) else rd t_letters 16 s.1 fun v1 => if v1 = x1 then (rd t_conditions 16 s.1 fun v3 => rd t_ends 16 s.1 fun v4 => (f_X2_reckon n2 t_signs t_values s.2 f2 v3 v4).bind fun u5 => if u5.1 = 0 then (nm (s.1 + (1 : Int32)) fun v6 => go (v6, u5.2)) else some ((1 : Int32), u5.2)) else nm (s.1 + (1 : Int32)) fun v2 => go (v2, s.2)
def f_X2_isAnyTrue (n2 : Nat) (t_rules : Int32) (t_signs : (Nat → Int32)) (t_values : (Nat → Int32)) (t_stack : (Nat → Int32)) (t_letters : (Nat → Int32)) (t_conditions : (Nat → Int32)) (t_ends : (Nat → Int32)) (f2 : (Nat → Int32)) (x1 : Int32) : Option (Int32 × (Nat → Int32)) := L_X2_isAnyTrue_2 n2 t_rules t_signs t_values t_letters t_conditions t_ends f2 x1 fu ((0 : Int32), t_stack)
theorem dX2_isAnyTrue_0 : decode cX2_isAnyTrue 0 = .ok (.iconst 0, 1) := by decide +kernel
theorem dX2_isAnyTrue_1 : decode cX2_isAnyTrue 1 = .ok (.istore_n 3, 1) := by decide +kernel
theorem dX2_isAnyTrue_2 : decode cX2_isAnyTrue 2 = .ok (.iload_n 3, 1) := by decide +kernel
theorem dX2_isAnyTrue_3 : decode cX2_isAnyTrue 3 = .ok (.aload_n 0, 1) := by decide +kernel
theorem dX2_isAnyTrue_4 : decode cX2_isAnyTrue 4 = .ok (.getfield 41, 3) := by decide +kernel
theorem dX2_isAnyTrue_7 : decode cX2_isAnyTrue 7 = .ok (.if_icmp .ge 47, 3) := by decide +kernel
theorem dX2_isAnyTrue_10 : decode cX2_isAnyTrue 10 = .ok (.iload_n 3, 1) := by decide +kernel
theorem dX2_isAnyTrue_11 : decode cX2_isAnyTrue 11 = .ok (.bipush 16, 2) := by decide +kernel
theorem dX2_isAnyTrue_13 : decode cX2_isAnyTrue 13 = .ok (.if_icmp .ge 41, 3) := by decide +kernel
theorem dX2_isAnyTrue_16 : decode cX2_isAnyTrue 16 = .ok (.aload_n 0, 1) := by decide +kernel
theorem dX2_isAnyTrue_17 : decode cX2_isAnyTrue 17 = .ok (.getfield 21, 3) := by decide +kernel
theorem dX2_isAnyTrue_20 : decode cX2_isAnyTrue 20 = .ok (.iload_n 3, 1) := by decide +kernel
theorem dX2_isAnyTrue_21 : decode cX2_isAnyTrue 21 = .ok (.iaload, 1) := by decide +kernel
theorem dX2_isAnyTrue_22 : decode cX2_isAnyTrue 22 = .ok (.iload_n 1, 1) := by decide +kernel
theorem dX2_isAnyTrue_23 : decode cX2_isAnyTrue 23 = .ok (.if_icmp .ne 25, 3) := by decide +kernel
theorem dX2_isAnyTrue_26 : decode cX2_isAnyTrue 26 = .ok (.aload_n 0, 1) := by decide +kernel
theorem dX2_isAnyTrue_27 : decode cX2_isAnyTrue 27 = .ok (.aload_n 0, 1) := by decide +kernel
theorem dX2_isAnyTrue_28 : decode cX2_isAnyTrue 28 = .ok (.getfield 27, 3) := by decide +kernel
theorem dX2_isAnyTrue_31 : decode cX2_isAnyTrue 31 = .ok (.iload_n 3, 1) := by decide +kernel
theorem dX2_isAnyTrue_32 : decode cX2_isAnyTrue 32 = .ok (.iaload, 1) := by decide +kernel
theorem dX2_isAnyTrue_33 : decode cX2_isAnyTrue 33 = .ok (.aload_n 0, 1) := by decide +kernel
theorem dX2_isAnyTrue_34 : decode cX2_isAnyTrue 34 = .ok (.getfield 30, 3) := by decide +kernel
theorem dX2_isAnyTrue_37 : decode cX2_isAnyTrue 37 = .ok (.iload_n 3, 1) := by decide +kernel
theorem dX2_isAnyTrue_38 : decode cX2_isAnyTrue 38 = .ok (.iaload, 1) := by decide +kernel
theorem dX2_isAnyTrue_39 : decode cX2_isAnyTrue 39 = .ok (.aload_n 2, 1) := by decide +kernel
theorem dX2_isAnyTrue_40 : decode cX2_isAnyTrue 40 = .ok (.invokevirtual 48, 3) := by decide +kernel
theorem dX2_isAnyTrue_43 : decode cX2_isAnyTrue 43 = .ok (.ifCond .eq 5, 3) := by decide +kernel
theorem dX2_isAnyTrue_46 : decode cX2_isAnyTrue 46 = .ok (.iconst 1, 1) := by decide +kernel
theorem dX2_isAnyTrue_47 : decode cX2_isAnyTrue 47 = .ok (.ireturn, 1) := by decide +kernel
theorem dX2_isAnyTrue_48 : decode cX2_isAnyTrue 48 = .ok (.iinc 3 1, 3) := by decide +kernel
theorem dX2_isAnyTrue_51 : decode cX2_isAnyTrue 51 = .ok (.goto (-49), 3) := by decide +kernel
theorem dX2_isAnyTrue_54 : decode cX2_isAnyTrue 54 = .ok (.iconst 0, 1) := by decide +kernel
theorem dX2_isAnyTrue_55 : decode cX2_isAnyTrue 55 = .ok (.ireturn, 1) := by decide +kernel
set_option maxHeartbeats 4000000 in
set_option maxRecDepth 100000 in
theorem kL_X2_isAnyTrue_2 {X : GC} {E : GE} (C : Cx X E cX2_isAnyTrue RX2 3 4) (o_t : Nat) (a_t : Nat → Nat) (q2 : Nat) (t_size : Int32) (n2 : Nat) (t_rules : Int32) (t_signs : (Nat → Int32)) (t_values : (Nat → Int32)) (t_letters : (Nat → Int32)) (t_conditions : (Nat → Int32)) (t_ends : (Nat → Int32)) (f2 : (Nat → Int32)) (x1 : Int32) {r : Int32 × (Nat → Int32)} (hret : RtI X E cX2_isAnyTrue .boolean 0 0 (fun w => w = (W_X2_isAnyTrue E o_t a_t q2 n2 t_size t_rules t_signs t_values r.2 t_letters t_conditions t_ends f2)) r.1) : ∀ (n : Nat) (s : Int32 × (Nat → Int32)), L_X2_isAnyTrue_2 n2 t_rules t_signs t_values t_letters t_conditions t_ends f2 x1 n s = some r → Gx X E 0 0 (W_X2_isAnyTrue E o_t a_t q2 n2 t_size t_rules t_signs t_values s.2 t_letters t_conditions t_ends f2) 2 [(0, .ref o_t), (1, .int x1), (2, .ref q2), (3, .int s.1)] [] := by
  unfold L_X2_isAnyTrue_2
  refine lp_ind _ (fun go ih s h => ?_)
  refine g_iload_n (pc := 2) C dX2_isAnyTrue_2 rfl 3 rfl ?_
  refine g_aload_n (pc := 3) C dX2_isAnyTrue_3 rfl 0 rfl ?_
  refine g_get (pc := 4) C fl_X2_41 dX2_isAnyTrue_4 0 rfl rfl ?_
  refine g_icmp_ge (pc := 7) (tgt := 54) C dX2_isAnyTrue_7 (by decide) h (fun h => ?_) (fun h => ?_)
  · refine g_iconst (pc := 54) (v := 0) C dX2_isAnyTrue_54 (by decide) ?_
    cases h
    exact hret _ _ _ dX2_isAnyTrue_55 nb0 rfl
  · refine g_iload_n (pc := 10) C dX2_isAnyTrue_10 rfl 3 rfl ?_
    refine g_bipush (pc := 11) (v := 16) C dX2_isAnyTrue_11 (by decide) ?_
    refine g_icmp_ge (pc := 13) (tgt := 54) C dX2_isAnyTrue_13 (by decide) h (fun h => ?_) (fun h => ?_)
    · refine g_iconst (pc := 54) (v := 0) C dX2_isAnyTrue_54 (by decide) ?_
      cases h
      exact hret _ _ _ dX2_isAnyTrue_55 nb0 rfl
    · refine g_aload_n (pc := 16) C dX2_isAnyTrue_16 rfl 0 rfl ?_
      refine g_get (pc := 17) C fl_X2_21 dX2_isAnyTrue_17 0 rfl rfl ?_
      refine g_iload_n (pc := 20) C dX2_isAnyTrue_20 rfl 3 rfl ?_
      refine g_iald (pc := 21) C dX2_isAnyTrue_21 4 rfl h (fun v1 h => ?_)
      refine g_iload_n (pc := 22) C dX2_isAnyTrue_22 rfl 1 rfl ?_
      refine g_icmp_ne (pc := 23) (tgt := 48) C dX2_isAnyTrue_23 (by decide) h (fun h => ?_) (fun h => ?_)
      · refine g_iincn (pc := 48) (j := 3) (d := 1) (lv' := fun v2 => [(3, .int v2), (0, .ref o_t), (1, .int x1), (2, .ref q2)]) C dX2_isAnyTrue_48 rfl (by decide) (by decide) (fun _ => rfl) h (fun v2 h => ?_)
        refine g_goto (pc := 51) (tgt := 2) C dX2_isAnyTrue_51 (by decide) ?_
        refine g_sub [1, 2, 3, 0] rfl ?_
        exact ih _ h
      · refine g_aload_n (pc := 26) C dX2_isAnyTrue_26 rfl 0 rfl ?_
        refine g_aload_n (pc := 27) C dX2_isAnyTrue_27 rfl 0 rfl ?_
        refine g_get (pc := 28) C fl_X2_27 dX2_isAnyTrue_28 0 rfl rfl ?_
        refine g_iload_n (pc := 31) C dX2_isAnyTrue_31 rfl 3 rfl ?_
        refine g_iald (pc := 32) C dX2_isAnyTrue_32 5 rfl h (fun v3 h => ?_)
        refine g_aload_n (pc := 33) C dX2_isAnyTrue_33 rfl 0 rfl ?_
        refine g_get (pc := 34) C fl_X2_30 dX2_isAnyTrue_34 0 rfl rfl ?_
        refine g_iload_n (pc := 37) C dX2_isAnyTrue_37 rfl 3 rfl ?_
        refine g_iald (pc := 38) C dX2_isAnyTrue_38 6 rfl h (fun v4 h => ?_)
        refine g_aload_n (pc := 39) C dX2_isAnyTrue_39 rfl 2 rfl ?_
        obtain ⟨u5, hu5, h⟩ := bs h
        refine g_callV (pc := 40) (st := []) (st1 := [.int u5.1]) (ws' := (W_X2_isAnyTrue E o_t a_t q2 n2 t_size t_rules t_signs t_values u5.2 t_letters t_conditions t_ends f2)) C mv_X2_reckon mi_X2_reckon ml_X2_48 (c_X2_reckon X.2.1 E o_t a_t q2 n2 t_size t_rules t_signs t_values s.2 f2 v3 v4 u5 hu5) dX2_isAnyTrue_40 (by decide) rfl (Nat.le_of_ble_eq_true rfl) 0 2 rfl rfl [0, 1, 2, 3, 7] rfl (by decide) rfl rfl rfl rfl ?_
        refine g_if_eq (pc := 43) (tgt := 48) C dX2_isAnyTrue_43 (by decide) h (fun h => ?_) (fun h => ?_)
        · refine g_iincn (pc := 48) (j := 3) (d := 1) (lv' := fun v6 => [(3, .int v6), (0, .ref o_t), (1, .int x1), (2, .ref q2)]) C dX2_isAnyTrue_48 rfl (by decide) (by decide) (fun _ => rfl) h (fun v6 h => ?_)
          refine g_goto (pc := 51) (tgt := 2) C dX2_isAnyTrue_51 (by decide) ?_
          refine g_sub [1, 2, 3, 0] rfl ?_
          exact ih _ h
        · refine g_iconst (pc := 46) (v := 1) C dX2_isAnyTrue_46 (by decide) ?_
          cases h
          exact hret _ _ _ dX2_isAnyTrue_47 nb1 rfl
set_option maxHeartbeats 4000000 in
set_option maxRecDepth 100000 in
theorem c_X2_isAnyTrue (l : Launch) (E : GE) (o_t : Nat) (a_t : Nat → Nat) (q2 : Nat) (n2 : Nat) (t_size : Int32) (t_rules : Int32) (t_signs : (Nat → Int32)) (t_values : (Nat → Int32)) (t_stack : (Nat → Int32)) (t_letters : (Nat → Int32)) (t_conditions : (Nat → Int32)) (t_ends : (Nat → Int32)) (f2 : (Nat → Int32)) (x1 : Int32) (r : Int32 × (Nat → Int32)) (h : f_X2_isAnyTrue n2 t_rules t_signs t_values t_stack t_letters t_conditions t_ends f2 x1 = some r) : Cn l E yX2_isAnyTrue cX2_isAnyTrue 4 (some .boolean) 3 0 0 [.ref o_t, .int x1, .ref q2] (W_X2_isAnyTrue E o_t a_t q2 n2 t_size t_rules t_signs t_values t_stack t_letters t_conditions t_ends f2) (fun w => w = (W_X2_isAnyTrue E o_t a_t q2 n2 t_size t_rules t_signs t_values r.2 t_letters t_conditions t_ends f2)) (some (.int r.1)) := by
  refine Cn.ofI (by decide +kernel) (Nat.le_of_ble_eq_true rfl) (fun X hX hR C hret => ?_)
  subst hX
  show Gx X E 0 0 (W_X2_isAnyTrue E o_t a_t q2 n2 t_size t_rules t_signs t_values t_stack t_letters t_conditions t_ends f2) 0 [(0, .ref o_t), (1, .int x1), (2, .ref q2)] []
  unfold f_X2_isAnyTrue at h
  refine g_iconst (pc := 0) (v := 0) C dX2_isAnyTrue_0 (by decide) ?_
  refine g_istore_n (pc := 1) (lv' := [(3, .int (0 : Int32)), (0, .ref o_t), (1, .int x1), (2, .ref q2)]) C dX2_isAnyTrue_1 rfl (by decide) rfl ?_
  refine g_sub [1, 2, 3, 0] rfl ?_
  refine kL_X2_isAnyTrue_2 C o_t a_t q2 t_size n2 t_rules t_signs t_values t_letters t_conditions t_ends f2 x1 hret  _ _ h
