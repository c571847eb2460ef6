def rkS : Nat → Nat
  | 0 => 20
  | d + 1 => rkS d + 3
theorem rkS_ge : ∀ d, 20 ≤ rkS d := by
  intro d
  induction d with
  | zero => exact Nat.le_refl _
  | succ d ih => exact Nat.le_trans ih (Nat.le_add_right _ _)
abbrev W_X3_readSum (E : GE) (O_t : Nat) (r_t_script : Nat) (r_t_law : Nat) (O_script : Nat) (r_script_tape : Nat) (O_script_tape : Nat) (a_script_tape : Nat → Nat) (O_law : Nat) (a_law : Nat → Nat) (script_end : Int32) (script_place : Int32) (script_sign : Int32) (script_fault : Int32) (script_tape_size : Int32) (script_tape_bytes : (Nat → Int32)) (law_size : Int32) (law_rules : Int32) (law_signs : (Nat → Int32)) (law_values : (Nat → Int32)) : va_W := [(O_t, ob_X3 r_t_script r_t_law), (O_script, ob_X7 r_script_tape script_end script_place script_sign script_fault), (O_script_tape, ob_X8 a_script_tape script_tape_size), (a_script_tape 0, .inl (E.2.1, 260, .inl script_tape_bytes)), (O_law, ob_X2 a_law law_size law_rules), (a_law 0, .inl (E.2.1, 256, .inl law_signs)), (a_law 1, .inl (E.2.1, 256, .inl law_values))]
abbrev W_X3_readFactor (E : GE) (O_t : Nat) (r_t_script : Nat) (r_t_law : Nat) (O_script : Nat) (r_script_tape : Nat) (O_script_tape : Nat) (a_script_tape : Nat → Nat) (O_law : Nat) (a_law : Nat → Nat) (script_end : Int32) (script_place : Int32) (script_sign : Int32) (script_fault : Int32) (script_tape_size : Int32) (script_tape_bytes : (Nat → Int32)) (law_size : Int32) (law_rules : Int32) (law_signs : (Nat → Int32)) (law_values : (Nat → Int32)) : va_W := [(O_t, ob_X3 r_t_script r_t_law), (O_script, ob_X7 r_script_tape script_end script_place script_sign script_fault), (O_script_tape, ob_X8 a_script_tape script_tape_size), (a_script_tape 0, .inl (E.2.1, 260, .inl script_tape_bytes)), (O_law, ob_X2 a_law law_size law_rules), (a_law 0, .inl (E.2.1, 256, .inl law_signs)), (a_law 1, .inl (E.2.1, 256, .inl law_values))]
def f_X3_readFactor (rs : Int32 → Int32 → Int32 → Int32 → Int32 → (Nat → Int32) → Int32 → (Nat → Int32) → (Nat → Int32) → Int32 → Option (Int32 × Int32 × Int32 × Int32 × (Nat → Int32) × (Nat → Int32))) (script_end : Int32) (script_place : Int32) (script_sign : Int32) (script_fault : Int32) (script_tape_size : Int32) (script_tape_bytes : (Nat → Int32)) (law_size : Int32) (law_signs : (Nat → Int32)) (law_values : (Nat → Int32)) (x1 : Int32) : Option (Int32 × Int32 × Int32 × Int32 × (Nat → Int32) × (Nat → Int32)) := (f_X2_letterAt script_sign).bind fun u1 => if script_sign = (91 : Int32) then ((f_X3_mayOpen script_end script_place script_sign script_fault script_tape_size script_tape_bytes x1).bind fun u6 => if u6.1 = 0 then (some (u6.2.1, u6.2.2.1, u6.2.2.2, law_size, law_signs, law_values)) else (rs script_end u6.2.1 u6.2.2.1 u6.2.2.2 script_tape_size script_tape_bytes law_size law_signs law_values (x1 + (1 : Int32))).bind fun u7 => (f_X7_want script_end u7.1 u7.2.1 u7.2.2.1 script_tape_size script_tape_bytes (93 : Int32)).bind fun u8 => some (u8.1, u8.2.1, u8.2.2, u7.2.2.2.1, u7.2.2.2.2.1, u7.2.2.2.2.2)) else if u1 = (-1 : Int32) then ((f_X7_number script_end script_place script_sign script_fault script_tape_size script_tape_bytes (5 : Int32) (99999 : Int32)).bind fun u2 => (f_X2_add law_size law_signs law_values (48 : Int32) u2.1).bind fun u3 => some (u2.2.1, u2.2.2.1, u2.2.2.2, u3.2.1, u3.2.2.1, u3.2.2.2)) else (f_X2_add law_size law_signs law_values (97 : Int32) u1).bind fun u4 => (f_X7_step script_end script_place script_sign script_tape_size script_tape_bytes).bind fun u5 => some (u5.1, u5.2, script_fault, u4.2.1, u4.2.2.1, u4.2.2.2)
theorem dX3_readFactor_0 : decode cX3_readFactor 0 = .ok (.aload_n 0, 1) := by decide +kernel
theorem dX3_readFactor_1 : decode cX3_readFactor 1 = .ok (.getfield 9, 3) := by decide +kernel
theorem dX3_readFactor_4 : decode cX3_readFactor 4 = .ok (.getfield 40, 3) := by decide +kernel
theorem dX3_readFactor_7 : decode cX3_readFactor 7 = .ok (.invokestatic 96, 3) := by decide +kernel
theorem dX3_readFactor_10 : decode cX3_readFactor 10 = .ok (.istore_n 2, 1) := by decide +kernel
theorem dX3_readFactor_11 : decode cX3_readFactor 11 = .ok (.aload_n 0, 1) := by decide +kernel
theorem dX3_readFactor_12 : decode cX3_readFactor 12 = .ok (.getfield 9, 3) := by decide +kernel
theorem dX3_readFactor_15 : decode cX3_readFactor 15 = .ok (.getfield 40, 3) := by decide +kernel
theorem dX3_readFactor_18 : decode cX3_readFactor 18 = .ok (.bipush 91, 2) := by decide +kernel
theorem dX3_readFactor_20 : decode cX3_readFactor 20 = .ok (.if_icmp .ne 30, 3) := by decide +kernel
theorem dX3_readFactor_23 : decode cX3_readFactor 23 = .ok (.aload_n 0, 1) := by decide +kernel
theorem dX3_readFactor_24 : decode cX3_readFactor 24 = .ok (.iload_n 1, 1) := by decide +kernel
theorem dX3_readFactor_25 : decode cX3_readFactor 25 = .ok (.invokevirtual 87, 3) := by decide +kernel
theorem dX3_readFactor_28 : decode cX3_readFactor 28 = .ok (.ifCond .eq 68, 3) := by decide +kernel
theorem dX3_readFactor_31 : decode cX3_readFactor 31 = .ok (.aload_n 0, 1) := by decide +kernel
theorem dX3_readFactor_32 : decode cX3_readFactor 32 = .ok (.iload_n 1, 1) := by decide +kernel
theorem dX3_readFactor_33 : decode cX3_readFactor 33 = .ok (.iconst 1, 1) := by decide +kernel
theorem dX3_readFactor_34 : decode cX3_readFactor 34 = .ok (.iadd, 1) := by decide +kernel
theorem dX3_readFactor_35 : decode cX3_readFactor 35 = .ok (.invokevirtual 60, 3) := by decide +kernel
theorem dX3_readFactor_38 : decode cX3_readFactor 38 = .ok (.aload_n 0, 1) := by decide +kernel
theorem dX3_readFactor_39 : decode cX3_readFactor 39 = .ok (.getfield 9, 3) := by decide +kernel
theorem dX3_readFactor_42 : decode cX3_readFactor 42 = .ok (.bipush 93, 2) := by decide +kernel
theorem dX3_readFactor_44 : decode cX3_readFactor 44 = .ok (.invokevirtual 36, 3) := by decide +kernel
theorem dX3_readFactor_47 : decode cX3_readFactor 47 = .ok (.goto 49, 3) := by decide +kernel
theorem dX3_readFactor_50 : decode cX3_readFactor 50 = .ok (.iload_n 2, 1) := by decide +kernel
theorem dX3_readFactor_51 : decode cX3_readFactor 51 = .ok (.iconst (-1), 1) := by decide +kernel
theorem dX3_readFactor_52 : decode cX3_readFactor 52 = .ok (.if_icmp .eq 24, 3) := by decide +kernel
theorem dX3_readFactor_55 : decode cX3_readFactor 55 = .ok (.aload_n 0, 1) := by decide +kernel
theorem dX3_readFactor_56 : decode cX3_readFactor 56 = .ok (.getfield 15, 3) := by decide +kernel
theorem dX3_readFactor_59 : decode cX3_readFactor 59 = .ok (.bipush 97, 2) := by decide +kernel
theorem dX3_readFactor_61 : decode cX3_readFactor 61 = .ok (.iload_n 2, 1) := by decide +kernel
theorem dX3_readFactor_62 : decode cX3_readFactor 62 = .ok (.invokevirtual 77, 3) := by decide +kernel
theorem dX3_readFactor_65 : decode cX3_readFactor 65 = .ok (.pop, 1) := by decide +kernel
theorem dX3_readFactor_66 : decode cX3_readFactor 66 = .ok (.aload_n 0, 1) := by decide +kernel
theorem dX3_readFactor_67 : decode cX3_readFactor 67 = .ok (.getfield 9, 3) := by decide +kernel
theorem dX3_readFactor_70 : decode cX3_readFactor 70 = .ok (.invokevirtual 54, 3) := by decide +kernel
theorem dX3_readFactor_73 : decode cX3_readFactor 73 = .ok (.goto 23, 3) := by decide +kernel
theorem dX3_readFactor_76 : decode cX3_readFactor 76 = .ok (.aload_n 0, 1) := by decide +kernel
theorem dX3_readFactor_77 : decode cX3_readFactor 77 = .ok (.getfield 15, 3) := by decide +kernel
theorem dX3_readFactor_80 : decode cX3_readFactor 80 = .ok (.bipush 48, 2) := by decide +kernel
theorem dX3_readFactor_82 : decode cX3_readFactor 82 = .ok (.aload_n 0, 1) := by decide +kernel
theorem dX3_readFactor_83 : decode cX3_readFactor 83 = .ok (.getfield 9, 3) := by decide +kernel
theorem dX3_readFactor_86 : decode cX3_readFactor 86 = .ok (.iconst 5, 1) := by decide +kernel
theorem dX3_readFactor_87 : decode cX3_readFactor 87 = .ok (.ldc 100, 2) := by decide +kernel
theorem dX3_readFactor_89 : decode cX3_readFactor 89 = .ok (.invokevirtual 101, 3) := by decide +kernel
theorem dX3_readFactor_92 : decode cX3_readFactor 92 = .ok (.invokevirtual 77, 3) := by decide +kernel
theorem dX3_readFactor_95 : decode cX3_readFactor 95 = .ok (.pop, 1) := by decide +kernel
theorem dX3_readFactor_96 : decode cX3_readFactor 96 = .ok (.return_, 1) := by decide +kernel
set_option maxHeartbeats 4000000 in
set_option maxRecDepth 100000 in
theorem c_X3_readFactor (l : Launch) (E : GE) (q : Nat) (hq : 20 ≤ q) (rs : Int32 → Int32 → Int32 → Int32 → Int32 → (Nat → Int32) → Int32 → (Nat → Int32) → (Nat → Int32) → Int32 → Option (Int32 × Int32 × Int32 × Int32 × (Nat → Int32) × (Nat → Int32))) (hrs : ∀ (o_t : Nat) (r_t_script : Nat) (r_t_law : Nat) (r_script_tape : Nat) (a_script_tape : Nat → Nat) (a_law : Nat → Nat) (script_end : Int32) (script_place : Int32) (script_sign : Int32) (script_fault : Int32) (script_tape_size : Int32) (script_tape_bytes : (Nat → Int32)) (law_size : Int32) (law_rules : Int32) (law_signs : (Nat → Int32)) (law_values : (Nat → Int32)) (x1 : Int32) (r : Int32 × Int32 × Int32 × Int32 × (Nat → Int32) × (Nat → Int32)), rs script_end script_place script_sign script_fault script_tape_size script_tape_bytes law_size law_signs law_values x1 = some r → Cn l E yX3_readSum cX3_readSum 4 none q 0 0 [.ref o_t, .int x1] (W_X3_readSum E o_t r_t_script r_t_law r_t_script r_script_tape r_script_tape a_script_tape r_t_law a_law script_end script_place script_sign script_fault script_tape_size script_tape_bytes law_size law_rules law_signs law_values) (fun w => w = (W_X3_readSum E o_t r_t_script r_t_law r_t_script r_script_tape r_script_tape a_script_tape r_t_law a_law script_end r.1 r.2.1 r.2.2.1 script_tape_size script_tape_bytes r.2.2.2.1 law_rules r.2.2.2.2.1 r.2.2.2.2.2)) none) (o_t : Nat) (r_t_script : Nat) (r_t_law : Nat) (r_script_tape : Nat) (a_script_tape : Nat → Nat) (a_law : Nat → Nat) (script_end : Int32) (script_place : Int32) (script_sign : Int32) (script_fault : Int32) (script_tape_size : Int32) (script_tape_bytes : (Nat → Int32)) (law_size : Int32) (law_rules : Int32) (law_signs : (Nat → Int32)) (law_values : (Nat → Int32)) (x1 : Int32) (r : Int32 × Int32 × Int32 × Int32 × (Nat → Int32) × (Nat → Int32)) (h : f_X3_readFactor rs script_end script_place script_sign script_fault script_tape_size script_tape_bytes law_size law_signs law_values x1 = some r) : Cn l E yX3_readFactor cX3_readFactor 3 none (q + 1) 0 0 [.ref o_t, .int x1] (W_X3_readFactor E o_t r_t_script r_t_law r_t_script r_script_tape r_script_tape a_script_tape r_t_law a_law script_end script_place script_sign script_fault script_tape_size script_tape_bytes law_size law_rules law_signs law_values) (fun w => w = (W_X3_readFactor E o_t r_t_script r_t_law r_t_script r_script_tape r_script_tape a_script_tape r_t_law a_law script_end r.1 r.2.1 r.2.2.1 script_tape_size script_tape_bytes r.2.2.2.1 law_rules r.2.2.2.2.1 r.2.2.2.2.2)) none := by
  refine Cn.ofV (by decide +kernel) (Nat.le_of_ble_eq_true rfl) (fun X hX hR C hret => ?_)
  subst hX
  show Gx X E 0 0 (W_X3_readFactor E o_t r_t_script r_t_law r_t_script r_script_tape r_script_tape a_script_tape r_t_law a_law script_end script_place script_sign script_fault script_tape_size script_tape_bytes law_size law_rules law_signs law_values) 0 [(0, .ref o_t), (1, .int x1)] []
  unfold f_X3_readFactor at h
  refine g_aload_n (pc := 0) C dX3_readFactor_0 rfl 0 rfl ?_
  refine g_get (pc := 1) C fl_X3_9 dX3_readFactor_1 0 rfl rfl ?_
  refine g_get (pc := 4) C fl_X3_40 dX3_readFactor_4 1 rfl rfl ?_
  obtain ⟨u1, hu1, h⟩ := bs h
  refine g_callS (pc := 7) (st := []) (st1 := [.int u1]) (ws' := (W_X3_readFactor E o_t r_t_script r_t_law r_t_script r_script_tape r_script_tape a_script_tape r_t_law a_law script_end script_place script_sign script_fault script_tape_size script_tape_bytes law_size law_rules law_signs law_values)) C mv_X2_letterAt ms_X2_letterAt ml_X3_96 (c_X2_letterAt X.2.1 E script_sign u1 hu1) dX3_readFactor_7 ⟨by omega, by decide⟩ rfl (Nat.le_of_ble_eq_true rfl) [] rfl (by decide) rfl rfl rfl rfl ?_
  refine g_istore_n (pc := 10) (lv' := [(2, .int u1), (0, .ref o_t), (1, .int x1)]) C dX3_readFactor_10 rfl (by decide) rfl ?_
  refine g_aload_n (pc := 11) C dX3_readFactor_11 rfl 1 rfl ?_
  refine g_get (pc := 12) C fl_X3_9 dX3_readFactor_12 0 rfl rfl ?_
  refine g_get (pc := 15) C fl_X3_40 dX3_readFactor_15 1 rfl rfl ?_
  refine g_bipush (pc := 18) (v := 91) C dX3_readFactor_18 (by decide) ?_
  refine g_icmp_ne (pc := 20) (tgt := 50) C dX3_readFactor_20 (by decide) h (fun h => ?_) (fun h => ?_)
  · refine g_iload_n (pc := 50) C dX3_readFactor_50 rfl 0 rfl ?_
    refine g_iconst (pc := 51) (v := -1) C dX3_readFactor_51 (by decide) ?_
    refine g_icmp_eq (pc := 52) (tgt := 76) C dX3_readFactor_52 (by decide) h (fun h => ?_) (fun h => ?_)
    · refine g_aload_n (pc := 76) C dX3_readFactor_76 rfl 1 rfl ?_
      refine g_get (pc := 77) C fl_X3_15 dX3_readFactor_77 0 rfl rfl ?_
      refine g_bipush (pc := 80) (v := 48) C dX3_readFactor_80 (by decide) ?_
      refine g_aload_n (pc := 82) C dX3_readFactor_82 rfl 1 rfl ?_
      refine g_get (pc := 83) C fl_X3_9 dX3_readFactor_83 0 rfl rfl ?_
      refine g_iconst (pc := 86) (v := 5) C dX3_readFactor_86 (by decide) ?_
      refine g_ldc (pc := 87) C dX3_readFactor_87 ct_X3_100 ?_
      obtain ⟨u2, hu2, h⟩ := bs h
      refine g_callV (pc := 89) (st := [.int (48 : Int32), .ref r_t_law]) (st1 := [.int u2.1, .int (48 : Int32), .ref r_t_law]) (ws' := (W_X3_readFactor E o_t r_t_script r_t_law r_t_script r_script_tape r_script_tape a_script_tape r_t_law a_law script_end u2.2.1 u2.2.2.1 u2.2.2.2 script_tape_size script_tape_bytes law_size law_rules law_signs law_values)) C mv_X7_number mi_X7_number ml_X3_101 (c_X7_number X.2.1 E r_t_script r_script_tape a_script_tape script_end script_place script_sign script_fault script_tape_size script_tape_bytes (5 : Int32) (99999 : Int32) u2 hu2) dX3_readFactor_89 ⟨by omega, by decide⟩ rfl (Nat.le_of_ble_eq_true rfl) 1 6 rfl rfl [1, 2, 3] rfl (by decide) rfl rfl rfl rfl ?_
      obtain ⟨u3, hu3, h⟩ := bs h
      refine g_callV (pc := 92) (st := []) (st1 := [.int u3.1]) (ws' := (W_X3_readFactor E o_t r_t_script r_t_law r_t_script r_script_tape r_script_tape a_script_tape r_t_law a_law script_end u2.2.1 u2.2.2.1 u2.2.2.2 script_tape_size script_tape_bytes u3.2.1 law_rules u3.2.2.1 u3.2.2.2)) C mv_X2_add mi_X2_add ml_X3_77 (c_X2_add X.2.1 E r_t_law a_law law_size law_rules law_signs law_values (48 : Int32) u2.1 u3 hu3) dX3_readFactor_92 ⟨by omega, by decide⟩ rfl (Nat.le_of_ble_eq_true rfl) 4 2 rfl rfl [4, 5, 6] rfl (by decide) rfl rfl rfl rfl ?_
      refine g_pop (pc := 95) C dX3_readFactor_95 rfl ?_
      cases h
      exact hret _ _ _ dX3_readFactor_96 rfl
    · refine g_aload_n (pc := 55) C dX3_readFactor_55 rfl 1 rfl ?_
      refine g_get (pc := 56) C fl_X3_15 dX3_readFactor_56 0 rfl rfl ?_
      refine g_bipush (pc := 59) (v := 97) C dX3_readFactor_59 (by decide) ?_
      refine g_iload_n (pc := 61) C dX3_readFactor_61 rfl 0 rfl ?_
      obtain ⟨u4, hu4, h⟩ := bs h
      refine g_callV (pc := 62) (st := []) (st1 := [.int u4.1]) (ws' := (W_X3_readFactor E o_t r_t_script r_t_law r_t_script r_script_tape r_script_tape a_script_tape r_t_law a_law script_end script_place script_sign script_fault script_tape_size script_tape_bytes u4.2.1 law_rules u4.2.2.1 u4.2.2.2)) C mv_X2_add mi_X2_add ml_X3_77 (c_X2_add X.2.1 E r_t_law a_law law_size law_rules law_signs law_values (97 : Int32) u1 u4 hu4) dX3_readFactor_62 ⟨by omega, by decide⟩ rfl (Nat.le_of_ble_eq_true rfl) 4 2 rfl rfl [4, 5, 6] rfl (by decide) rfl rfl rfl rfl ?_
      refine g_pop (pc := 65) C dX3_readFactor_65 rfl ?_
      refine g_aload_n (pc := 66) C dX3_readFactor_66 rfl 1 rfl ?_
      refine g_get (pc := 67) C fl_X3_9 dX3_readFactor_67 0 rfl rfl ?_
      obtain ⟨u5, hu5, h⟩ := bs h
      refine g_callV (pc := 70) (st := []) (st1 := []) (ws' := (W_X3_readFactor E o_t r_t_script r_t_law r_t_script r_script_tape r_script_tape a_script_tape r_t_law a_law script_end u5.1 u5.2 script_fault script_tape_size script_tape_bytes u4.2.1 law_rules u4.2.2.1 u4.2.2.2)) C mv_X7_step mi_X7_step ml_X3_54 (c_X7_step X.2.1 E r_t_script r_script_tape a_script_tape script_end script_place script_sign script_fault script_tape_size script_tape_bytes u5 hu5) dX3_readFactor_70 ⟨by omega, by decide⟩ rfl (Nat.le_of_ble_eq_true rfl) 1 6 rfl rfl [1, 2, 3] rfl (by decide) rfl rfl rfl rfl ?_
      refine g_goto (pc := 73) (tgt := 96) C dX3_readFactor_73 (by decide) ?_
      cases h
      exact hret _ _ _ dX3_readFactor_96 rfl
  · refine g_aload_n (pc := 23) C dX3_readFactor_23 rfl 1 rfl ?_
    refine g_iload_n (pc := 24) C dX3_readFactor_24 rfl 2 rfl ?_
    obtain ⟨u6, hu6, h⟩ := bs h
    refine g_callV (pc := 25) (st := []) (st1 := [.int u6.1]) (ws' := (W_X3_readFactor E o_t r_t_script r_t_law r_t_script r_script_tape r_script_tape a_script_tape r_t_law a_law script_end u6.2.1 u6.2.2.1 u6.2.2.2 script_tape_size script_tape_bytes law_size law_rules law_signs law_values)) C mv_X3_mayOpen mi_X3_mayOpen ml_X3_87 (c_X3_mayOpen X.2.1 E o_t r_t_script r_t_law r_script_tape a_script_tape script_end script_place script_sign script_fault script_tape_size script_tape_bytes x1 u6 hu6) dX3_readFactor_25 ⟨by omega, by decide⟩ rfl (Nat.le_of_ble_eq_true rfl) 0 3 rfl rfl [0, 1, 2, 3] rfl (by decide) rfl rfl rfl rfl ?_
    refine g_if_eq (pc := 28) (tgt := 96) C dX3_readFactor_28 (by decide) h (fun h => ?_) (fun h => ?_)
    · cases h
      exact hret _ _ _ dX3_readFactor_96 rfl
    · refine g_aload_n (pc := 31) C dX3_readFactor_31 rfl 1 rfl ?_
      refine g_iload_n (pc := 32) C dX3_readFactor_32 rfl 2 rfl ?_
      refine g_iconst (pc := 33) (v := 1) C dX3_readFactor_33 (by decide) ?_
      refine g_iadd (pc := 34) C dX3_readFactor_34 ?_
      obtain ⟨u7, hu7, h⟩ := bs h
      refine g_callV (pc := 35) (st := []) (st1 := []) (ws' := (W_X3_readFactor E o_t r_t_script r_t_law r_t_script r_script_tape r_script_tape a_script_tape r_t_law a_law script_end u7.1 u7.2.1 u7.2.2.1 script_tape_size script_tape_bytes u7.2.2.2.1 law_rules u7.2.2.2.2.1 u7.2.2.2.2.2)) C mv_X3_readSum mi_X3_readSum ml_X3_60 (hrs o_t r_t_script r_t_law r_script_tape a_script_tape a_law script_end u6.2.1 u6.2.2.1 u6.2.2.2 script_tape_size script_tape_bytes law_size law_rules law_signs law_values (x1 + (1 : Int32)) u7 hu7) dX3_readFactor_35 ⟨by omega, by decide⟩ rfl (Nat.le_of_ble_eq_true rfl) 0 3 rfl rfl [0, 1, 2, 3, 4, 5, 6] rfl (by decide) rfl rfl rfl rfl ?_
      refine g_aload_n (pc := 38) C dX3_readFactor_38 rfl 1 rfl ?_
      refine g_get (pc := 39) C fl_X3_9 dX3_readFactor_39 0 rfl rfl ?_
      refine g_bipush (pc := 42) (v := 93) C dX3_readFactor_42 (by decide) ?_
      obtain ⟨u8, hu8, h⟩ := bs h
      refine g_callV (pc := 44) (st := []) (st1 := []) (ws' := (W_X3_readFactor E o_t r_t_script r_t_law r_t_script r_script_tape r_script_tape a_script_tape r_t_law a_law script_end u8.1 u8.2.1 u8.2.2 script_tape_size script_tape_bytes u7.2.2.2.1 law_rules u7.2.2.2.2.1 u7.2.2.2.2.2)) C mv_X7_want mi_X7_want ml_X3_36 (c_X7_want X.2.1 E r_t_script r_script_tape a_script_tape script_end u7.1 u7.2.1 u7.2.2.1 script_tape_size script_tape_bytes (93 : Int32) u8 hu8) dX3_readFactor_44 ⟨by omega, by decide⟩ rfl (Nat.le_of_ble_eq_true rfl) 1 6 rfl rfl [1, 2, 3] rfl (by decide) rfl rfl rfl rfl ?_
      refine g_goto (pc := 47) (tgt := 96) C dX3_readFactor_47 (by decide) ?_
      cases h
      exact hret _ _ _ dX3_readFactor_96 rfl
abbrev W_X3_readTerm (E : GE) (O_t : Nat) (r_t_script : Nat) (r_t_law : Nat) (O_script : Nat) (r_script_tape : Nat) (O_script_tape : Nat) (a_script_tape : Nat → Nat) (O_law : Nat) (a_law : Nat → Nat) (script_end : Int32) (script_place : Int32) (script_sign : Int32) (script_fault : Int32) (script_tape_size : Int32) (script_tape_bytes : (Nat → Int32)) (law_size : Int32) (law_rules : Int32) (law_signs : (Nat → Int32)) (law_values : (Nat → Int32)) : va_W := [(O_t, ob_X3 r_t_script r_t_law), (O_script, ob_X7 r_script_tape script_end script_place script_sign script_fault), (O_script_tape, ob_X8 a_script_tape script_tape_size), (a_script_tape 0, .inl (E.2.1, 260, .inl script_tape_bytes)), (O_law, ob_X2 a_law law_size law_rules), (a_law 0, .inl (E.2.1, 256, .inl law_signs)), (a_law 1, .inl (E.2.1, 256, .inl law_values))]
def L_X3_readTerm_7 (rs : Int32 → Int32 → Int32 → Int32 → Int32 → (Nat → Int32) → Int32 → (Nat → Int32) → (Nat → Int32) → Int32 → Option (Int32 × Int32 × Int32 × Int32 × (Nat → Int32) × (Nat → Int32))) (script_end : Int32) (script_tape_size : Int32) (script_tape_bytes : (Nat → Int32)) (x1 : Int32) : Nat → Int32 × Int32 × Int32 × Int32 × Int32 × (Nat → Int32) × (Nat → Int32) → Option (Int32 × Int32 × Int32 × Int32 × (Nat → Int32) × (Nat → Int32)) := lp fun go s => if (240 : Int32) ≤ s.1 then (some (s.2.1, s.2.2.1, s.2.2.2.1, s.2.2.2.2.1, s.2.2.2.2.2.1, s.2.2.2.2.2.2)) else (f_X7_isSound s.2.2.2.1).bind fun u2 => if u2 = 0 then (some (s.2.1, s.2.2.1, s.2.2.2.1, s.2.2.2.2.1, s.2.2.2.2.2.1, s.2.2.2.2.2.2)) else jn (fun s3 : Unit => (f_X7_step script_end s.2.1 s.2.2.1 script_tape_size script_tape_bytes).bind fun u4 => (f_X3_readFactor rs script_end u4.1 u4.2 s.2.2.2.1 script_tape_size script_tape_bytes s.2.2.2.2.1 s.2.2.2.2.2.1 s.2.2.2.2.2.2 x1).bind fun u5 => (f_X2_add u5.2.2.2.1 u5.2.2.2.2.1 u5.2.2.2.2.2 s.2.2.1 (0 : Int32)).bind fun u6 => nm (s.1 + (1 : Int32)) fun v7 => go (v7, u5.1, u5.2.1, u5.2.2.1, u6.2.1, u6.2.2.1, u6.2.2.2)) fun j51 => if s.2.2.1 = (42 : Int32) then (j51 ()) else if s.2.2.1 = (47 : Int32) then (j51 ()) else if s.2.2.1 = (37 : Int32) then (j51 ()) else some (s.2.1, s.2.2.1, s.2.2.2.1, s.2.2.2.2.1, s.2.2.2.2.2.1, s.2.2.2.2.2.2)
def f_X3_readTerm (rs : Int32 → Int32 → Int32 → Int32 → Int32 → (Nat → Int32) → Int32 → (Nat → Int32) → (Nat → Int32) → Int32 → Option (Int32 × Int32 × Int32 × Int32 × (Nat → Int32) × (Nat → Int32))) (script_end : Int32) (script_place : Int32) (script_sign : Int32) (script_fault : Int32) (script_tape_size : Int32) (script_tape_bytes : (Nat → Int32)) (law_size : Int32) (law_signs : (Nat → Int32)) (law_values : (Nat → Int32)) (x1 : Int32) : Option (Int32 × Int32 × Int32 × Int32 × (Nat → Int32) × (Nat → Int32)) := (f_X3_readFactor rs script_end script_place script_sign script_fault script_tape_size script_tape_bytes law_size law_signs law_values x1).bind fun u1 => L_X3_readTerm_7 rs script_end script_tape_size script_tape_bytes x1 fu ((0 : Int32), u1.1, u1.2.1, u1.2.2.1, u1.2.2.2.1, u1.2.2.2.2.1, u1.2.2.2.2.2)
theorem dX3_readTerm_0 : decode cX3_readTerm 0 = .ok (.aload_n 0, 1) := by decide +kernel
theorem dX3_readTerm_1 : decode cX3_readTerm 1 = .ok (.iload_n 1, 1) := by decide +kernel
theorem dX3_readTerm_2 : decode cX3_readTerm 2 = .ok (.invokevirtual 93, 3) := by decide +kernel
theorem dX3_readTerm_5 : decode cX3_readTerm 5 = .ok (.iconst 0, 1) := by decide +kernel
theorem dX3_readTerm_6 : decode cX3_readTerm 6 = .ok (.istore_n 2, 1) := by decide +kernel
theorem dX3_readTerm_7 : decode cX3_readTerm 7 = .ok (.iload_n 2, 1) := by decide +kernel
theorem dX3_readTerm_8 : decode cX3_readTerm 8 = .ok (.sipush 240, 3) := by decide +kernel
theorem dX3_readTerm_11 : decode cX3_readTerm 11 = .ok (.if_icmp .ge 68, 3) := by decide +kernel
theorem dX3_readTerm_14 : decode cX3_readTerm 14 = .ok (.aload_n 0, 1) := by decide +kernel
theorem dX3_readTerm_15 : decode cX3_readTerm 15 = .ok (.getfield 9, 3) := by decide +kernel
theorem dX3_readTerm_18 : decode cX3_readTerm 18 = .ok (.invokevirtual 24, 3) := by decide +kernel
theorem dX3_readTerm_21 : decode cX3_readTerm 21 = .ok (.ifCond .eq 58, 3) := by decide +kernel
theorem dX3_readTerm_24 : decode cX3_readTerm 24 = .ok (.aload_n 0, 1) := by decide +kernel
theorem dX3_readTerm_25 : decode cX3_readTerm 25 = .ok (.getfield 9, 3) := by decide +kernel
theorem dX3_readTerm_28 : decode cX3_readTerm 28 = .ok (.getfield 40, 3) := by decide +kernel
theorem dX3_readTerm_31 : decode cX3_readTerm 31 = .ok (.istore_n 3, 1) := by decide +kernel
theorem dX3_readTerm_32 : decode cX3_readTerm 32 = .ok (.iload_n 3, 1) := by decide +kernel
theorem dX3_readTerm_33 : decode cX3_readTerm 33 = .ok (.bipush 42, 2) := by decide +kernel
theorem dX3_readTerm_35 : decode cX3_readTerm 35 = .ok (.if_icmp .eq 16, 3) := by decide +kernel
theorem dX3_readTerm_38 : decode cX3_readTerm 38 = .ok (.iload_n 3, 1) := by decide +kernel
theorem dX3_readTerm_39 : decode cX3_readTerm 39 = .ok (.bipush 47, 2) := by decide +kernel
theorem dX3_readTerm_41 : decode cX3_readTerm 41 = .ok (.if_icmp .eq 10, 3) := by decide +kernel
theorem dX3_readTerm_44 : decode cX3_readTerm 44 = .ok (.iload_n 3, 1) := by decide +kernel
theorem dX3_readTerm_45 : decode cX3_readTerm 45 = .ok (.bipush 37, 2) := by decide +kernel
theorem dX3_readTerm_47 : decode cX3_readTerm 47 = .ok (.if_icmp .eq 4, 3) := by decide +kernel
theorem dX3_readTerm_50 : decode cX3_readTerm 50 = .ok (.return_, 1) := by decide +kernel
theorem dX3_readTerm_51 : decode cX3_readTerm 51 = .ok (.aload_n 0, 1) := by decide +kernel
theorem dX3_readTerm_52 : decode cX3_readTerm 52 = .ok (.getfield 9, 3) := by decide +kernel
theorem dX3_readTerm_55 : decode cX3_readTerm 55 = .ok (.invokevirtual 54, 3) := by decide +kernel
theorem dX3_readTerm_58 : decode cX3_readTerm 58 = .ok (.aload_n 0, 1) := by decide +kernel
theorem dX3_readTerm_59 : decode cX3_readTerm 59 = .ok (.iload_n 1, 1) := by decide +kernel
theorem dX3_readTerm_60 : decode cX3_readTerm 60 = .ok (.invokevirtual 93, 3) := by decide +kernel
theorem dX3_readTerm_63 : decode cX3_readTerm 63 = .ok (.aload_n 0, 1) := by decide +kernel
theorem dX3_readTerm_64 : decode cX3_readTerm 64 = .ok (.getfield 15, 3) := by decide +kernel
theorem dX3_readTerm_67 : decode cX3_readTerm 67 = .ok (.iload_n 3, 1) := by decide +kernel
theorem dX3_readTerm_68 : decode cX3_readTerm 68 = .ok (.iconst 0, 1) := by decide +kernel
theorem dX3_readTerm_69 : decode cX3_readTerm 69 = .ok (.invokevirtual 77, 3) := by decide +kernel
theorem dX3_readTerm_72 : decode cX3_readTerm 72 = .ok (.pop, 1) := by decide +kernel
theorem dX3_readTerm_73 : decode cX3_readTerm 73 = .ok (.iinc 2 1, 3) := by decide +kernel
theorem dX3_readTerm_76 : decode cX3_readTerm 76 = .ok (.goto (-69), 3) := by decide +kernel
theorem dX3_readTerm_79 : decode cX3_readTerm 79 = .ok (.return_, 1) := by decide +kernel
set_option maxHeartbeats 4000000 in
set_option maxRecDepth 100000 in
theorem kL_X3_readTerm_7 {X : GC} {E : GE} (q : Nat) (hq : 20 ≤ q) (rs : Int32 → Int32 → Int32 → Int32 → Int32 → (Nat → Int32) → Int32 → (Nat → Int32) → (Nat → Int32) → Int32 → Option (Int32 × Int32 × Int32 × Int32 × (Nat → Int32) × (Nat → Int32))) (hrs : ∀ (o_t : Nat) (r_t_script : Nat) (r_t_law : Nat) (r_script_tape : Nat) (a_script_tape : Nat → Nat) (a_law : Nat → Nat) (script_end : Int32) (script_place : Int32) (script_sign : Int32) (script_fault : Int32) (script_tape_size : Int32) (script_tape_bytes : (Nat → Int32)) (law_size : Int32) (law_rules : Int32) (law_signs : (Nat → Int32)) (law_values : (Nat → Int32)) (x1 : Int32) (r : Int32 × Int32 × Int32 × Int32 × (Nat → Int32) × (Nat → Int32)), rs script_end script_place script_sign script_fault script_tape_size script_tape_bytes law_size law_signs law_values x1 = some r → Cn X.2.1 E yX3_readSum cX3_readSum 4 none q 0 0 [.ref o_t, .int x1] (W_X3_readSum E o_t r_t_script r_t_law r_t_script r_script_tape r_script_tape a_script_tape r_t_law a_law script_end script_place script_sign script_fault script_tape_size script_tape_bytes law_size law_rules law_signs law_values) (fun w => w = (W_X3_readSum E o_t r_t_script r_t_law r_t_script r_script_tape r_script_tape a_script_tape r_t_law a_law script_end r.1 r.2.1 r.2.2.1 script_tape_size script_tape_bytes r.2.2.2.1 law_rules r.2.2.2.2.1 r.2.2.2.2.2)) none) (C : Cx X E cX3_readTerm RX3 (q + 2) 4) (o_t : Nat) (r_t_script : Nat) (r_t_law : Nat) (r_script_tape : Nat) (a_script_tape : Nat → Nat) (a_law : Nat → Nat) (law_rules : Int32) (script_end : Int32) (script_tape_size : Int32) (script_tape_bytes : (Nat → Int32)) (x1 : Int32) {r : Int32 × Int32 × Int32 × Int32 × (Nat → Int32) × (Nat → Int32)} (hret : RtV X E cX3_readTerm 0 0 (fun w => w = (W_X3_readTerm E o_t r_t_script r_t_law r_t_script r_script_tape r_script_tape a_script_tape r_t_law a_law script_end r.1 r.2.1 r.2.2.1 script_tape_size script_tape_bytes r.2.2.2.1 law_rules r.2.2.2.2.1 r.2.2.2.2.2))) : ∀ (n : Nat) (s : Int32 × Int32 × Int32 × Int32 × Int32 × (Nat → Int32) × (Nat → Int32)), L_X3_readTerm_7 rs script_end script_tape_size script_tape_bytes x1 n s = some r → Gx X E 0 0 (W_X3_readTerm E o_t r_t_script r_t_law r_t_script r_script_tape r_script_tape a_script_tape r_t_law a_law script_end s.2.1 s.2.2.1 s.2.2.2.1 script_tape_size script_tape_bytes s.2.2.2.2.1 law_rules s.2.2.2.2.2.1 s.2.2.2.2.2.2) 7 [(0, .ref o_t), (1, .int x1), (2, .int s.1)] [] := by
  unfold L_X3_readTerm_7
  refine lp_ind _ (fun go ih s h => ?_)
  refine g_iload_n (pc := 7) C dX3_readTerm_7 rfl 2 rfl ?_
  refine g_sipush (pc := 8) (v := 240) C dX3_readTerm_8 (by decide) ?_
  refine g_icmp_ge (pc := 11) (tgt := 79) C dX3_readTerm_11 (by decide) h (fun h => ?_) (fun h => ?_)
  · cases h
    exact hret _ _ _ dX3_readTerm_79 rfl
  · refine g_aload_n (pc := 14) C dX3_readTerm_14 rfl 0 rfl ?_
    refine g_get (pc := 15) C fl_X3_9 dX3_readTerm_15 0 rfl rfl ?_
    obtain ⟨u2, hu2, h⟩ := bs h
    refine g_callV (pc := 18) (st := []) (st1 := [.int u2]) (ws' := (W_X3_readTerm E o_t r_t_script r_t_law r_t_script r_script_tape r_script_tape a_script_tape r_t_law a_law script_end s.2.1 s.2.2.1 s.2.2.2.1 script_tape_size script_tape_bytes s.2.2.2.2.1 law_rules s.2.2.2.2.2.1 s.2.2.2.2.2.2)) C mv_X7_isSound mi_X7_isSound ml_X3_24 (c_X7_isSound X.2.1 E r_t_script r_script_tape script_end s.2.1 s.2.2.1 s.2.2.2.1 u2 hu2) dX3_readTerm_18 ⟨by omega, by decide⟩ rfl (Nat.le_of_ble_eq_true rfl) 1 6 rfl rfl [1] rfl (by decide) rfl rfl rfl rfl ?_
    refine g_if_eq (pc := 21) (tgt := 79) C dX3_readTerm_21 (by decide) h (fun h => ?_) (fun h => ?_)
    · cases h
      exact hret _ _ _ dX3_readTerm_79 rfl
    · refine g_aload_n (pc := 24) C dX3_readTerm_24 rfl 0 rfl ?_
      refine g_get (pc := 25) C fl_X3_9 dX3_readTerm_25 0 rfl rfl ?_
      refine g_get (pc := 28) C fl_X3_40 dX3_readTerm_28 1 rfl rfl ?_
      refine g_istore_n (pc := 31) (lv' := [(3, .int s.2.2.1), (0, .ref o_t), (1, .int x1), (2, .int s.1)]) C dX3_readTerm_31 rfl (by decide) rfl ?_
      refine g_iload_n (pc := 32) C dX3_readTerm_32 rfl 0 rfl ?_
      refine g_bipush (pc := 33) (v := 42) C dX3_readTerm_33 (by decide) ?_
      refine g_jn (fun s3 : Unit => Gx X E 0 0 (W_X3_readTerm E o_t r_t_script r_t_law r_t_script r_script_tape r_script_tape a_script_tape r_t_law a_law script_end s.2.1 s.2.2.1 s.2.2.2.1 script_tape_size script_tape_bytes s.2.2.2.2.1 law_rules s.2.2.2.2.2.1 s.2.2.2.2.2.2) 51 [(0, .ref o_t), (1, .int x1), (2, .int s.1), (3, .int s.2.2.1)] []) h (fun s3 h => ?_) (fun j51 hj51 h => ?_)
      · refine g_aload_n (pc := 51) C dX3_readTerm_51 rfl 0 rfl ?_
        refine g_get (pc := 52) C fl_X3_9 dX3_readTerm_52 0 rfl rfl ?_
        obtain ⟨u4, hu4, h⟩ := bs h
        refine g_callV (pc := 55) (st := []) (st1 := []) (ws' := (W_X3_readTerm E o_t r_t_script r_t_law r_t_script r_script_tape r_script_tape a_script_tape r_t_law a_law script_end u4.1 u4.2 s.2.2.2.1 script_tape_size script_tape_bytes s.2.2.2.2.1 law_rules s.2.2.2.2.2.1 s.2.2.2.2.2.2)) C mv_X7_step mi_X7_step ml_X3_54 (c_X7_step X.2.1 E r_t_script r_script_tape a_script_tape script_end s.2.1 s.2.2.1 s.2.2.2.1 script_tape_size script_tape_bytes u4 hu4) dX3_readTerm_55 ⟨by omega, by decide⟩ rfl (Nat.le_of_ble_eq_true rfl) 1 6 rfl rfl [1, 2, 3] rfl (by decide) rfl rfl rfl rfl ?_
        refine g_aload_n (pc := 58) C dX3_readTerm_58 rfl 0 rfl ?_
        refine g_iload_n (pc := 59) C dX3_readTerm_59 rfl 1 rfl ?_
        obtain ⟨u5, hu5, h⟩ := bs h
        refine g_callV (pc := 60) (st := []) (st1 := []) (ws' := (W_X3_readTerm E o_t r_t_script r_t_law r_t_script r_script_tape r_script_tape a_script_tape r_t_law a_law script_end u5.1 u5.2.1 u5.2.2.1 script_tape_size script_tape_bytes u5.2.2.2.1 law_rules u5.2.2.2.2.1 u5.2.2.2.2.2)) C mv_X3_readFactor mi_X3_readFactor ml_X3_93 (c_X3_readFactor X.2.1 E q hq rs hrs o_t r_t_script r_t_law r_script_tape a_script_tape a_law script_end u4.1 u4.2 s.2.2.2.1 script_tape_size script_tape_bytes s.2.2.2.2.1 law_rules s.2.2.2.2.2.1 s.2.2.2.2.2.2 x1 u5 hu5) dX3_readTerm_60 ⟨by omega, by decide⟩ rfl (Nat.le_of_ble_eq_true rfl) 0 3 rfl rfl [0, 1, 2, 3, 4, 5, 6] rfl (by decide) rfl rfl rfl rfl ?_
        refine g_aload_n (pc := 63) C dX3_readTerm_63 rfl 0 rfl ?_
        refine g_get (pc := 64) C fl_X3_15 dX3_readTerm_64 0 rfl rfl ?_
        refine g_iload_n (pc := 67) C dX3_readTerm_67 rfl 3 rfl ?_
        refine g_iconst (pc := 68) (v := 0) C dX3_readTerm_68 (by decide) ?_
        obtain ⟨u6, hu6, h⟩ := bs h
        refine g_callV (pc := 69) (st := []) (st1 := [.int u6.1]) (ws' := (W_X3_readTerm E o_t r_t_script r_t_law r_t_script r_script_tape r_script_tape a_script_tape r_t_law a_law script_end u5.1 u5.2.1 u5.2.2.1 script_tape_size script_tape_bytes u6.2.1 law_rules u6.2.2.1 u6.2.2.2)) C mv_X2_add mi_X2_add ml_X3_77 (c_X2_add X.2.1 E r_t_law a_law u5.2.2.2.1 law_rules u5.2.2.2.2.1 u5.2.2.2.2.2 s.2.2.1 (0 : Int32) u6 hu6) dX3_readTerm_69 ⟨by omega, by decide⟩ rfl (Nat.le_of_ble_eq_true rfl) 4 2 rfl rfl [4, 5, 6] rfl (by decide) rfl rfl rfl rfl ?_
        refine g_pop (pc := 72) C dX3_readTerm_72 rfl ?_
        refine g_iincn (pc := 73) (j := 2) (d := 1) (lv' := fun v7 => [(2, .int v7), (0, .ref o_t), (1, .int x1), (3, .int s.2.2.1)]) C dX3_readTerm_73 rfl (by decide) (by decide) (fun _ => rfl) h (fun v7 h => ?_)
        refine g_goto (pc := 76) (tgt := 7) C dX3_readTerm_76 (by decide) ?_
        refine g_sub [1, 2, 0] rfl ?_
        exact ih _ h
      refine g_icmp_eq (pc := 35) (tgt := 51) C dX3_readTerm_35 (by decide) h (fun h => ?_) (fun h => ?_)
      · refine g_sub [1, 2, 3, 0] rfl ?_
        exact hj51 _ h
      · refine g_iload_n (pc := 38) C dX3_readTerm_38 rfl 0 rfl ?_
        refine g_bipush (pc := 39) (v := 47) C dX3_readTerm_39 (by decide) ?_
        refine g_icmp_eq (pc := 41) (tgt := 51) C dX3_readTerm_41 (by decide) h (fun h => ?_) (fun h => ?_)
        · refine g_sub [1, 2, 3, 0] rfl ?_
          exact hj51 _ h
        · refine g_iload_n (pc := 44) C dX3_readTerm_44 rfl 0 rfl ?_
          refine g_bipush (pc := 45) (v := 37) C dX3_readTerm_45 (by decide) ?_
          refine g_icmp_eq (pc := 47) (tgt := 51) C dX3_readTerm_47 (by decide) h (fun h => ?_) (fun h => ?_)
          · refine g_sub [1, 2, 3, 0] rfl ?_
            exact hj51 _ h
          · cases h
            exact hret _ _ _ dX3_readTerm_50 rfl
set_option maxHeartbeats 4000000 in
set_option maxRecDepth 100000 in
theorem c_X3_readTerm (l : Launch) (E : GE) (q : Nat) (hq : 20 ≤ q) (rs : Int32 → Int32 → Int32 → Int32 → Int32 → (Nat → Int32) → Int32 → (Nat → Int32) → (Nat → Int32) → Int32 → Option (Int32 × Int32 × Int32 × Int32 × (Nat → Int32) × (Nat → Int32))) (hrs : ∀ (o_t : Nat) (r_t_script : Nat) (r_t_law : Nat) (r_script_tape : Nat) (a_script_tape : Nat → Nat) (a_law : Nat → Nat) (script_end : Int32) (script_place : Int32) (script_sign : Int32) (script_fault : Int32) (script_tape_size : Int32) (script_tape_bytes : (Nat → Int32)) (law_size : Int32) (law_rules : Int32) (law_signs : (Nat → Int32)) (law_values : (Nat → Int32)) (x1 : Int32) (r : Int32 × Int32 × Int32 × Int32 × (Nat → Int32) × (Nat → Int32)), rs script_end script_place script_sign script_fault script_tape_size script_tape_bytes law_size law_signs law_values x1 = some r → Cn l E yX3_readSum cX3_readSum 4 none q 0 0 [.ref o_t, .int x1] (W_X3_readSum E o_t r_t_script r_t_law r_t_script r_script_tape r_script_tape a_script_tape r_t_law a_law script_end script_place script_sign script_fault script_tape_size script_tape_bytes law_size law_rules law_signs law_values) (fun w => w = (W_X3_readSum E o_t r_t_script r_t_law r_t_script r_script_tape r_script_tape a_script_tape r_t_law a_law script_end r.1 r.2.1 r.2.2.1 script_tape_size script_tape_bytes r.2.2.2.1 law_rules r.2.2.2.2.1 r.2.2.2.2.2)) none) (o_t : Nat) (r_t_script : Nat) (r_t_law : Nat) (r_script_tape : Nat) (a_script_tape : Nat → Nat) (a_law : Nat → Nat) (script_end : Int32) (script_place : Int32) (script_sign : Int32) (script_fault : Int32) (script_tape_size : Int32) (script_tape_bytes : (Nat → Int32)) (law_size : Int32) (law_rules : Int32) (law_signs : (Nat → Int32)) (law_values : (Nat → Int32)) (x1 : Int32) (r : Int32 × Int32 × Int32 × Int32 × (Nat → Int32) × (Nat → Int32)) (h : f_X3_readTerm rs script_end script_place script_sign script_fault script_tape_size script_tape_bytes law_size law_signs law_values x1 = some r) : Cn l E yX3_readTerm cX3_readTerm 4 none (q + 2) 0 0 [.ref o_t, .int x1] (W_X3_readTerm E o_t r_t_script r_t_law r_t_script r_script_tape r_script_tape a_script_tape r_t_law a_law script_end script_place script_sign script_fault script_tape_size script_tape_bytes law_size law_rules law_signs law_values) (fun w => w = (W_X3_readTerm E o_t r_t_script r_t_law r_t_script r_script_tape r_script_tape a_script_tape r_t_law a_law script_end r.1 r.2.1 r.2.2.1 script_tape_size script_tape_bytes r.2.2.2.1 law_rules r.2.2.2.2.1 r.2.2.2.2.2)) none := by
  refine Cn.ofV (by decide +kernel) (Nat.le_of_ble_eq_true rfl) (fun X hX hR C hret => ?_)
  subst hX
  show Gx X E 0 0 (W_X3_readTerm E o_t r_t_script r_t_law r_t_script r_script_tape r_script_tape a_script_tape r_t_law a_law script_end script_place script_sign script_fault script_tape_size script_tape_bytes law_size law_rules law_signs law_values) 0 [(0, .ref o_t), (1, .int x1)] []
  unfold f_X3_readTerm at h
  refine g_aload_n (pc := 0) C dX3_readTerm_0 rfl 0 rfl ?_
  refine g_iload_n (pc := 1) C dX3_readTerm_1 rfl 1 rfl ?_
  obtain ⟨u1, hu1, h⟩ := bs h
  refine g_callV (pc := 2) (st := []) (st1 := []) (ws' := (W_X3_readTerm E o_t r_t_script r_t_law r_t_script r_script_tape r_script_tape a_script_tape r_t_law a_law script_end u1.1 u1.2.1 u1.2.2.1 script_tape_size script_tape_bytes u1.2.2.2.1 law_rules u1.2.2.2.2.1 u1.2.2.2.2.2)) C mv_X3_readFactor mi_X3_readFactor ml_X3_93 (c_X3_readFactor X.2.1 E q hq rs hrs o_t r_t_script r_t_law r_script_tape a_script_tape a_law script_end script_place script_sign script_fault script_tape_size script_tape_bytes law_size law_rules law_signs law_values x1 u1 hu1) dX3_readTerm_2 ⟨by omega, by decide⟩ rfl (Nat.le_of_ble_eq_true rfl) 0 3 rfl rfl [0, 1, 2, 3, 4, 5, 6] rfl (by decide) rfl rfl rfl rfl ?_
  refine g_iconst (pc := 5) (v := 0) C dX3_readTerm_5 (by decide) ?_
  refine g_istore_n (pc := 6) (lv' := [(2, .int (0 : Int32)), (0, .ref o_t), (1, .int x1)]) C dX3_readTerm_6 rfl (by decide) rfl ?_
  refine g_sub [1, 2, 0] rfl ?_
  refine kL_X3_readTerm_7 q hq rs hrs C o_t r_t_script r_t_law r_script_tape a_script_tape a_law law_rules script_end script_tape_size script_tape_bytes x1 hret  _ _ h
def L_X3_readSum_7 (rs : Int32 → Int32 → Int32 → Int32 → Int32 → (Nat → Int32) → Int32 → (Nat → Int32) → (Nat → Int32) → Int32 → Option (Int32 × Int32 × Int32 × Int32 × (Nat → Int32) × (Nat → Int32))) (script_end : Int32) (script_tape_size : Int32) (script_tape_bytes : (Nat → Int32)) (x1 : Int32) : Nat → Int32 × Int32 × Int32 × Int32 × Int32 × (Nat → Int32) × (Nat → Int32) → Option (Int32 × Int32 × Int32 × Int32 × (Nat → Int32) × (Nat → Int32)) := lp fun go s => if (240 : Int32) ≤ s.1 then (some (s.2.1, s.2.2.1, s.2.2.2.1, s.2.2.2.2.1, s.2.2.2.2.2.1, s.2.2.2.2.2.2)) else (f_X7_isSound s.2.2.2.1).bind fun u2 => if u2 = 0 then (some (s.2.1, s.2.2.1, s.2.2.2.1, s.2.2.2.2.1, s.2.2.2.2.2.1, s.2.2.2.2.2.2)) else jn (fun s3 : Unit => (f_X7_step script_end s.2.1 s.2.2.1 script_tape_size script_tape_bytes).bind fun u4 => (f_X3_readTerm rs script_end u4.1 u4.2 s.2.2.2.1 script_tape_size script_tape_bytes s.2.2.2.2.1 s.2.2.2.2.2.1 s.2.2.2.2.2.2 x1).bind fun u5 => (f_X2_add u5.2.2.2.1 u5.2.2.2.2.1 u5.2.2.2.2.2 s.2.2.1 (0 : Int32)).bind fun u6 => nm (s.1 + (1 : Int32)) fun v7 => go (v7, u5.1, u5.2.1, u5.2.2.1, u6.2.1, u6.2.2.1, u6.2.2.2)) fun j45 => if s.2.2.1 = (43 : Int32) then (j45 ()) else if s.2.2.1 = (45 : Int32) then (j45 ()) else some (s.2.1, s.2.2.1, s.2.2.2.1, s.2.2.2.2.1, s.2.2.2.2.2.1, s.2.2.2.2.2.2)
def F_X3_readSum (rs : Int32 → Int32 → Int32 → Int32 → Int32 → (Nat → Int32) → Int32 → (Nat → Int32) → (Nat → Int32) → Int32 → Option (Int32 × Int32 × Int32 × Int32 × (Nat → Int32) × (Nat → Int32))) (script_end : Int32) (script_place : Int32) (script_sign : Int32) (script_fault : Int32) (script_tape_size : Int32) (script_tape_bytes : (Nat → Int32)) (law_size : Int32) (law_signs : (Nat → Int32)) (law_values : (Nat → Int32)) (x1 : Int32) : Option (Int32 × Int32 × Int32 × Int32 × (Nat → Int32) × (Nat → Int32)) := (f_X3_readTerm rs script_end script_place script_sign script_fault script_tape_size script_tape_bytes law_size law_signs law_values x1).bind fun u1 => L_X3_readSum_7 rs script_end script_tape_size script_tape_bytes x1 fu ((0 : Int32), u1.1, u1.2.1, u1.2.2.1, u1.2.2.2.1, u1.2.2.2.2.1, u1.2.2.2.2.2)
theorem dX3_readSum_0 : decode cX3_readSum 0 = .ok (.aload_n 0, 1) := by decide +kernel
theorem dX3_readSum_1 : decode cX3_readSum 1 = .ok (.iload_n 1, 1) := by decide +kernel
theorem dX3_readSum_2 : decode cX3_readSum 2 = .ok (.invokevirtual 90, 3) := by decide +kernel
theorem dX3_readSum_5 : decode cX3_readSum 5 = .ok (.iconst 0, 1) := by decide +kernel
theorem dX3_readSum_6 : decode cX3_readSum 6 = .ok (.istore_n 2, 1) := by decide +kernel
theorem dX3_readSum_7 : decode cX3_readSum 7 = .ok (.iload_n 2, 1) := by decide +kernel
theorem dX3_readSum_8 : decode cX3_readSum 8 = .ok (.sipush 240, 3) := by decide +kernel
theorem dX3_readSum_11 : decode cX3_readSum 11 = .ok (.if_icmp .ge 62, 3) := by decide +kernel
theorem dX3_readSum_14 : decode cX3_readSum 14 = .ok (.aload_n 0, 1) := by decide +kernel
theorem dX3_readSum_15 : decode cX3_readSum 15 = .ok (.getfield 9, 3) := by decide +kernel
theorem dX3_readSum_18 : decode cX3_readSum 18 = .ok (.invokevirtual 24, 3) := by decide +kernel
theorem dX3_readSum_21 : decode cX3_readSum 21 = .ok (.ifCond .eq 52, 3) := by decide +kernel
theorem dX3_readSum_24 : decode cX3_readSum 24 = .ok (.aload_n 0, 1) := by decide +kernel
theorem dX3_readSum_25 : decode cX3_readSum 25 = .ok (.getfield 9, 3) := by decide +kernel
theorem dX3_readSum_28 : decode cX3_readSum 28 = .ok (.getfield 40, 3) := by decide +kernel
theorem dX3_readSum_31 : decode cX3_readSum 31 = .ok (.istore_n 3, 1) := by decide +kernel
theorem dX3_readSum_32 : decode cX3_readSum 32 = .ok (.iload_n 3, 1) := by decide +kernel
theorem dX3_readSum_33 : decode cX3_readSum 33 = .ok (.bipush 43, 2) := by decide +kernel
theorem dX3_readSum_35 : decode cX3_readSum 35 = .ok (.if_icmp .eq 10, 3) := by decide +kernel
theorem dX3_readSum_38 : decode cX3_readSum 38 = .ok (.iload_n 3, 1) := by decide +kernel
theorem dX3_readSum_39 : decode cX3_readSum 39 = .ok (.bipush 45, 2) := by decide +kernel
theorem dX3_readSum_41 : decode cX3_readSum 41 = .ok (.if_icmp .eq 4, 3) := by decide +kernel
theorem dX3_readSum_44 : decode cX3_readSum 44 = .ok (.return_, 1) := by decide +kernel
theorem dX3_readSum_45 : decode cX3_readSum 45 = .ok (.aload_n 0, 1) := by decide +kernel
theorem dX3_readSum_46 : decode cX3_readSum 46 = .ok (.getfield 9, 3) := by decide +kernel
theorem dX3_readSum_49 : decode cX3_readSum 49 = .ok (.invokevirtual 54, 3) := by decide +kernel
theorem dX3_readSum_52 : decode cX3_readSum 52 = .ok (.aload_n 0, 1) := by decide +kernel
theorem dX3_readSum_53 : decode cX3_readSum 53 = .ok (.iload_n 1, 1) := by decide +kernel
theorem dX3_readSum_54 : decode cX3_readSum 54 = .ok (.invokevirtual 90, 3) := by decide +kernel
theorem dX3_readSum_57 : decode cX3_readSum 57 = .ok (.aload_n 0, 1) := by decide +kernel
theorem dX3_readSum_58 : decode cX3_readSum 58 = .ok (.getfield 15, 3) := by decide +kernel
theorem dX3_readSum_61 : decode cX3_readSum 61 = .ok (.iload_n 3, 1) := by decide +kernel
theorem dX3_readSum_62 : decode cX3_readSum 62 = .ok (.iconst 0, 1) := by decide +kernel
theorem dX3_readSum_63 : decode cX3_readSum 63 = .ok (.invokevirtual 77, 3) := by decide +kernel
theorem dX3_readSum_66 : decode cX3_readSum 66 = .ok (.pop, 1) := by decide +kernel
theorem dX3_readSum_67 : decode cX3_readSum 67 = .ok (.iinc 2 1, 3) := by decide +kernel
theorem dX3_readSum_70 : decode cX3_readSum 70 = .ok (.goto (-63), 3) := by decide +kernel
theorem dX3_readSum_73 : decode cX3_readSum 73 = .ok (.return_, 1) := by decide +kernel
set_option maxHeartbeats 4000000 in
set_option maxRecDepth 100000 in
theorem kL_X3_readSum_7 {X : GC} {E : GE} (q : Nat) (hq : 20 ≤ q) (rs : Int32 → Int32 → Int32 → Int32 → Int32 → (Nat → Int32) → Int32 → (Nat → Int32) → (Nat → Int32) → Int32 → Option (Int32 × Int32 × Int32 × Int32 × (Nat → Int32) × (Nat → Int32))) (hrs : ∀ (o_t : Nat) (r_t_script : Nat) (r_t_law : Nat) (r_script_tape : Nat) (a_script_tape : Nat → Nat) (a_law : Nat → Nat) (script_end : Int32) (script_place : Int32) (script_sign : Int32) (script_fault : Int32) (script_tape_size : Int32) (script_tape_bytes : (Nat → Int32)) (law_size : Int32) (law_rules : Int32) (law_signs : (Nat → Int32)) (law_values : (Nat → Int32)) (x1 : Int32) (r : Int32 × Int32 × Int32 × Int32 × (Nat → Int32) × (Nat → Int32)), rs script_end script_place script_sign script_fault script_tape_size script_tape_bytes law_size law_signs law_values x1 = some r → Cn X.2.1 E yX3_readSum cX3_readSum 4 none q 0 0 [.ref o_t, .int x1] (W_X3_readSum E o_t r_t_script r_t_law r_t_script r_script_tape r_script_tape a_script_tape r_t_law a_law script_end script_place script_sign script_fault script_tape_size script_tape_bytes law_size law_rules law_signs law_values) (fun w => w = (W_X3_readSum E o_t r_t_script r_t_law r_t_script r_script_tape r_script_tape a_script_tape r_t_law a_law script_end r.1 r.2.1 r.2.2.1 script_tape_size script_tape_bytes r.2.2.2.1 law_rules r.2.2.2.2.1 r.2.2.2.2.2)) none) (C : Cx X E cX3_readSum RX3 (q + 3) 4) (o_t : Nat) (r_t_script : Nat) (r_t_law : Nat) (r_script_tape : Nat) (a_script_tape : Nat → Nat) (a_law : Nat → Nat) (law_rules : Int32) (script_end : Int32) (script_tape_size : Int32) (script_tape_bytes : (Nat → Int32)) (x1 : Int32) {r : Int32 × Int32 × Int32 × Int32 × (Nat → Int32) × (Nat → Int32)} (hret : RtV X E cX3_readSum 0 0 (fun w => w = (W_X3_readSum E o_t r_t_script r_t_law r_t_script r_script_tape r_script_tape a_script_tape r_t_law a_law script_end r.1 r.2.1 r.2.2.1 script_tape_size script_tape_bytes r.2.2.2.1 law_rules r.2.2.2.2.1 r.2.2.2.2.2))) : ∀ (n : Nat) (s : Int32 × Int32 × Int32 × Int32 × Int32 × (Nat → Int32) × (Nat → Int32)), L_X3_readSum_7 rs script_end script_tape_size script_tape_bytes x1 n s = some r → Gx X E 0 0 (W_X3_readSum E o_t r_t_script r_t_law r_t_script r_script_tape r_script_tape a_script_tape r_t_law a_law script_end s.2.1 s.2.2.1 s.2.2.2.1 script_tape_size script_tape_bytes s.2.2.2.2.1 law_rules s.2.2.2.2.2.1 s.2.2.2.2.2.2) 7 [(0, .ref o_t), (1, .int x1), (2, .int s.1)] [] := by
  unfold L_X3_readSum_7
  refine lp_ind _ (fun go ih s h => ?_)
  refine g_iload_n (pc := 7) C dX3_readSum_7 rfl 2 rfl ?_
  refine g_sipush (pc := 8) (v := 240) C dX3_readSum_8 (by decide) ?_
  refine g_icmp_ge (pc := 11) (tgt := 73) C dX3_readSum_11 (by decide) h (fun h => ?_) (fun h => ?_)
  · cases h
    exact hret _ _ _ dX3_readSum_73 rfl
  · refine g_aload_n (pc := 14) C dX3_readSum_14 rfl 0 rfl ?_
    refine g_get (pc := 15) C fl_X3_9 dX3_readSum_15 0 rfl rfl ?_
    obtain ⟨u2, hu2, h⟩ := bs h
    refine g_callV (pc := 18) (st := []) (st1 := [.int u2]) (ws' := (W_X3_readSum E o_t r_t_script r_t_law r_t_script r_script_tape r_script_tape a_script_tape r_t_law a_law script_end s.2.1 s.2.2.1 s.2.2.2.1 script_tape_size script_tape_bytes s.2.2.2.2.1 law_rules s.2.2.2.2.2.1 s.2.2.2.2.2.2)) C mv_X7_isSound mi_X7_isSound ml_X3_24 (c_X7_isSound X.2.1 E r_t_script r_script_tape script_end s.2.1 s.2.2.1 s.2.2.2.1 u2 hu2) dX3_readSum_18 ⟨by omega, by decide⟩ rfl (Nat.le_of_ble_eq_true rfl) 1 6 rfl rfl [1] rfl (by decide) rfl rfl rfl rfl ?_
    refine g_if_eq (pc := 21) (tgt := 73) C dX3_readSum_21 (by decide) h (fun h => ?_) (fun h => ?_)
    · cases h
      exact hret _ _ _ dX3_readSum_73 rfl
    · refine g_aload_n (pc := 24) C dX3_readSum_24 rfl 0 rfl ?_
      refine g_get (pc := 25) C fl_X3_9 dX3_readSum_25 0 rfl rfl ?_
      refine g_get (pc := 28) C fl_X3_40 dX3_readSum_28 1 rfl rfl ?_
      refine g_istore_n (pc := 31) (lv' := [(3, .int s.2.2.1), (0, .ref o_t), (1, .int x1), (2, .int s.1)]) C dX3_readSum_31 rfl (by decide) rfl ?_
      refine g_iload_n (pc := 32) C dX3_readSum_32 rfl 0 rfl ?_
      refine g_bipush (pc := 33) (v := 43) C dX3_readSum_33 (by decide) ?_
      refine g_jn (fun s3 : Unit => Gx X E 0 0 (W_X3_readSum E o_t r_t_script r_t_law r_t_script r_script_tape r_script_tape a_script_tape r_t_law a_law script_end s.2.1 s.2.2.1 s.2.2.2.1 script_tape_size script_tape_bytes s.2.2.2.2.1 law_rules s.2.2.2.2.2.1 s.2.2.2.2.2.2) 45 [(0, .ref o_t), (1, .int x1), (2, .int s.1), (3, .int s.2.2.1)] []) h (fun s3 h => ?_) (fun j45 hj45 h => ?_)
      · refine g_aload_n (pc := 45) C dX3_readSum_45 rfl 0 rfl ?_
        refine g_get (pc := 46) C fl_X3_9 dX3_readSum_46 0 rfl rfl ?_
        obtain ⟨u4, hu4, h⟩ := bs h
        refine g_callV (pc := 49) (st := []) (st1 := []) (ws' := (W_X3_readSum E o_t r_t_script r_t_law r_t_script r_script_tape r_script_tape a_script_tape r_t_law a_law script_end u4.1 u4.2 s.2.2.2.1 script_tape_size script_tape_bytes s.2.2.2.2.1 law_rules s.2.2.2.2.2.1 s.2.2.2.2.2.2)) C mv_X7_step mi_X7_step ml_X3_54 (c_X7_step X.2.1 E r_t_script r_script_tape a_script_tape script_end s.2.1 s.2.2.1 s.2.2.2.1 script_tape_size script_tape_bytes u4 hu4) dX3_readSum_49 ⟨by omega, by decide⟩ rfl (Nat.le_of_ble_eq_true rfl) 1 6 rfl rfl [1, 2, 3] rfl (by decide) rfl rfl rfl rfl ?_
        refine g_aload_n (pc := 52) C dX3_readSum_52 rfl 0 rfl ?_
        refine g_iload_n (pc := 53) C dX3_readSum_53 rfl 1 rfl ?_
        obtain ⟨u5, hu5, h⟩ := bs h
        refine g_callV (pc := 54) (st := []) (st1 := []) (ws' := (W_X3_readSum E o_t r_t_script r_t_law r_t_script r_script_tape r_script_tape a_script_tape r_t_law a_law script_end u5.1 u5.2.1 u5.2.2.1 script_tape_size script_tape_bytes u5.2.2.2.1 law_rules u5.2.2.2.2.1 u5.2.2.2.2.2)) C mv_X3_readTerm mi_X3_readTerm ml_X3_90 (c_X3_readTerm X.2.1 E q hq rs hrs o_t r_t_script r_t_law r_script_tape a_script_tape a_law script_end u4.1 u4.2 s.2.2.2.1 script_tape_size script_tape_bytes s.2.2.2.2.1 law_rules s.2.2.2.2.2.1 s.2.2.2.2.2.2 x1 u5 hu5) dX3_readSum_54 ⟨by omega, by decide⟩ rfl (Nat.le_of_ble_eq_true rfl) 0 3 rfl rfl [0, 1, 2, 3, 4, 5, 6] rfl (by decide) rfl rfl rfl rfl ?_
        refine g_aload_n (pc := 57) C dX3_readSum_57 rfl 0 rfl ?_
        refine g_get (pc := 58) C fl_X3_15 dX3_readSum_58 0 rfl rfl ?_
        refine g_iload_n (pc := 61) C dX3_readSum_61 rfl 3 rfl ?_
        refine g_iconst (pc := 62) (v := 0) C dX3_readSum_62 (by decide) ?_
        obtain ⟨u6, hu6, h⟩ := bs h
        refine g_callV (pc := 63) (st := []) (st1 := [.int u6.1]) (ws' := (W_X3_readSum E o_t r_t_script r_t_law r_t_script r_script_tape r_script_tape a_script_tape r_t_law a_law script_end u5.1 u5.2.1 u5.2.2.1 script_tape_size script_tape_bytes u6.2.1 law_rules u6.2.2.1 u6.2.2.2)) C mv_X2_add mi_X2_add ml_X3_77 (c_X2_add X.2.1 E r_t_law a_law u5.2.2.2.1 law_rules u5.2.2.2.2.1 u5.2.2.2.2.2 s.2.2.1 (0 : Int32) u6 hu6) dX3_readSum_63 ⟨by omega, by decide⟩ rfl (Nat.le_of_ble_eq_true rfl) 4 2 rfl rfl [4, 5, 6] rfl (by decide) rfl rfl rfl rfl ?_
        refine g_pop (pc := 66) C dX3_readSum_66 rfl ?_
        refine g_iincn (pc := 67) (j := 2) (d := 1) (lv' := fun v7 => [(2, .int v7), (0, .ref o_t), (1, .int x1), (3, .int s.2.2.1)]) C dX3_readSum_67 rfl (by decide) (by decide) (fun _ => rfl) h (fun v7 h => ?_)
        refine g_goto (pc := 70) (tgt := 7) C dX3_readSum_70 (by decide) ?_
        refine g_sub [1, 2, 0] rfl ?_
        exact ih _ h
      refine g_icmp_eq (pc := 35) (tgt := 45) C dX3_readSum_35 (by decide) h (fun h => ?_) (fun h => ?_)
      · refine g_sub [1, 2, 3, 0] rfl ?_
        exact hj45 _ h
      · refine g_iload_n (pc := 38) C dX3_readSum_38 rfl 0 rfl ?_
        refine g_bipush (pc := 39) (v := 45) C dX3_readSum_39 (by decide) ?_
        refine g_icmp_eq (pc := 41) (tgt := 45) C dX3_readSum_41 (by decide) h (fun h => ?_) (fun h => ?_)
        · refine g_sub [1, 2, 3, 0] rfl ?_
          exact hj45 _ h
        · cases h
          exact hret _ _ _ dX3_readSum_44 rfl
set_option maxHeartbeats 4000000 in
set_option maxRecDepth 100000 in
theorem C_X3_readSum (l : Launch) (E : GE) (q : Nat) (hq : 20 ≤ q) (rs : Int32 → Int32 → Int32 → Int32 → Int32 → (Nat → Int32) → Int32 → (Nat → Int32) → (Nat → Int32) → Int32 → Option (Int32 × Int32 × Int32 × Int32 × (Nat → Int32) × (Nat → Int32))) (hrs : ∀ (o_t : Nat) (r_t_script : Nat) (r_t_law : Nat) (r_script_tape : Nat) (a_script_tape : Nat → Nat) (a_law : Nat → Nat) (script_end : Int32) (script_place : Int32) (script_sign : Int32) (script_fault : Int32) (script_tape_size : Int32) (script_tape_bytes : (Nat → Int32)) (law_size : Int32) (law_rules : Int32) (law_signs : (Nat → Int32)) (law_values : (Nat → Int32)) (x1 : Int32) (r : Int32 × Int32 × Int32 × Int32 × (Nat → Int32) × (Nat → Int32)), rs script_end script_place script_sign script_fault script_tape_size script_tape_bytes law_size law_signs law_values x1 = some r → Cn l E yX3_readSum cX3_readSum 4 none q 0 0 [.ref o_t, .int x1] (W_X3_readSum E o_t r_t_script r_t_law r_t_script r_script_tape r_script_tape a_script_tape r_t_law a_law script_end script_place script_sign script_fault script_tape_size script_tape_bytes law_size law_rules law_signs law_values) (fun w => w = (W_X3_readSum E o_t r_t_script r_t_law r_t_script r_script_tape r_script_tape a_script_tape r_t_law a_law script_end r.1 r.2.1 r.2.2.1 script_tape_size script_tape_bytes r.2.2.2.1 law_rules r.2.2.2.2.1 r.2.2.2.2.2)) none) (o_t : Nat) (r_t_script : Nat) (r_t_law : Nat) (r_script_tape : Nat) (a_script_tape : Nat → Nat) (a_law : Nat → Nat) (script_end : Int32) (script_place : Int32) (script_sign : Int32) (script_fault : Int32) (script_tape_size : Int32) (script_tape_bytes : (Nat → Int32)) (law_size : Int32) (law_rules : Int32) (law_signs : (Nat → Int32)) (law_values : (Nat → Int32)) (x1 : Int32) (r : Int32 × Int32 × Int32 × Int32 × (Nat → Int32) × (Nat → Int32)) (h : F_X3_readSum rs script_end script_place script_sign script_fault script_tape_size script_tape_bytes law_size law_signs law_values x1 = some r) : Cn l E yX3_readSum cX3_readSum 4 none (q + 3) 0 0 [.ref o_t, .int x1] (W_X3_readSum E o_t r_t_script r_t_law r_t_script r_script_tape r_script_tape a_script_tape r_t_law a_law script_end script_place script_sign script_fault script_tape_size script_tape_bytes law_size law_rules law_signs law_values) (fun w => w = (W_X3_readSum E o_t r_t_script r_t_law r_t_script r_script_tape r_script_tape a_script_tape r_t_law a_law script_end r.1 r.2.1 r.2.2.1 script_tape_size script_tape_bytes r.2.2.2.1 law_rules r.2.2.2.2.1 r.2.2.2.2.2)) none := by
  refine Cn.ofV (by decide +kernel) (Nat.le_of_ble_eq_true rfl) (fun X hX hR C hret => ?_)
  subst hX
  show Gx X E 0 0 (W_X3_readSum E o_t r_t_script r_t_law r_t_script r_script_tape r_script_tape a_script_tape r_t_law a_law script_end script_place script_sign script_fault script_tape_size script_tape_bytes law_size law_rules law_signs law_values) 0 [(0, .ref o_t), (1, .int x1)] []
  unfold F_X3_readSum at h
  refine g_aload_n (pc := 0) C dX3_readSum_0 rfl 0 rfl ?_
  refine g_iload_n (pc := 1) C dX3_readSum_1 rfl 1 rfl ?_
  obtain ⟨u1, hu1, h⟩ := bs h
  refine g_callV (pc := 2) (st := []) (st1 := []) (ws' := (W_X3_readSum E o_t r_t_script r_t_law r_t_script r_script_tape r_script_tape a_script_tape r_t_law a_law script_end u1.1 u1.2.1 u1.2.2.1 script_tape_size script_tape_bytes u1.2.2.2.1 law_rules u1.2.2.2.2.1 u1.2.2.2.2.2)) C mv_X3_readTerm mi_X3_readTerm ml_X3_90 (c_X3_readTerm X.2.1 E q hq rs hrs o_t r_t_script r_t_law r_script_tape a_script_tape a_law script_end script_place script_sign script_fault script_tape_size script_tape_bytes law_size law_rules law_signs law_values x1 u1 hu1) dX3_readSum_2 ⟨by omega, by decide⟩ rfl (Nat.le_of_ble_eq_true rfl) 0 3 rfl rfl [0, 1, 2, 3, 4, 5, 6] rfl (by decide) rfl rfl rfl rfl ?_
  refine g_iconst (pc := 5) (v := 0) C dX3_readSum_5 (by decide) ?_
  refine g_istore_n (pc := 6) (lv' := [(2, .int (0 : Int32)), (0, .ref o_t), (1, .int x1)]) C dX3_readSum_6 rfl (by decide) rfl ?_
  refine g_sub [1, 2, 0] rfl ?_
  refine kL_X3_readSum_7 q hq rs hrs C o_t r_t_script r_t_law r_script_tape a_script_tape a_law law_rules script_end script_tape_size script_tape_bytes x1 hret  _ _ h
def f_X3_readSum : Nat → Int32 → Int32 → Int32 → Int32 → Int32 → (Nat → Int32) → Int32 → (Nat → Int32) → (Nat → Int32) → Int32 → Option (Int32 × Int32 × Int32 × Int32 × (Nat → Int32) × (Nat → Int32))
  | 0 => fun _ _ _ _ _ _ _ _ _ _ => none
  | d + 1 => F_X3_readSum (f_X3_readSum d)
theorem c_X3_readSum (l : Launch) (E : GE) : ∀ d : Nat, ∀ (o_t : Nat) (r_t_script : Nat) (r_t_law : Nat) (r_script_tape : Nat) (a_script_tape : Nat → Nat) (a_law : Nat → Nat) (script_end : Int32) (script_place : Int32) (script_sign : Int32) (script_fault : Int32) (script_tape_size : Int32) (script_tape_bytes : (Nat → Int32)) (law_size : Int32) (law_rules : Int32) (law_signs : (Nat → Int32)) (law_values : (Nat → Int32)) (x1 : Int32) (r : Int32 × Int32 × Int32 × Int32 × (Nat → Int32) × (Nat → Int32)), f_X3_readSum d script_end script_place script_sign script_fault script_tape_size script_tape_bytes law_size law_signs law_values x1 = some r → Cn l E yX3_readSum cX3_readSum 4 none (rkS d) 0 0 [.ref o_t, .int x1] (W_X3_readSum E o_t r_t_script r_t_law r_t_script r_script_tape r_script_tape a_script_tape r_t_law a_law script_end script_place script_sign script_fault script_tape_size script_tape_bytes law_size law_rules law_signs law_values) (fun w => w = (W_X3_readSum E o_t r_t_script r_t_law r_t_script r_script_tape r_script_tape a_script_tape r_t_law a_law script_end r.1 r.2.1 r.2.2.1 script_tape_size script_tape_bytes r.2.2.2.1 law_rules r.2.2.2.2.1 r.2.2.2.2.2)) none := by
  intro d
  induction d with
  | zero => intro _ _ _ _ _ _ _ _ _ _ _ _ _ _ _ _ _ r h; cases h
  | succ d ih => exact C_X3_readSum l E (rkS d) (rkS_ge d) (f_X3_readSum d) ih
def rkT : Nat → Nat
  | 0 => 47
  | d + 1 => rkT d + 3
theorem rkT_ge : ∀ d, 47 ≤ rkT d := by
  intro d
  induction d with
  | zero => exact Nat.le_refl _
  | succ d ih => exact Nat.le_trans ih (Nat.le_add_right _ _)
abbrev W_X3_readTest (E : GE) (O_t : Nat) (r_t_script : Nat) (r_t_law : Nat) (O_script : Nat) (r_script_tape : Nat) (O_script_tape : Nat) (a_script_tape : Nat → Nat) (O_law : Nat) (a_law : Nat → Nat) (script_end : Int32) (script_place : Int32) (script_sign : Int32) (script_fault : Int32) (script_tape_size : Int32) (script_tape_bytes : (Nat → Int32)) (law_size : Int32) (law_rules : Int32) (law_signs : (Nat → Int32)) (law_values : (Nat → Int32)) : va_W := [(O_t, ob_X3 r_t_script r_t_law), (O_script, ob_X7 r_script_tape script_end script_place script_sign script_fault), (O_script_tape, ob_X8 a_script_tape script_tape_size), (a_script_tape 0, .inl (E.2.1, 260, .inl script_tape_bytes)), (O_law, ob_X2 a_law law_size law_rules), (a_law 0, .inl (E.2.1, 256, .inl law_signs)), (a_law 1, .inl (E.2.1, 256, .inl law_values))]
abbrev W_X3_readPart (E : GE) (O_t : Nat) (r_t_script : Nat) (r_t_law : Nat) (O_script : Nat) (r_script_tape : Nat) (O_script_tape : Nat) (a_script_tape : Nat → Nat) (O_law : Nat) (a_law : Nat → Nat) (script_end : Int32) (script_place : Int32) (script_sign : Int32) (script_fault : Int32) (script_tape_size : Int32) (script_tape_bytes : (Nat → Int32)) (law_size : Int32) (law_rules : Int32) (law_signs : (Nat → Int32)) (law_values : (Nat → Int32)) : va_W := [(O_t, ob_X3 r_t_script r_t_law), (O_script, ob_X7 r_script_tape script_end script_place script_sign script_fault), (O_script_tape, ob_X8 a_script_tape script_tape_size), (a_script_tape 0, .inl (E.2.1, 260, .inl script_tape_bytes)), (O_law, ob_X2 a_law law_size law_rules), (a_law 0, .inl (E.2.1, 256, .inl law_signs)), (a_law 1, .inl (E.2.1, 256, .inl law_values))]
def L_X3_readPart_4 (rt : Int32 → Int32 → Int32 → Int32 → Int32 → (Nat → Int32) → Int32 → (Nat → Int32) → (Nat → Int32) → Int32 → Option (Int32 × Int32 × Int32 × Int32 × (Nat → Int32) × (Nat → Int32))) (script_end : Int32) (script_tape_size : Int32) (script_tape_bytes : (Nat → Int32)) (x1 : Int32) (k0 : Int32 × Int32 × Int32 × Int32 × Int32 × (Nat → Int32) × (Nat → Int32) → Option (Int32 × Int32 × Int32 × Int32 × (Nat → Int32) × (Nat → Int32))) (k1 : Int32 × Int32 × Int32 × Int32 × Int32 × (Nat → Int32) × (Nat → Int32) → Option (Int32 × Int32 × Int32 × Int32 × (Nat → Int32) × (Nat → Int32))) : Nat → Int32 × Int32 × Int32 × Int32 × Int32 × Int32 × (Nat → Int32) × (Nat → Int32) → Option (Int32 × Int32 × Int32 × Int32 × (Nat → Int32) × (Nat → Int32)) := lp fun go s => if (240 : Int32) ≤ s.2.1 then (k1 (s.1, s.2.2.1, s.2.2.2.1, s.2.2.2.2.1, s.2.2.2.2.2.1, s.2.2.2.2.2.2.1, s.2.2.2.2.2.2.2)) else (f_X7_isSound s.2.2.2.2.1).bind fun u1 => if u1 = 0 then (k1 (s.1, s.2.2.1, s.2.2.2.1, s.2.2.2.2.1, s.2.2.2.2.2.1, s.2.2.2.2.2.2.1, s.2.2.2.2.2.2.2)) else (rt script_end s.2.2.1 s.2.2.2.1 s.2.2.2.2.1 script_tape_size script_tape_bytes s.2.2.2.2.2.1 s.2.2.2.2.2.2.1 s.2.2.2.2.2.2.2 x1).bind fun u2 => (f_X7_take script_end u2.1 u2.2.1 u2.2.2.1 script_tape_size script_tape_bytes (38 : Int32)).bind fun u3 => if u3.1 = 0 then (k0 (s.1, u3.2.1, u3.2.2, u2.2.2.1, u2.2.2.2.1, u2.2.2.2.2.1, u2.2.2.2.2.2)) else (f_X2_add u2.2.2.2.1 u2.2.2.2.2.1 u2.2.2.2.2.2 (38 : Int32) s.1).bind fun u4 => nm (s.2.1 + (1 : Int32)) fun v5 => go (u4.1, v5, u3.2.1, u3.2.2, u2.2.2.1, u4.2.1, u4.2.2.1, u4.2.2.2)
def f_X3_readPart (rt : Int32 → Int32 → Int32 → Int32 → Int32 → (Nat → Int32) → Int32 → (Nat → Int32) → (Nat → Int32) → Int32 → Option (Int32 × Int32 × Int32 × Int32 × (Nat → Int32) × (Nat → Int32))) (script_end : Int32) (script_place : Int32) (script_sign : Int32) (script_fault : Int32) (script_tape_size : Int32) (script_tape_bytes : (Nat → Int32)) (law_size : Int32) (law_signs : (Nat → Int32)) (law_values : (Nat → Int32)) (x1 : Int32) : Option (Int32 × Int32 × Int32 × Int32 × (Nat → Int32) × (Nat → Int32)) := L_X3_readPart_4 rt script_end script_tape_size script_tape_bytes x1 (fun s6 => (f_X2_landJumps s6.2.2.2.2.1 s6.2.2.2.2.2.2 s6.1).bind fun u7 => some (s6.2.1, s6.2.2.1, s6.2.2.2.1, s6.2.2.2.2.1, s6.2.2.2.2.2.1, u7)) (fun s8 => (f_X2_landJumps s8.2.2.2.2.1 s8.2.2.2.2.2.2 s8.1).bind fun u9 => some (s8.2.1, s8.2.2.1, s8.2.2.2.1, s8.2.2.2.2.1, s8.2.2.2.2.2.1, u9)) fu ((-1 : Int32), (0 : Int32), script_place, script_sign, script_fault, law_size, law_signs, law_values)
theorem dX3_readPart_0 : decode cX3_readPart 0 = .ok (.iconst (-1), 1) := by decide +kernel
theorem dX3_readPart_1 : decode cX3_readPart 1 = .ok (.istore_n 2, 1) := by decide +kernel
theorem dX3_readPart_2 : decode cX3_readPart 2 = .ok (.iconst 0, 1) := by decide +kernel
theorem dX3_readPart_3 : decode cX3_readPart 3 = .ok (.istore_n 3, 1) := by decide +kernel
theorem dX3_readPart_4 : decode cX3_readPart 4 = .ok (.iload_n 3, 1) := by decide +kernel
theorem dX3_readPart_5 : decode cX3_readPart 5 = .ok (.sipush 240, 3) := by decide +kernel
theorem dX3_readPart_8 : decode cX3_readPart 8 = .ok (.if_icmp .ge 50, 3) := by decide +kernel
theorem dX3_readPart_11 : decode cX3_readPart 11 = .ok (.aload_n 0, 1) := by decide +kernel
theorem dX3_readPart_12 : decode cX3_readPart 12 = .ok (.getfield 9, 3) := by decide +kernel
theorem dX3_readPart_15 : decode cX3_readPart 15 = .ok (.invokevirtual 24, 3) := by decide +kernel
theorem dX3_readPart_18 : decode cX3_readPart 18 = .ok (.ifCond .eq 40, 3) := by decide +kernel
theorem dX3_readPart_21 : decode cX3_readPart 21 = .ok (.aload_n 0, 1) := by decide +kernel
theorem dX3_readPart_22 : decode cX3_readPart 22 = .ok (.iload_n 1, 1) := by decide +kernel
theorem dX3_readPart_23 : decode cX3_readPart 23 = .ok (.invokevirtual 84, 3) := by decide +kernel
theorem dX3_readPart_26 : decode cX3_readPart 26 = .ok (.aload_n 0, 1) := by decide +kernel
theorem dX3_readPart_27 : decode cX3_readPart 27 = .ok (.getfield 9, 3) := by decide +kernel
theorem dX3_readPart_30 : decode cX3_readPart 30 = .ok (.bipush 38, 2) := by decide +kernel
theorem dX3_readPart_32 : decode cX3_readPart 32 = .ok (.invokevirtual 73, 3) := by decide +kernel
theorem dX3_readPart_35 : decode cX3_readPart 35 = .ok (.ifCond .ne 6, 3) := by decide +kernel
theorem dX3_readPart_38 : decode cX3_readPart 38 = .ok (.goto 20, 3) := by decide +kernel
theorem dX3_readPart_41 : decode cX3_readPart 41 = .ok (.aload_n 0, 1) := by decide +kernel
theorem dX3_readPart_42 : decode cX3_readPart 42 = .ok (.getfield 15, 3) := by decide +kernel
theorem dX3_readPart_45 : decode cX3_readPart 45 = .ok (.bipush 38, 2) := by decide +kernel
theorem dX3_readPart_47 : decode cX3_readPart 47 = .ok (.iload_n 2, 1) := by decide +kernel
theorem dX3_readPart_48 : decode cX3_readPart 48 = .ok (.invokevirtual 77, 3) := by decide +kernel
theorem dX3_readPart_51 : decode cX3_readPart 51 = .ok (.istore_n 2, 1) := by decide +kernel
theorem dX3_readPart_52 : decode cX3_readPart 52 = .ok (.iinc 3 1, 3) := by decide +kernel
theorem dX3_readPart_55 : decode cX3_readPart 55 = .ok (.goto (-51), 3) := by decide +kernel
theorem dX3_readPart_58 : decode cX3_readPart 58 = .ok (.aload_n 0, 1) := by decide +kernel
theorem dX3_readPart_59 : decode cX3_readPart 59 = .ok (.getfield 15, 3) := by decide +kernel
theorem dX3_readPart_62 : decode cX3_readPart 62 = .ok (.iload_n 2, 1) := by decide +kernel
theorem dX3_readPart_63 : decode cX3_readPart 63 = .ok (.invokevirtual 81, 3) := by decide +kernel
theorem dX3_readPart_66 : decode cX3_readPart 66 = .ok (.return_, 1) := by decide +kernel
set_option maxHeartbeats 4000000 in
set_option maxRecDepth 100000 in
theorem kL_X3_readPart_4 {X : GC} {E : GE} (q : Nat) (hq : 47 ≤ q) (rt : Int32 → Int32 → Int32 → Int32 → Int32 → (Nat → Int32) → Int32 → (Nat → Int32) → (Nat → Int32) → Int32 → Option (Int32 × Int32 × Int32 × Int32 × (Nat → Int32) × (Nat → Int32))) (hrt : ∀ (o_t : Nat) (r_t_script : Nat) (r_t_law : Nat) (r_script_tape : Nat) (a_script_tape : Nat → Nat) (a_law : Nat → Nat) (script_end : Int32) (script_place : Int32) (script_sign : Int32) (script_fault : Int32) (script_tape_size : Int32) (script_tape_bytes : (Nat → Int32)) (law_size : Int32) (law_rules : Int32) (law_signs : (Nat → Int32)) (law_values : (Nat → Int32)) (x1 : Int32) (r : Int32 × Int32 × Int32 × Int32 × (Nat → Int32) × (Nat → Int32)), rt script_end script_place script_sign script_fault script_tape_size script_tape_bytes law_size law_signs law_values x1 = some r → Cn X.2.1 E yX3_readTest cX3_readTest 3 none q 0 0 [.ref o_t, .int x1] (W_X3_readTest E o_t r_t_script r_t_law r_t_script r_script_tape r_script_tape a_script_tape r_t_law a_law script_end script_place script_sign script_fault script_tape_size script_tape_bytes law_size law_rules law_signs law_values) (fun w => w = (W_X3_readTest E o_t r_t_script r_t_law r_t_script r_script_tape r_script_tape a_script_tape r_t_law a_law script_end r.1 r.2.1 r.2.2.1 script_tape_size script_tape_bytes r.2.2.2.1 law_rules r.2.2.2.2.1 r.2.2.2.2.2)) none) (C : Cx X E cX3_readPart RX3 (q + 1) 4) (o_t : Nat) (r_t_script : Nat) (r_t_law : Nat) (r_script_tape : Nat) (a_script_tape : Nat → Nat) (a_law : Nat → Nat) (law_rules : Int32) (script_end : Int32) (script_tape_size : Int32) (script_tape_bytes : (Nat → Int32)) (x1 : Int32) (k0 : Int32 × Int32 × Int32 × Int32 × Int32 × (Nat → Int32) × (Nat → Int32) → Option (Int32 × Int32 × Int32 × Int32 × (Nat → Int32) × (Nat → Int32))) (k1 : Int32 × Int32 × Int32 × Int32 × Int32 × (Nat → Int32) × (Nat → Int32) → Option (Int32 × Int32 × Int32 × Int32 × (Nat → Int32) × (Nat → Int32))) {r : Int32 × Int32 × Int32 × Int32 × (Nat → Int32) × (Nat → Int32)} (hret : RtV X E cX3_readPart 0 0 (fun w => w = (W_X3_readPart E o_t r_t_script r_t_law r_t_script r_script_tape r_script_tape a_script_tape r_t_law a_law script_end r.1 r.2.1 r.2.2.1 script_tape_size script_tape_bytes r.2.2.2.1 law_rules r.2.2.2.2.1 r.2.2.2.2.2))) (hk0 : ∀ u, k0 u = some r → Gx X E 0 0 (W_X3_readPart E o_t r_t_script r_t_law r_t_script r_script_tape r_script_tape a_script_tape r_t_law a_law script_end u.2.1 u.2.2.1 u.2.2.2.1 script_tape_size script_tape_bytes u.2.2.2.2.1 law_rules u.2.2.2.2.2.1 u.2.2.2.2.2.2) 38 [(0, .ref o_t), (2, .int u.1)] []) (hk1 : ∀ u, k1 u = some r → Gx X E 0 0 (W_X3_readPart E o_t r_t_script r_t_law r_t_script r_script_tape r_script_tape a_script_tape r_t_law a_law script_end u.2.1 u.2.2.1 u.2.2.2.1 script_tape_size script_tape_bytes u.2.2.2.2.1 law_rules u.2.2.2.2.2.1 u.2.2.2.2.2.2) 58 [(0, .ref o_t), (2, .int u.1)] []) : ∀ (n : Nat) (s : Int32 × Int32 × Int32 × Int32 × Int32 × Int32 × (Nat → Int32) × (Nat → Int32)), L_X3_readPart_4 rt script_end script_tape_size script_tape_bytes x1 k0 k1 n s = some r → Gx X E 0 0 (W_X3_readPart E o_t r_t_script r_t_law r_t_script r_script_tape r_script_tape a_script_tape r_t_law a_law script_end s.2.2.1 s.2.2.2.1 s.2.2.2.2.1 script_tape_size script_tape_bytes s.2.2.2.2.2.1 law_rules s.2.2.2.2.2.2.1 s.2.2.2.2.2.2.2) 4 [(0, .ref o_t), (1, .int x1), (2, .int s.1), (3, .int s.2.1)] [] := by
  unfold L_X3_readPart_4
  refine lp_ind _ (fun go ih s h => ?_)
  refine g_iload_n (pc := 4) C dX3_readPart_4 rfl 3 rfl ?_
  refine g_sipush (pc := 5) (v := 240) C dX3_readPart_5 (by decide) ?_
  refine g_icmp_ge (pc := 8) (tgt := 58) C dX3_readPart_8 (by decide) h (fun h => ?_) (fun h => ?_)
  · refine g_sub [0, 2] rfl ?_
    exact hk1 _ h
  · refine g_aload_n (pc := 11) C dX3_readPart_11 rfl 0 rfl ?_
    refine g_get (pc := 12) C fl_X3_9 dX3_readPart_12 0 rfl rfl ?_
    obtain ⟨u1, hu1, h⟩ := bs h
    refine g_callV (pc := 15) (st := []) (st1 := [.int u1]) (ws' := (W_X3_readPart E o_t r_t_script r_t_law r_t_script r_script_tape r_script_tape a_script_tape r_t_law a_law script_end s.2.2.1 s.2.2.2.1 s.2.2.2.2.1 script_tape_size script_tape_bytes s.2.2.2.2.2.1 law_rules s.2.2.2.2.2.2.1 s.2.2.2.2.2.2.2)) C mv_X7_isSound mi_X7_isSound ml_X3_24 (c_X7_isSound X.2.1 E r_t_script r_script_tape script_end s.2.2.1 s.2.2.2.1 s.2.2.2.2.1 u1 hu1) dX3_readPart_15 ⟨by omega, by decide⟩ rfl (Nat.le_of_ble_eq_true rfl) 1 6 rfl rfl [1] rfl (by decide) rfl rfl rfl rfl ?_
    refine g_if_eq (pc := 18) (tgt := 58) C dX3_readPart_18 (by decide) h (fun h => ?_) (fun h => ?_)
    · refine g_sub [0, 2] rfl ?_
      exact hk1 _ h
    · refine g_aload_n (pc := 21) C dX3_readPart_21 rfl 0 rfl ?_
      refine g_iload_n (pc := 22) C dX3_readPart_22 rfl 1 rfl ?_
      obtain ⟨u2, hu2, h⟩ := bs h
      refine g_callV (pc := 23) (st := []) (st1 := []) (ws' := (W_X3_readPart E o_t r_t_script r_t_law r_t_script r_script_tape r_script_tape a_script_tape r_t_law a_law script_end u2.1 u2.2.1 u2.2.2.1 script_tape_size script_tape_bytes u2.2.2.2.1 law_rules u2.2.2.2.2.1 u2.2.2.2.2.2)) C mv_X3_readTest mi_X3_readTest ml_X3_84 (hrt o_t r_t_script r_t_law r_script_tape a_script_tape a_law script_end s.2.2.1 s.2.2.2.1 s.2.2.2.2.1 script_tape_size script_tape_bytes s.2.2.2.2.2.1 law_rules s.2.2.2.2.2.2.1 s.2.2.2.2.2.2.2 x1 u2 hu2) dX3_readPart_23 ⟨by omega, by decide⟩ rfl (Nat.le_of_ble_eq_true rfl) 0 3 rfl rfl [0, 1, 2, 3, 4, 5, 6] rfl (by decide) rfl rfl rfl rfl ?_
      refine g_aload_n (pc := 26) C dX3_readPart_26 rfl 0 rfl ?_
      refine g_get (pc := 27) C fl_X3_9 dX3_readPart_27 0 rfl rfl ?_
      refine g_bipush (pc := 30) (v := 38) C dX3_readPart_30 (by decide) ?_
      obtain ⟨u3, hu3, h⟩ := bs h
      refine g_callV (pc := 32) (st := []) (st1 := [.int u3.1]) (ws' := (W_X3_readPart E o_t r_t_script r_t_law r_t_script r_script_tape r_script_tape a_script_tape r_t_law a_law script_end u3.2.1 u3.2.2 u2.2.2.1 script_tape_size script_tape_bytes u2.2.2.2.1 law_rules u2.2.2.2.2.1 u2.2.2.2.2.2)) C mv_X7_take mi_X7_take ml_X3_73 (c_X7_take X.2.1 E r_t_script r_script_tape a_script_tape script_end u2.1 u2.2.1 u2.2.2.1 script_tape_size script_tape_bytes (38 : Int32) u3 hu3) dX3_readPart_32 ⟨by omega, by decide⟩ rfl (Nat.le_of_ble_eq_true rfl) 1 6 rfl rfl [1, 2, 3] rfl (by decide) rfl rfl rfl rfl ?_
      refine g_if_ne (pc := 35) (tgt := 41) C dX3_readPart_35 (by decide) h (fun h => ?_) (fun h => ?_)
      · refine g_aload_n (pc := 41) C dX3_readPart_41 rfl 0 rfl ?_
        refine g_get (pc := 42) C fl_X3_15 dX3_readPart_42 0 rfl rfl ?_
        refine g_bipush (pc := 45) (v := 38) C dX3_readPart_45 (by decide) ?_
        refine g_iload_n (pc := 47) C dX3_readPart_47 rfl 2 rfl ?_
        obtain ⟨u4, hu4, h⟩ := bs h
        refine g_callV (pc := 48) (st := []) (st1 := [.int u4.1]) (ws' := (W_X3_readPart E o_t r_t_script r_t_law r_t_script r_script_tape r_script_tape a_script_tape r_t_law a_law script_end u3.2.1 u3.2.2 u2.2.2.1 script_tape_size script_tape_bytes u4.2.1 law_rules u4.2.2.1 u4.2.2.2)) C mv_X2_add mi_X2_add ml_X3_77 (c_X2_add X.2.1 E r_t_law a_law u2.2.2.2.1 law_rules u2.2.2.2.2.1 u2.2.2.2.2.2 (38 : Int32) s.1 u4 hu4) dX3_readPart_48 ⟨by omega, by decide⟩ rfl (Nat.le_of_ble_eq_true rfl) 4 2 rfl rfl [4, 5, 6] rfl (by decide) rfl rfl rfl rfl ?_
        refine g_istore_n (pc := 51) (lv' := [(2, .int u4.1), (0, .ref o_t), (1, .int x1), (3, .int s.2.1)]) C dX3_readPart_51 rfl (by decide) rfl ?_
        refine g_iincn (pc := 52) (j := 3) (d := 1) (lv' := fun v5 => [(3, .int v5), (2, .int u4.1), (0, .ref o_t), (1, .int x1)]) C dX3_readPart_52 rfl (by decide) (by decide) (fun _ => rfl) h (fun v5 h => ?_)
        refine g_goto (pc := 55) (tgt := 4) C dX3_readPart_55 (by decide) ?_
        refine g_sub [2, 3, 1, 0] rfl ?_
        exact ih _ h
      · refine g_sub [0, 2] rfl ?_
        exact hk0 _ h
set_option maxHeartbeats 4000000 in
set_option maxRecDepth 100000 in
theorem c_X3_readPart (l : Launch) (E : GE) (q : Nat) (hq : 47 ≤ q) (rt : Int32 → Int32 → Int32 → Int32 → Int32 → (Nat → Int32) → Int32 → (Nat → Int32) → (Nat → Int32) → Int32 → Option (Int32 × Int32 × Int32 × Int32 × (Nat → Int32) × (Nat → Int32))) (hrt : ∀ (o_t : Nat) (r_t_script : Nat) (r_t_law : Nat) (r_script_tape : Nat) (a_script_tape : Nat → Nat) (a_law : Nat → Nat) (script_end : Int32) (script_place : Int32) (script_sign : Int32) (script_fault : Int32) (script_tape_size : Int32) (script_tape_bytes : (Nat → Int32)) (law_size : Int32) (law_rules : Int32) (law_signs : (Nat → Int32)) (law_values : (Nat → Int32)) (x1 : Int32) (r : Int32 × Int32 × Int32 × Int32 × (Nat → Int32) × (Nat → Int32)), rt script_end script_place script_sign script_fault script_tape_size script_tape_bytes law_size law_signs law_values x1 = some r → Cn l E yX3_readTest cX3_readTest 3 none q 0 0 [.ref o_t, .int x1] (W_X3_readTest E o_t r_t_script r_t_law r_t_script r_script_tape r_script_tape a_script_tape r_t_law a_law script_end script_place script_sign script_fault script_tape_size script_tape_bytes law_size law_rules law_signs law_values) (fun w => w = (W_X3_readTest E o_t r_t_script r_t_law r_t_script r_script_tape r_script_tape a_script_tape r_t_law a_law script_end r.1 r.2.1 r.2.2.1 script_tape_size script_tape_bytes r.2.2.2.1 law_rules r.2.2.2.2.1 r.2.2.2.2.2)) none) (o_t : Nat) (r_t_script : Nat) (r_t_law : Nat) (r_script_tape : Nat) (a_script_tape : Nat → Nat) (a_law : Nat → Nat) (script_end : Int32) (script_place : Int32) (script_sign : Int32) (script_fault : Int32) (script_tape_size : Int32) (script_tape_bytes : (Nat → Int32)) (law_size : Int32) (law_rules : Int32) (law_signs : (Nat → Int32)) (law_values : (Nat → Int32)) (x1 : Int32) (r : Int32 × Int32 × Int32 × Int32 × (Nat → Int32) × (Nat → Int32)) (h : f_X3_readPart rt script_end script_place script_sign script_fault script_tape_size script_tape_bytes law_size law_signs law_values x1 = some r) : Cn l E yX3_readPart cX3_readPart 4 none (q + 1) 0 0 [.ref o_t, .int x1] (W_X3_readPart E o_t r_t_script r_t_law r_t_script r_script_tape r_script_tape a_script_tape r_t_law a_law script_end script_place script_sign script_fault script_tape_size script_tape_bytes law_size law_rules law_signs law_values) (fun w => w = (W_X3_readPart E o_t r_t_script r_t_law r_t_script r_script_tape r_script_tape a_script_tape r_t_law a_law script_end r.1 r.2.1 r.2.2.1 script_tape_size script_tape_bytes r.2.2.2.1 law_rules r.2.2.2.2.1 r.2.2.2.2.2)) none := by
  refine Cn.ofV (by decide +kernel) (Nat.le_of_ble_eq_true rfl) (fun X hX hR C hret => ?_)
  subst hX
  show Gx X E 0 0 (W_X3_readPart E o_t r_t_script r_t_law r_t_script r_script_tape r_script_tape a_script_tape r_t_law a_law script_end script_place script_sign script_fault script_tape_size script_tape_bytes law_size law_rules law_signs law_values) 0 [(0, .ref o_t), (1, .int x1)] []
  unfold f_X3_readPart at h
  refine g_iconst (pc := 0) (v := -1) C dX3_readPart_0 (by decide) ?_
  refine g_istore_n (pc := 1) (lv' := [(2, .int (-1 : Int32)), (0, .ref o_t), (1, .int x1)]) C dX3_readPart_1 rfl (by decide) rfl ?_
  refine g_iconst (pc := 2) (v := 0) C dX3_readPart_2 (by decide) ?_
  refine g_istore_n (pc := 3) (lv' := [(3, .int (0 : Int32)), (2, .int (-1 : Int32)), (0, .ref o_t), (1, .int x1)]) C dX3_readPart_3 rfl (by decide) rfl ?_
  refine g_sub [2, 3, 1, 0] rfl ?_
  refine kL_X3_readPart_4 q hq rt hrt C o_t r_t_script r_t_law r_script_tape a_script_tape a_law law_rules script_end script_tape_size script_tape_bytes x1 _ _ hret (fun s6 h => ?_) (fun s8 h => ?_) _ _ h
  · refine g_goto (pc := 38) (tgt := 58) C dX3_readPart_38 (by decide) ?_
    refine g_aload_n (pc := 58) C dX3_readPart_58 rfl 0 rfl ?_
    refine g_get (pc := 59) C fl_X3_15 dX3_readPart_59 0 rfl rfl ?_
    refine g_iload_n (pc := 62) C dX3_readPart_62 rfl 1 rfl ?_
    obtain ⟨u7, hu7, h⟩ := bs h
    refine g_callV (pc := 63) (st := []) (st1 := []) (ws' := (W_X3_readPart E o_t r_t_script r_t_law r_t_script r_script_tape r_script_tape a_script_tape r_t_law a_law script_end s6.2.1 s6.2.2.1 s6.2.2.2.1 script_tape_size script_tape_bytes s6.2.2.2.2.1 law_rules s6.2.2.2.2.2.1 u7)) C mv_X2_landJumps mi_X2_landJumps ml_X3_81 (c_X2_landJumps X.2.1 E r_t_law a_law s6.2.2.2.2.1 law_rules s6.2.2.2.2.2.2 s6.1 u7 hu7) dX3_readPart_63 ⟨by omega, by decide⟩ rfl (Nat.le_of_ble_eq_true rfl) 4 2 rfl rfl [4, 6] rfl (by decide) rfl rfl rfl rfl ?_
    cases h
    exact hret _ _ _ dX3_readPart_66 rfl
  · refine g_aload_n (pc := 58) C dX3_readPart_58 rfl 0 rfl ?_
    refine g_get (pc := 59) C fl_X3_15 dX3_readPart_59 0 rfl rfl ?_
    refine g_iload_n (pc := 62) C dX3_readPart_62 rfl 1 rfl ?_
    obtain ⟨u9, hu9, h⟩ := bs h
    refine g_callV (pc := 63) (st := []) (st1 := []) (ws' := (W_X3_readPart E o_t r_t_script r_t_law r_t_script r_script_tape r_script_tape a_script_tape r_t_law a_law script_end s8.2.1 s8.2.2.1 s8.2.2.2.1 script_tape_size script_tape_bytes s8.2.2.2.2.1 law_rules s8.2.2.2.2.2.1 u9)) C mv_X2_landJumps mi_X2_landJumps ml_X3_81 (c_X2_landJumps X.2.1 E r_t_law a_law s8.2.2.2.2.1 law_rules s8.2.2.2.2.2.2 s8.1 u9 hu9) dX3_readPart_63 ⟨by omega, by decide⟩ rfl (Nat.le_of_ble_eq_true rfl) 4 2 rfl rfl [4, 6] rfl (by decide) rfl rfl rfl rfl ?_
    cases h
    exact hret _ _ _ dX3_readPart_66 rfl
abbrev W_X3_readChoice (E : GE) (O_t : Nat) (r_t_script : Nat) (r_t_law : Nat) (O_script : Nat) (r_script_tape : Nat) (O_script_tape : Nat) (a_script_tape : Nat → Nat) (O_law : Nat) (a_law : Nat → Nat) (script_end : Int32) (script_place : Int32) (script_sign : Int32) (script_fault : Int32) (script_tape_size : Int32) (script_tape_bytes : (Nat → Int32)) (law_size : Int32) (law_rules : Int32) (law_signs : (Nat → Int32)) (law_values : (Nat → Int32)) : va_W := [(O_t, ob_X3 r_t_script r_t_law), (O_script, ob_X7 r_script_tape script_end script_place script_sign script_fault), (O_script_tape, ob_X8 a_script_tape script_tape_size), (a_script_tape 0, .inl (E.2.1, 260, .inl script_tape_bytes)), (O_law, ob_X2 a_law law_size law_rules), (a_law 0, .inl (E.2.1, 256, .inl law_signs)), (a_law 1, .inl (E.2.1, 256, .inl law_values))]
def L_X3_readChoice_4 (rt : Int32 → Int32 → Int32 → Int32 → Int32 → (Nat → Int32) → Int32 → (Nat → Int32) → (Nat → Int32) → Int32 → Option (Int32 × Int32 × Int32 × Int32 × (Nat → Int32) × (Nat → Int32))) (script_end : Int32) (script_tape_size : Int32) (script_tape_bytes : (Nat → Int32)) (x1 : Int32) (k0 : Int32 × Int32 × Int32 × Int32 × Int32 × (Nat → Int32) × (Nat → Int32) → Option (Int32 × Int32 × Int32 × Int32 × (Nat → Int32) × (Nat → Int32))) (k1 : Int32 × Int32 × Int32 × Int32 × Int32 × (Nat → Int32) × (Nat → Int32) → Option (Int32 × Int32 × Int32 × Int32 × (Nat → Int32) × (Nat → Int32))) : Nat → Int32 × Int32 × Int32 × Int32 × Int32 × Int32 × (Nat → Int32) × (Nat → Int32) → Option (Int32 × Int32 × Int32 × Int32 × (Nat → Int32) × (Nat → Int32)) := lp fun go s => if (240 : Int32) ≤ s.2.1 then (k1 (s.1, s.2.2.1, s.2.2.2.1, s.2.2.2.2.1, s.2.2.2.2.2.1, s.2.2.2.2.2.2.1, s.2.2.2.2.2.2.2)) else (f_X7_isSound s.2.2.2.2.1).bind fun u1 => if u1 = 0 then (k1 (s.1, s.2.2.1, s.2.2.2.1, s.2.2.2.2.1, s.2.2.2.2.2.1, s.2.2.2.2.2.2.1, s.2.2.2.2.2.2.2)) else (f_X3_readPart rt script_end s.2.2.1 s.2.2.2.1 s.2.2.2.2.1 script_tape_size script_tape_bytes s.2.2.2.2.2.1 s.2.2.2.2.2.2.1 s.2.2.2.2.2.2.2 x1).bind fun u2 => (f_X7_take script_end u2.1 u2.2.1 u2.2.2.1 script_tape_size script_tape_bytes (124 : Int32)).bind fun u3 => if u3.1 = 0 then (k0 (s.1, u3.2.1, u3.2.2, u2.2.2.1, u2.2.2.2.1, u2.2.2.2.2.1, u2.2.2.2.2.2)) else (f_X2_add u2.2.2.2.1 u2.2.2.2.2.1 u2.2.2.2.2.2 (124 : Int32) s.1).bind fun u4 => nm (s.2.1 + (1 : Int32)) fun v5 => go (u4.1, v5, u3.2.1, u3.2.2, u2.2.2.1, u4.2.1, u4.2.2.1, u4.2.2.2)
def f_X3_readChoice (rt : Int32 → Int32 → Int32 → Int32 → Int32 → (Nat → Int32) → Int32 → (Nat → Int32) → (Nat → Int32) → Int32 → Option (Int32 × Int32 × Int32 × Int32 × (Nat → Int32) × (Nat → Int32))) (script_end : Int32) (script_place : Int32) (script_sign : Int32) (script_fault : Int32) (script_tape_size : Int32) (script_tape_bytes : (Nat → Int32)) (law_size : Int32) (law_signs : (Nat → Int32)) (law_values : (Nat → Int32)) (x1 : Int32) : Option (Int32 × Int32 × Int32 × Int32 × (Nat → Int32) × (Nat → Int32)) := L_X3_readChoice_4 rt script_end script_tape_size script_tape_bytes x1 (fun s6 => (f_X2_landJumps s6.2.2.2.2.1 s6.2.2.2.2.2.2 s6.1).bind fun u7 => some (s6.2.1, s6.2.2.1, s6.2.2.2.1, s6.2.2.2.2.1, s6.2.2.2.2.2.1, u7)) (fun s8 => (f_X2_landJumps s8.2.2.2.2.1 s8.2.2.2.2.2.2 s8.1).bind fun u9 => some (s8.2.1, s8.2.2.1, s8.2.2.2.1, s8.2.2.2.2.1, s8.2.2.2.2.2.1, u9)) fu ((-1 : Int32), (0 : Int32), script_place, script_sign, script_fault, law_size, law_signs, law_values)
theorem dX3_readChoice_0 : decode cX3_readChoice 0 = .ok (.iconst (-1), 1) := by decide +kernel
theorem dX3_readChoice_1 : decode cX3_readChoice 1 = .ok (.istore_n 2, 1) := by decide +kernel
theorem dX3_readChoice_2 : decode cX3_readChoice 2 = .ok (.iconst 0, 1) := by decide +kernel
theorem dX3_readChoice_3 : decode cX3_readChoice 3 = .ok (.istore_n 3, 1) := by decide +kernel
theorem dX3_readChoice_4 : decode cX3_readChoice 4 = .ok (.iload_n 3, 1) := by decide +kernel
theorem dX3_readChoice_5 : decode cX3_readChoice 5 = .ok (.sipush 240, 3) := by decide +kernel
theorem dX3_readChoice_8 : decode cX3_readChoice 8 = .ok (.if_icmp .ge 50, 3) := by decide +kernel
theorem dX3_readChoice_11 : decode cX3_readChoice 11 = .ok (.aload_n 0, 1) := by decide +kernel
theorem dX3_readChoice_12 : decode cX3_readChoice 12 = .ok (.getfield 9, 3) := by decide +kernel
theorem dX3_readChoice_15 : decode cX3_readChoice 15 = .ok (.invokevirtual 24, 3) := by decide +kernel
theorem dX3_readChoice_18 : decode cX3_readChoice 18 = .ok (.ifCond .eq 40, 3) := by decide +kernel
theorem dX3_readChoice_21 : decode cX3_readChoice 21 = .ok (.aload_n 0, 1) := by decide +kernel
theorem dX3_readChoice_22 : decode cX3_readChoice 22 = .ok (.iload_n 1, 1) := by decide +kernel
theorem dX3_readChoice_23 : decode cX3_readChoice 23 = .ok (.invokevirtual 70, 3) := by decide +kernel
theorem dX3_readChoice_26 : decode cX3_readChoice 26 = .ok (.aload_n 0, 1) := by decide +kernel
theorem dX3_readChoice_27 : decode cX3_readChoice 27 = .ok (.getfield 9, 3) := by decide +kernel
theorem dX3_readChoice_30 : decode cX3_readChoice 30 = .ok (.bipush 124, 2) := by decide +kernel
theorem dX3_readChoice_32 : decode cX3_readChoice 32 = .ok (.invokevirtual 73, 3) := by decide +kernel
theorem dX3_readChoice_35 : decode cX3_readChoice 35 = .ok (.ifCond .ne 6, 3) := by decide +kernel
theorem dX3_readChoice_38 : decode cX3_readChoice 38 = .ok (.goto 20, 3) := by decide +kernel
theorem dX3_readChoice_41 : decode cX3_readChoice 41 = .ok (.aload_n 0, 1) := by decide +kernel
theorem dX3_readChoice_42 : decode cX3_readChoice 42 = .ok (.getfield 15, 3) := by decide +kernel
theorem dX3_readChoice_45 : decode cX3_readChoice 45 = .ok (.bipush 124, 2) := by decide +kernel
theorem dX3_readChoice_47 : decode cX3_readChoice 47 = .ok (.iload_n 2, 1) := by decide +kernel
theorem dX3_readChoice_48 : decode cX3_readChoice 48 = .ok (.invokevirtual 77, 3) := by decide +kernel
theorem dX3_readChoice_51 : decode cX3_readChoice 51 = .ok (.istore_n 2, 1) := by decide +kernel
theorem dX3_readChoice_52 : decode cX3_readChoice 52 = .ok (.iinc 3 1, 3) := by decide +kernel
theorem dX3_readChoice_55 : decode cX3_readChoice 55 = .ok (.goto (-51), 3) := by decide +kernel
theorem dX3_readChoice_58 : decode cX3_readChoice 58 = .ok (.aload_n 0, 1) := by decide +kernel
theorem dX3_readChoice_59 : decode cX3_readChoice 59 = .ok (.getfield 15, 3) := by decide +kernel
theorem dX3_readChoice_62 : decode cX3_readChoice 62 = .ok (.iload_n 2, 1) := by decide +kernel
theorem dX3_readChoice_63 : decode cX3_readChoice 63 = .ok (.invokevirtual 81, 3) := by decide +kernel
theorem dX3_readChoice_66 : decode cX3_readChoice 66 = .ok (.return_, 1) := by decide +kernel
set_option maxHeartbeats 4000000 in
set_option maxRecDepth 100000 in
theorem kL_X3_readChoice_4 {X : GC} {E : GE} (q : Nat) (hq : 47 ≤ q) (rt : Int32 → Int32 → Int32 → Int32 → Int32 → (Nat → Int32) → Int32 → (Nat → Int32) → (Nat → Int32) → Int32 → Option (Int32 × Int32 × Int32 × Int32 × (Nat → Int32) × (Nat → Int32))) (hrt : ∀ (o_t : Nat) (r_t_script : Nat) (r_t_law : Nat) (r_script_tape : Nat) (a_script_tape : Nat → Nat) (a_law : Nat → Nat) (script_end : Int32) (script_place : Int32) (script_sign : Int32) (script_fault : Int32) (script_tape_size : Int32) (script_tape_bytes : (Nat → Int32)) (law_size : Int32) (law_rules : Int32) (law_signs : (Nat → Int32)) (law_values : (Nat → Int32)) (x1 : Int32) (r : Int32 × Int32 × Int32 × Int32 × (Nat → Int32) × (Nat → Int32)), rt script_end script_place script_sign script_fault script_tape_size script_tape_bytes law_size law_signs law_values x1 = some r → Cn X.2.1 E yX3_readTest cX3_readTest 3 none q 0 0 [.ref o_t, .int x1] (W_X3_readTest E o_t r_t_script r_t_law r_t_script r_script_tape r_script_tape a_script_tape r_t_law a_law script_end script_place script_sign script_fault script_tape_size script_tape_bytes law_size law_rules law_signs law_values) (fun w => w = (W_X3_readTest E o_t r_t_script r_t_law r_t_script r_script_tape r_script_tape a_script_tape r_t_law a_law script_end r.1 r.2.1 r.2.2.1 script_tape_size script_tape_bytes r.2.2.2.1 law_rules r.2.2.2.2.1 r.2.2.2.2.2)) none) (C : Cx X E cX3_readChoice RX3 (q + 2) 4) (o_t : Nat) (r_t_script : Nat) (r_t_law : Nat) (r_script_tape : Nat) (a_script_tape : Nat → Nat) (a_law : Nat → Nat) (law_rules : Int32) (script_end : Int32) (script_tape_size : Int32) (script_tape_bytes : (Nat → Int32)) (x1 : Int32) (k0 : Int32 × Int32 × Int32 × Int32 × Int32 × (Nat → Int32) × (Nat → Int32) → Option (Int32 × Int32 × Int32 × Int32 × (Nat → Int32) × (Nat → Int32))) (k1 : Int32 × Int32 × Int32 × Int32 × Int32 × (Nat → Int32) × (Nat → Int32) → Option (Int32 × Int32 × Int32 × Int32 × (Nat → Int32) × (Nat → Int32))) {r : Int32 × Int32 × Int32 × Int32 × (Nat → Int32) × (Nat → Int32)} (hret : RtV X E cX3_readChoice 0 0 (fun w => w = (W_X3_readChoice E o_t r_t_script r_t_law r_t_script r_script_tape r_script_tape a_script_tape r_t_law a_law script_end r.1 r.2.1 r.2.2.1 script_tape_size script_tape_bytes r.2.2.2.1 law_rules r.2.2.2.2.1 r.2.2.2.2.2))) (hk0 : ∀ u, k0 u = some r → Gx X E 0 0 (W_X3_readChoice E o_t r_t_script r_t_law r_t_script r_script_tape r_script_tape a_script_tape r_t_law a_law script_end u.2.1 u.2.2.1 u.2.2.2.1 script_tape_size script_tape_bytes u.2.2.2.2.1 law_rules u.2.2.2.2.2.1 u.2.2.2.2.2.2) 38 [(0, .ref o_t), (2, .int u.1)] []) (hk1 : ∀ u, k1 u = some r → Gx X E 0 0 (W_X3_readChoice E o_t r_t_script r_t_law r_t_script r_script_tape r_script_tape a_script_tape r_t_law a_law script_end u.2.1 u.2.2.1 u.2.2.2.1 script_tape_size script_tape_bytes u.2.2.2.2.1 law_rules u.2.2.2.2.2.1 u.2.2.2.2.2.2) 58 [(0, .ref o_t), (2, .int u.1)] []) : ∀ (n : Nat) (s : Int32 × Int32 × Int32 × Int32 × Int32 × Int32 × (Nat → Int32) × (Nat → Int32)), L_X3_readChoice_4 rt script_end script_tape_size script_tape_bytes x1 k0 k1 n s = some r → Gx X E 0 0 (W_X3_readChoice E o_t r_t_script r_t_law r_t_script r_script_tape r_script_tape a_script_tape r_t_law a_law script_end s.2.2.1 s.2.2.2.1 s.2.2.2.2.1 script_tape_size script_tape_bytes s.2.2.2.2.2.1 law_rules s.2.2.2.2.2.2.1 s.2.2.2.2.2.2.2) 4 [(0, .ref o_t), (1, .int x1), (2, .int s.1), (3, .int s.2.1)] [] := by
  unfold L_X3_readChoice_4
  refine lp_ind _ (fun go ih s h => ?_)
  refine g_iload_n (pc := 4) C dX3_readChoice_4 rfl 3 rfl ?_
  refine g_sipush (pc := 5) (v := 240) C dX3_readChoice_5 (by decide) ?_
  refine g_icmp_ge (pc := 8) (tgt := 58) C dX3_readChoice_8 (by decide) h (fun h => ?_) (fun h => ?_)
  · refine g_sub [0, 2] rfl ?_
    exact hk1 _ h
  · refine g_aload_n (pc := 11) C dX3_readChoice_11 rfl 0 rfl ?_
    refine g_get (pc := 12) C fl_X3_9 dX3_readChoice_12 0 rfl rfl ?_
    obtain ⟨u1, hu1, h⟩ := bs h
    refine g_callV (pc := 15) (st := []) (st1 := [.int u1]) (ws' := (W_X3_readChoice E o_t r_t_script r_t_law r_t_script r_script_tape r_script_tape a_script_tape r_t_law a_law script_end s.2.2.1 s.2.2.2.1 s.2.2.2.2.1 script_tape_size script_tape_bytes s.2.2.2.2.2.1 law_rules s.2.2.2.2.2.2.1 s.2.2.2.2.2.2.2)) C mv_X7_isSound mi_X7_isSound ml_X3_24 (c_X7_isSound X.2.1 E r_t_script r_script_tape script_end s.2.2.1 s.2.2.2.1 s.2.2.2.2.1 u1 hu1) dX3_readChoice_15 ⟨by omega, by decide⟩ rfl (Nat.le_of_ble_eq_true rfl) 1 6 rfl rfl [1] rfl (by decide) rfl rfl rfl rfl ?_
    refine g_if_eq (pc := 18) (tgt := 58) C dX3_readChoice_18 (by decide) h (fun h => ?_) (fun h => ?_)
    · refine g_sub [0, 2] rfl ?_
      exact hk1 _ h
    · refine g_aload_n (pc := 21) C dX3_readChoice_21 rfl 0 rfl ?_
      refine g_iload_n (pc := 22) C dX3_readChoice_22 rfl 1 rfl ?_
      obtain ⟨u2, hu2, h⟩ := bs h
      refine g_callV (pc := 23) (st := []) (st1 := []) (ws' := (W_X3_readChoice E o_t r_t_script r_t_law r_t_script r_script_tape r_script_tape a_script_tape r_t_law a_law script_end u2.1 u2.2.1 u2.2.2.1 script_tape_size script_tape_bytes u2.2.2.2.1 law_rules u2.2.2.2.2.1 u2.2.2.2.2.2)) C mv_X3_readPart mi_X3_readPart ml_X3_70 (c_X3_readPart X.2.1 E q hq rt hrt o_t r_t_script r_t_law r_script_tape a_script_tape a_law script_end s.2.2.1 s.2.2.2.1 s.2.2.2.2.1 script_tape_size script_tape_bytes s.2.2.2.2.2.1 law_rules s.2.2.2.2.2.2.1 s.2.2.2.2.2.2.2 x1 u2 hu2) dX3_readChoice_23 ⟨by omega, by decide⟩ rfl (Nat.le_of_ble_eq_true rfl) 0 3 rfl rfl [0, 1, 2, 3, 4, 5, 6] rfl (by decide) rfl rfl rfl rfl ?_
      refine g_aload_n (pc := 26) C dX3_readChoice_26 rfl 0 rfl ?_
      refine g_get (pc := 27) C fl_X3_9 dX3_readChoice_27 0 rfl rfl ?_
      refine g_bipush (pc := 30) (v := 124) C dX3_readChoice_30 (by decide) ?_
      obtain ⟨u3, hu3, h⟩ := bs h
      refine g_callV (pc := 32) (st := []) (st1 := [.int u3.1]) (ws' := (W_X3_readChoice E o_t r_t_script r_t_law r_t_script r_script_tape r_script_tape a_script_tape r_t_law a_law script_end u3.2.1 u3.2.2 u2.2.2.1 script_tape_size script_tape_bytes u2.2.2.2.1 law_rules u2.2.2.2.2.1 u2.2.2.2.2.2)) C mv_X7_take mi_X7_take ml_X3_73 (c_X7_take X.2.1 E r_t_script r_script_tape a_script_tape script_end u2.1 u2.2.1 u2.2.2.1 script_tape_size script_tape_bytes (124 : Int32) u3 hu3) dX3_readChoice_32 ⟨by omega, by decide⟩ rfl (Nat.le_of_ble_eq_true rfl) 1 6 rfl rfl [1, 2, 3] rfl (by decide) rfl rfl rfl rfl ?_
      refine g_if_ne (pc := 35) (tgt := 41) C dX3_readChoice_35 (by decide) h (fun h => ?_) (fun h => ?_)
      · refine g_aload_n (pc := 41) C dX3_readChoice_41 rfl 0 rfl ?_
        refine g_get (pc := 42) C fl_X3_15 dX3_readChoice_42 0 rfl rfl ?_
        refine g_bipush (pc := 45) (v := 124) C dX3_readChoice_45 (by decide) ?_
        refine g_iload_n (pc := 47) C dX3_readChoice_47 rfl 2 rfl ?_
        obtain ⟨u4, hu4, h⟩ := bs h
        refine g_callV (pc := 48) (st := []) (st1 := [.int u4.1]) (ws' := (W_X3_readChoice E o_t r_t_script r_t_law r_t_script r_script_tape r_script_tape a_script_tape r_t_law a_law script_end u3.2.1 u3.2.2 u2.2.2.1 script_tape_size script_tape_bytes u4.2.1 law_rules u4.2.2.1 u4.2.2.2)) C mv_X2_add mi_X2_add ml_X3_77 (c_X2_add X.2.1 E r_t_law a_law u2.2.2.2.1 law_rules u2.2.2.2.2.1 u2.2.2.2.2.2 (124 : Int32) s.1 u4 hu4) dX3_readChoice_48 ⟨by omega, by decide⟩ rfl (Nat.le_of_ble_eq_true rfl) 4 2 rfl rfl [4, 5, 6] rfl (by decide) rfl rfl rfl rfl ?_
        refine g_istore_n (pc := 51) (lv' := [(2, .int u4.1), (0, .ref o_t), (1, .int x1), (3, .int s.2.1)]) C dX3_readChoice_51 rfl (by decide) rfl ?_
        refine g_iincn (pc := 52) (j := 3) (d := 1) (lv' := fun v5 => [(3, .int v5), (2, .int u4.1), (0, .ref o_t), (1, .int x1)]) C dX3_readChoice_52 rfl (by decide) (by decide) (fun _ => rfl) h (fun v5 h => ?_)
        refine g_goto (pc := 55) (tgt := 4) C dX3_readChoice_55 (by decide) ?_
        refine g_sub [2, 3, 1, 0] rfl ?_
        exact ih _ h
      · refine g_sub [0, 2] rfl ?_
        exact hk0 _ h
set_option maxHeartbeats 4000000 in
set_option maxRecDepth 100000 in
theorem c_X3_readChoice (l : Launch) (E : GE) (q : Nat) (hq : 47 ≤ q) (rt : Int32 → Int32 → Int32 → Int32 → Int32 → (Nat → Int32) → Int32 → (Nat → Int32) → (Nat → Int32) → Int32 → Option (Int32 × Int32 × Int32 × Int32 × (Nat → Int32) × (Nat → Int32))) (hrt : ∀ (o_t : Nat) (r_t_script : Nat) (r_t_law : Nat) (r_script_tape : Nat) (a_script_tape : Nat → Nat) (a_law : Nat → Nat) (script_end : Int32) (script_place : Int32) (script_sign : Int32) (script_fault : Int32) (script_tape_size : Int32) (script_tape_bytes : (Nat → Int32)) (law_size : Int32) (law_rules : Int32) (law_signs : (Nat → Int32)) (law_values : (Nat → Int32)) (x1 : Int32) (r : Int32 × Int32 × Int32 × Int32 × (Nat → Int32) × (Nat → Int32)), rt script_end script_place script_sign script_fault script_tape_size script_tape_bytes law_size law_signs law_values x1 = some r → Cn l E yX3_readTest cX3_readTest 3 none q 0 0 [.ref o_t, .int x1] (W_X3_readTest E o_t r_t_script r_t_law r_t_script r_script_tape r_script_tape a_script_tape r_t_law a_law script_end script_place script_sign script_fault script_tape_size script_tape_bytes law_size law_rules law_signs law_values) (fun w => w = (W_X3_readTest E o_t r_t_script r_t_law r_t_script r_script_tape r_script_tape a_script_tape r_t_law a_law script_end r.1 r.2.1 r.2.2.1 script_tape_size script_tape_bytes r.2.2.2.1 law_rules r.2.2.2.2.1 r.2.2.2.2.2)) none) (o_t : Nat) (r_t_script : Nat) (r_t_law : Nat) (r_script_tape : Nat) (a_script_tape : Nat → Nat) (a_law : Nat → Nat) (script_end : Int32) (script_place : Int32) (script_sign : Int32) (script_fault : Int32) (script_tape_size : Int32) (script_tape_bytes : (Nat → Int32)) (law_size : Int32) (law_rules : Int32) (law_signs : (Nat → Int32)) (law_values : (Nat → Int32)) (x1 : Int32) (r : Int32 × Int32 × Int32 × Int32 × (Nat → Int32) × (Nat → Int32)) (h : f_X3_readChoice rt script_end script_place script_sign script_fault script_tape_size script_tape_bytes law_size law_signs law_values x1 = some r) : Cn l E yX3_readChoice cX3_readChoice 4 none (q + 2) 0 0 [.ref o_t, .int x1] (W_X3_readChoice E o_t r_t_script r_t_law r_t_script r_script_tape r_script_tape a_script_tape r_t_law a_law script_end script_place script_sign script_fault script_tape_size script_tape_bytes law_size law_rules law_signs law_values) (fun w => w = (W_X3_readChoice E o_t r_t_script r_t_law r_t_script r_script_tape r_script_tape a_script_tape r_t_law a_law script_end r.1 r.2.1 r.2.2.1 script_tape_size script_tape_bytes r.2.2.2.1 law_rules r.2.2.2.2.1 r.2.2.2.2.2)) none := by
  refine Cn.ofV (by decide +kernel) (Nat.le_of_ble_eq_true rfl) (fun X hX hR C hret => ?_)
  subst hX
  show Gx X E 0 0 (W_X3_readChoice E o_t r_t_script r_t_law r_t_script r_script_tape r_script_tape a_script_tape r_t_law a_law script_end script_place script_sign script_fault script_tape_size script_tape_bytes law_size law_rules law_signs law_values) 0 [(0, .ref o_t), (1, .int x1)] []
  unfold f_X3_readChoice at h
  refine g_iconst (pc := 0) (v := -1) C dX3_readChoice_0 (by decide) ?_
  refine g_istore_n (pc := 1) (lv' := [(2, .int (-1 : Int32)), (0, .ref o_t), (1, .int x1)]) C dX3_readChoice_1 rfl (by decide) rfl ?_
  refine g_iconst (pc := 2) (v := 0) C dX3_readChoice_2 (by decide) ?_
  refine g_istore_n (pc := 3) (lv' := [(3, .int (0 : Int32)), (2, .int (-1 : Int32)), (0, .ref o_t), (1, .int x1)]) C dX3_readChoice_3 rfl (by decide) rfl ?_
  refine g_sub [2, 3, 1, 0] rfl ?_
  refine kL_X3_readChoice_4 q hq rt hrt C o_t r_t_script r_t_law r_script_tape a_script_tape a_law law_rules script_end script_tape_size script_tape_bytes x1 _ _ hret (fun s6 h => ?_) (fun s8 h => ?_) _ _ h
  · refine g_goto (pc := 38) (tgt := 58) C dX3_readChoice_38 (by decide) ?_
    refine g_aload_n (pc := 58) C dX3_readChoice_58 rfl 0 rfl ?_
    refine g_get (pc := 59) C fl_X3_15 dX3_readChoice_59 0 rfl rfl ?_
    refine g_iload_n (pc := 62) C dX3_readChoice_62 rfl 1 rfl ?_
    obtain ⟨u7, hu7, h⟩ := bs h
    refine g_callV (pc := 63) (st := []) (st1 := []) (ws' := (W_X3_readChoice E o_t r_t_script r_t_law r_t_script r_script_tape r_script_tape a_script_tape r_t_law a_law script_end s6.2.1 s6.2.2.1 s6.2.2.2.1 script_tape_size script_tape_bytes s6.2.2.2.2.1 law_rules s6.2.2.2.2.2.1 u7)) C mv_X2_landJumps mi_X2_landJumps ml_X3_81 (c_X2_landJumps X.2.1 E r_t_law a_law s6.2.2.2.2.1 law_rules s6.2.2.2.2.2.2 s6.1 u7 hu7) dX3_readChoice_63 ⟨by omega, by decide⟩ rfl (Nat.le_of_ble_eq_true rfl) 4 2 rfl rfl [4, 6] rfl (by decide) rfl rfl rfl rfl ?_
    cases h
    exact hret _ _ _ dX3_readChoice_66 rfl
  · refine g_aload_n (pc := 58) C dX3_readChoice_58 rfl 0 rfl ?_
    refine g_get (pc := 59) C fl_X3_15 dX3_readChoice_59 0 rfl rfl ?_
    refine g_iload_n (pc := 62) C dX3_readChoice_62 rfl 1 rfl ?_
    obtain ⟨u9, hu9, h⟩ := bs h
    refine g_callV (pc := 63) (st := []) (st1 := []) (ws' := (W_X3_readChoice E o_t r_t_script r_t_law r_t_script r_script_tape r_script_tape a_script_tape r_t_law a_law script_end s8.2.1 s8.2.2.1 s8.2.2.2.1 script_tape_size script_tape_bytes s8.2.2.2.2.1 law_rules s8.2.2.2.2.2.1 u9)) C mv_X2_landJumps mi_X2_landJumps ml_X3_81 (c_X2_landJumps X.2.1 E r_t_law a_law s8.2.2.2.2.1 law_rules s8.2.2.2.2.2.2 s8.1 u9 hu9) dX3_readChoice_63 ⟨by omega, by decide⟩ rfl (Nat.le_of_ble_eq_true rfl) 4 2 rfl rfl [4, 6] rfl (by decide) rfl rfl rfl rfl ?_
    cases h
    exact hret _ _ _ dX3_readChoice_66 rfl
def F_X3_readTest (rt : Int32 → Int32 → Int32 → Int32 → Int32 → (Nat → Int32) → Int32 → (Nat → Int32) → (Nat → Int32) → Int32 → Option (Int32 × Int32 × Int32 × Int32 × (Nat → Int32) × (Nat → Int32))) (script_end : Int32) (script_place : Int32) (script_sign : Int32) (script_fault : Int32) (script_tape_size : Int32) (script_tape_bytes : (Nat → Int32)) (law_size : Int32) (law_signs : (Nat → Int32)) (law_values : (Nat → Int32)) (x1 : Int32) : Option (Int32 × Int32 × Int32 × Int32 × (Nat → Int32) × (Nat → Int32)) := if script_sign = (33 : Int32) then ((f_X3_mayOpen script_end script_place script_sign script_fault script_tape_size script_tape_bytes x1).bind fun u11 => if u11.1 = 0 then (some (u11.2.1, u11.2.2.1, u11.2.2.2, law_size, law_signs, law_values)) else (rt script_end u11.2.1 u11.2.2.1 u11.2.2.2 script_tape_size script_tape_bytes law_size law_signs law_values (x1 + (1 : Int32))).bind fun u12 => (f_X2_add u12.2.2.2.1 u12.2.2.2.2.1 u12.2.2.2.2.2 (33 : Int32) (0 : Int32)).bind fun u13 => some (u12.1, u12.2.1, u12.2.2.1, u13.2.1, u13.2.2.1, u13.2.2.2)) else if script_sign = (40 : Int32) then ((f_X3_mayOpen script_end script_place script_sign script_fault script_tape_size script_tape_bytes x1).bind fun u8 => if u8.1 = 0 then (some (u8.2.1, u8.2.2.1, u8.2.2.2, law_size, law_signs, law_values)) else (f_X3_readChoice rt script_end u8.2.1 u8.2.2.1 u8.2.2.2 script_tape_size script_tape_bytes law_size law_signs law_values (x1 + (1 : Int32))).bind fun u9 => (f_X7_want script_end u9.1 u9.2.1 u9.2.2.1 script_tape_size script_tape_bytes (41 : Int32)).bind fun u10 => some (u10.1, u10.2.1, u10.2.2, u9.2.2.2.1, u9.2.2.2.2.1, u9.2.2.2.2.2)) else (f_X3_readSum 8 script_end script_place script_sign script_fault script_tape_size script_tape_bytes law_size law_signs law_values x1).bind fun u1 => jn (fun s2 : Int32 => (f_X7_isSound s2).bind fun u3 => if u3 = 0 then (some (u1.1, u1.2.1, s2, u1.2.2.2.1, u1.2.2.2.2.1, u1.2.2.2.2.2)) else (f_X7_step script_end u1.1 u1.2.1 script_tape_size script_tape_bytes).bind fun u4 => (f_X3_readSum 8 script_end u4.1 u4.2 s2 script_tape_size script_tape_bytes u1.2.2.2.1 u1.2.2.2.2.1 u1.2.2.2.2.2 x1).bind fun u5 => (f_X2_add u5.2.2.2.1 u5.2.2.2.2.1 u5.2.2.2.2.2 u1.2.1 (0 : Int32)).bind fun u6 => some (u5.1, u5.2.1, u5.2.2.1, u6.2.1, u6.2.2.1, u6.2.2.2)) fun j126 => if u1.2.1 = (60 : Int32) then (j126 u1.2.2.1) else if u1.2.1 = (62 : Int32) then (j126 u1.2.2.1) else if u1.2.1 = (61 : Int32) then (j126 u1.2.2.1) else (f_X7_fail u1.2.2.1 (1 : Int32) u1.1).bind fun u7 => j126 u7
theorem dX3_readTest_0 : decode cX3_readTest 0 = .ok (.aload_n 0, 1) := by decide +kernel
theorem dX3_readTest_1 : decode cX3_readTest 1 = .ok (.getfield 9, 3) := by decide +kernel
theorem dX3_readTest_4 : decode cX3_readTest 4 = .ok (.getfield 40, 3) := by decide +kernel
theorem dX3_readTest_7 : decode cX3_readTest 7 = .ok (.bipush 33, 2) := by decide +kernel
theorem dX3_readTest_9 : decode cX3_readTest 9 = .ok (.if_icmp .ne 32, 3) := by decide +kernel
theorem dX3_readTest_12 : decode cX3_readTest 12 = .ok (.aload_n 0, 1) := by decide +kernel
theorem dX3_readTest_13 : decode cX3_readTest 13 = .ok (.iload_n 1, 1) := by decide +kernel
theorem dX3_readTest_14 : decode cX3_readTest 14 = .ok (.invokevirtual 87, 3) := by decide +kernel
theorem dX3_readTest_17 : decode cX3_readTest 17 = .ok (.ifCond .eq 141, 3) := by decide +kernel
theorem dX3_readTest_20 : decode cX3_readTest 20 = .ok (.aload_n 0, 1) := by decide +kernel
theorem dX3_readTest_21 : decode cX3_readTest 21 = .ok (.iload_n 1, 1) := by decide +kernel
theorem dX3_readTest_22 : decode cX3_readTest 22 = .ok (.iconst 1, 1) := by decide +kernel
theorem dX3_readTest_23 : decode cX3_readTest 23 = .ok (.iadd, 1) := by decide +kernel
theorem dX3_readTest_24 : decode cX3_readTest 24 = .ok (.invokevirtual 84, 3) := by decide +kernel
theorem dX3_readTest_27 : decode cX3_readTest 27 = .ok (.aload_n 0, 1) := by decide +kernel
theorem dX3_readTest_28 : decode cX3_readTest 28 = .ok (.getfield 15, 3) := by decide +kernel
theorem dX3_readTest_31 : decode cX3_readTest 31 = .ok (.bipush 33, 2) := by decide +kernel
theorem dX3_readTest_33 : decode cX3_readTest 33 = .ok (.iconst 0, 1) := by decide +kernel
theorem dX3_readTest_34 : decode cX3_readTest 34 = .ok (.invokevirtual 77, 3) := by decide +kernel
theorem dX3_readTest_37 : decode cX3_readTest 37 = .ok (.pop, 1) := by decide +kernel
theorem dX3_readTest_38 : decode cX3_readTest 38 = .ok (.goto 120, 3) := by decide +kernel
theorem dX3_readTest_41 : decode cX3_readTest 41 = .ok (.aload_n 0, 1) := by decide +kernel
theorem dX3_readTest_42 : decode cX3_readTest 42 = .ok (.getfield 9, 3) := by decide +kernel
theorem dX3_readTest_45 : decode cX3_readTest 45 = .ok (.getfield 40, 3) := by decide +kernel
theorem dX3_readTest_48 : decode cX3_readTest 48 = .ok (.bipush 40, 2) := by decide +kernel
theorem dX3_readTest_50 : decode cX3_readTest 50 = .ok (.if_icmp .ne 30, 3) := by decide +kernel
theorem dX3_readTest_53 : decode cX3_readTest 53 = .ok (.aload_n 0, 1) := by decide +kernel
theorem dX3_readTest_54 : decode cX3_readTest 54 = .ok (.iload_n 1, 1) := by decide +kernel
theorem dX3_readTest_55 : decode cX3_readTest 55 = .ok (.invokevirtual 87, 3) := by decide +kernel
theorem dX3_readTest_58 : decode cX3_readTest 58 = .ok (.ifCond .eq 100, 3) := by decide +kernel
theorem dX3_readTest_61 : decode cX3_readTest 61 = .ok (.aload_n 0, 1) := by decide +kernel
theorem dX3_readTest_62 : decode cX3_readTest 62 = .ok (.iload_n 1, 1) := by decide +kernel
theorem dX3_readTest_63 : decode cX3_readTest 63 = .ok (.iconst 1, 1) := by decide +kernel
theorem dX3_readTest_64 : decode cX3_readTest 64 = .ok (.iadd, 1) := by decide +kernel
theorem dX3_readTest_65 : decode cX3_readTest 65 = .ok (.invokevirtual 63, 3) := by decide +kernel
theorem dX3_readTest_68 : decode cX3_readTest 68 = .ok (.aload_n 0, 1) := by decide +kernel
theorem dX3_readTest_69 : decode cX3_readTest 69 = .ok (.getfield 9, 3) := by decide +kernel
theorem dX3_readTest_72 : decode cX3_readTest 72 = .ok (.bipush 41, 2) := by decide +kernel
theorem dX3_readTest_74 : decode cX3_readTest 74 = .ok (.invokevirtual 36, 3) := by decide +kernel
theorem dX3_readTest_77 : decode cX3_readTest 77 = .ok (.goto 81, 3) := by decide +kernel
theorem dX3_readTest_80 : decode cX3_readTest 80 = .ok (.aload_n 0, 1) := by decide +kernel
theorem dX3_readTest_81 : decode cX3_readTest 81 = .ok (.iload_n 1, 1) := by decide +kernel
theorem dX3_readTest_82 : decode cX3_readTest 82 = .ok (.invokevirtual 60, 3) := by decide +kernel
theorem dX3_readTest_85 : decode cX3_readTest 85 = .ok (.aload_n 0, 1) := by decide +kernel
theorem dX3_readTest_86 : decode cX3_readTest 86 = .ok (.getfield 9, 3) := by decide +kernel
theorem dX3_readTest_89 : decode cX3_readTest 89 = .ok (.getfield 40, 3) := by decide +kernel
theorem dX3_readTest_92 : decode cX3_readTest 92 = .ok (.istore_n 2, 1) := by decide +kernel
theorem dX3_readTest_93 : decode cX3_readTest 93 = .ok (.iload_n 2, 1) := by decide +kernel
theorem dX3_readTest_94 : decode cX3_readTest 94 = .ok (.bipush 60, 2) := by decide +kernel
theorem dX3_readTest_96 : decode cX3_readTest 96 = .ok (.if_icmp .eq 30, 3) := by decide +kernel
theorem dX3_readTest_99 : decode cX3_readTest 99 = .ok (.iload_n 2, 1) := by decide +kernel
theorem dX3_readTest_100 : decode cX3_readTest 100 = .ok (.bipush 62, 2) := by decide +kernel
theorem dX3_readTest_102 : decode cX3_readTest 102 = .ok (.if_icmp .eq 24, 3) := by decide +kernel
theorem dX3_readTest_105 : decode cX3_readTest 105 = .ok (.iload_n 2, 1) := by decide +kernel
theorem dX3_readTest_106 : decode cX3_readTest 106 = .ok (.bipush 61, 2) := by decide +kernel
theorem dX3_readTest_108 : decode cX3_readTest 108 = .ok (.if_icmp .eq 18, 3) := by decide +kernel
theorem dX3_readTest_111 : decode cX3_readTest 111 = .ok (.aload_n 0, 1) := by decide +kernel
theorem dX3_readTest_112 : decode cX3_readTest 112 = .ok (.getfield 9, 3) := by decide +kernel
theorem dX3_readTest_115 : decode cX3_readTest 115 = .ok (.iconst 1, 1) := by decide +kernel
theorem dX3_readTest_116 : decode cX3_readTest 116 = .ok (.aload_n 0, 1) := by decide +kernel
theorem dX3_readTest_117 : decode cX3_readTest 117 = .ok (.getfield 9, 3) := by decide +kernel
theorem dX3_readTest_120 : decode cX3_readTest 120 = .ok (.getfield 44, 3) := by decide +kernel
theorem dX3_readTest_123 : decode cX3_readTest 123 = .ok (.invokevirtual 47, 3) := by decide +kernel
theorem dX3_readTest_126 : decode cX3_readTest 126 = .ok (.aload_n 0, 1) := by decide +kernel
theorem dX3_readTest_127 : decode cX3_readTest 127 = .ok (.getfield 9, 3) := by decide +kernel
theorem dX3_readTest_130 : decode cX3_readTest 130 = .ok (.invokevirtual 24, 3) := by decide +kernel
theorem dX3_readTest_133 : decode cX3_readTest 133 = .ok (.ifCond .eq 25, 3) := by decide +kernel
theorem dX3_readTest_136 : decode cX3_readTest 136 = .ok (.aload_n 0, 1) := by decide +kernel
theorem dX3_readTest_137 : decode cX3_readTest 137 = .ok (.getfield 9, 3) := by decide +kernel
theorem dX3_readTest_140 : decode cX3_readTest 140 = .ok (.invokevirtual 54, 3) := by decide +kernel
theorem dX3_readTest_143 : decode cX3_readTest 143 = .ok (.aload_n 0, 1) := by decide +kernel
theorem dX3_readTest_144 : decode cX3_readTest 144 = .ok (.iload_n 1, 1) := by decide +kernel
theorem dX3_readTest_145 : decode cX3_readTest 145 = .ok (.invokevirtual 60, 3) := by decide +kernel
theorem dX3_readTest_148 : decode cX3_readTest 148 = .ok (.aload_n 0, 1) := by decide +kernel
theorem dX3_readTest_149 : decode cX3_readTest 149 = .ok (.getfield 15, 3) := by decide +kernel
theorem dX3_readTest_152 : decode cX3_readTest 152 = .ok (.iload_n 2, 1) := by decide +kernel
theorem dX3_readTest_153 : decode cX3_readTest 153 = .ok (.iconst 0, 1) := by decide +kernel
theorem dX3_readTest_154 : decode cX3_readTest 154 = .ok (.invokevirtual 77, 3) := by decide +kernel
theorem dX3_readTest_157 : decode cX3_readTest 157 = .ok (.pop, 1) := by decide +kernel
theorem dX3_readTest_158 : decode cX3_readTest 158 = .ok (.return_, 1) := by decide +kernel
set_option maxHeartbeats 4000000 in
set_option maxRecDepth 100000 in
theorem C_X3_readTest (l : Launch) (E : GE) (q : Nat) (hq : 47 ≤ q) (rt : Int32 → Int32 → Int32 → Int32 → Int32 → (Nat → Int32) → Int32 → (Nat → Int32) → (Nat → Int32) → Int32 → Option (Int32 × Int32 × Int32 × Int32 × (Nat → Int32) × (Nat → Int32))) (hrt : ∀ (o_t : Nat) (r_t_script : Nat) (r_t_law : Nat) (r_script_tape : Nat) (a_script_tape : Nat → Nat) (a_law : Nat → Nat) (script_end : Int32) (script_place : Int32) (script_sign : Int32) (script_fault : Int32) (script_tape_size : Int32) (script_tape_bytes : (Nat → Int32)) (law_size : Int32) (law_rules : Int32) (law_signs : (Nat → Int32)) (law_values : (Nat → Int32)) (x1 : Int32) (r : Int32 × Int32 × Int32 × Int32 × (Nat → Int32) × (Nat → Int32)), rt script_end script_place script_sign script_fault script_tape_size script_tape_bytes law_size law_signs law_values x1 = some r → Cn l E yX3_readTest cX3_readTest 3 none q 0 0 [.ref o_t, .int x1] (W_X3_readTest E o_t r_t_script r_t_law r_t_script r_script_tape r_script_tape a_script_tape r_t_law a_law script_end script_place script_sign script_fault script_tape_size script_tape_bytes law_size law_rules law_signs law_values) (fun w => w = (W_X3_readTest E o_t r_t_script r_t_law r_t_script r_script_tape r_script_tape a_script_tape r_t_law a_law script_end r.1 r.2.1 r.2.2.1 script_tape_size script_tape_bytes r.2.2.2.1 law_rules r.2.2.2.2.1 r.2.2.2.2.2)) none) (o_t : Nat) (r_t_script : Nat) (r_t_law : Nat) (r_script_tape : Nat) (a_script_tape : Nat → Nat) (a_law : Nat → Nat) (script_end : Int32) (script_place : Int32) (script_sign : Int32) (script_fault : Int32) (script_tape_size : Int32) (script_tape_bytes : (Nat → Int32)) (law_size : Int32) (law_rules : Int32) (law_signs : (Nat → Int32)) (law_values : (Nat → Int32)) (x1 : Int32) (r : Int32 × Int32 × Int32 × Int32 × (Nat → Int32) × (Nat → Int32)) (h : F_X3_readTest rt script_end script_place script_sign script_fault script_tape_size script_tape_bytes law_size law_signs law_values x1 = some r) : Cn l E yX3_readTest cX3_readTest 3 none (q + 3) 0 0 [.ref o_t, .int x1] (W_X3_readTest E o_t r_t_script r_t_law r_t_script r_script_tape r_script_tape a_script_tape r_t_law a_law script_end script_place script_sign script_fault script_tape_size script_tape_bytes law_size law_rules law_signs law_values) (fun w => w = (W_X3_readTest E o_t r_t_script r_t_law r_t_script r_script_tape r_script_tape a_script_tape r_t_law a_law script_end r.1 r.2.1 r.2.2.1 script_tape_size script_tape_bytes r.2.2.2.1 law_rules r.2.2.2.2.1 r.2.2.2.2.2)) none := by
  refine Cn.ofV (by decide +kernel) (Nat.le_of_ble_eq_true rfl) (fun X hX hR C hret => ?_)
  subst hX
  show Gx X E 0 0 (W_X3_readTest E o_t r_t_script r_t_law r_t_script r_script_tape r_script_tape a_script_tape r_t_law a_law script_end script_place script_sign script_fault script_tape_size script_tape_bytes law_size law_rules law_signs law_values) 0 [(0, .ref o_t), (1, .int x1)] []
  unfold F_X3_readTest at h
  refine g_aload_n (pc := 0) C dX3_readTest_0 rfl 0 rfl ?_
  refine g_get (pc := 1) C fl_X3_9 dX3_readTest_1 0 rfl rfl ?_
  refine g_get (pc := 4) C fl_X3_40 dX3_readTest_4 1 rfl rfl ?_
  refine g_bipush (pc := 7) (v := 33) C dX3_readTest_7 (by decide) ?_
  refine g_icmp_ne (pc := 9) (tgt := 41) C dX3_readTest_9 (by decide) h (fun h => ?_) (fun h => ?_)
  · refine g_aload_n (pc := 41) C dX3_readTest_41 rfl 0 rfl ?_
    refine g_get (pc := 42) C fl_X3_9 dX3_readTest_42 0 rfl rfl ?_
    refine g_get (pc := 45) C fl_X3_40 dX3_readTest_45 1 rfl rfl ?_
    refine g_bipush (pc := 48) (v := 40) C dX3_readTest_48 (by decide) ?_
    refine g_icmp_ne (pc := 50) (tgt := 80) C dX3_readTest_50 (by decide) h (fun h => ?_) (fun h => ?_)
    · refine g_aload_n (pc := 80) C dX3_readTest_80 rfl 0 rfl ?_
      refine g_iload_n (pc := 81) C dX3_readTest_81 rfl 1 rfl ?_
      obtain ⟨u1, hu1, h⟩ := bs h
      refine g_callV (pc := 82) (st := []) (st1 := []) (ws' := (W_X3_readTest E o_t r_t_script r_t_law r_t_script r_script_tape r_script_tape a_script_tape r_t_law a_law script_end u1.1 u1.2.1 u1.2.2.1 script_tape_size script_tape_bytes u1.2.2.2.1 law_rules u1.2.2.2.2.1 u1.2.2.2.2.2)) C mv_X3_readSum mi_X3_readSum ml_X3_60 (c_X3_readSum X.2.1 E 8 o_t r_t_script r_t_law r_script_tape a_script_tape a_law script_end script_place script_sign script_fault script_tape_size script_tape_bytes law_size law_rules law_signs law_values x1 u1 hu1) dX3_readTest_82 ⟨Nat.lt_of_le_of_lt (show _ ≤ 44 by decide) (by omega), by decide⟩ rfl (Nat.le_of_ble_eq_true rfl) 0 3 rfl rfl [0, 1, 2, 3, 4, 5, 6] rfl (by decide) rfl rfl rfl rfl ?_
      refine g_aload_n (pc := 85) C dX3_readTest_85 rfl 0 rfl ?_
      refine g_get (pc := 86) C fl_X3_9 dX3_readTest_86 0 rfl rfl ?_
      refine g_get (pc := 89) C fl_X3_40 dX3_readTest_89 1 rfl rfl ?_
      refine g_istore_n (pc := 92) (lv' := [(2, .int u1.2.1), (0, .ref o_t), (1, .int x1)]) C dX3_readTest_92 rfl (by decide) rfl ?_
      refine g_iload_n (pc := 93) C dX3_readTest_93 rfl 0 rfl ?_
      refine g_bipush (pc := 94) (v := 60) C dX3_readTest_94 (by decide) ?_
      refine g_jn (fun s2 : Int32 => Gx X E 0 0 (W_X3_readTest E o_t r_t_script r_t_law r_t_script r_script_tape r_script_tape a_script_tape r_t_law a_law script_end u1.1 u1.2.1 s2 script_tape_size script_tape_bytes u1.2.2.2.1 law_rules u1.2.2.2.2.1 u1.2.2.2.2.2) 126 [(0, .ref o_t), (1, .int x1), (2, .int u1.2.1)] []) h (fun s2 h => ?_) (fun j126 hj126 h => ?_)
      · refine g_aload_n (pc := 126) C dX3_readTest_126 rfl 0 rfl ?_
        refine g_get (pc := 127) C fl_X3_9 dX3_readTest_127 0 rfl rfl ?_
        obtain ⟨u3, hu3, h⟩ := bs h
        refine g_callV (pc := 130) (st := []) (st1 := [.int u3]) (ws' := (W_X3_readTest E o_t r_t_script r_t_law r_t_script r_script_tape r_script_tape a_script_tape r_t_law a_law script_end u1.1 u1.2.1 s2 script_tape_size script_tape_bytes u1.2.2.2.1 law_rules u1.2.2.2.2.1 u1.2.2.2.2.2)) C mv_X7_isSound mi_X7_isSound ml_X3_24 (c_X7_isSound X.2.1 E r_t_script r_script_tape script_end u1.1 u1.2.1 s2 u3 hu3) dX3_readTest_130 ⟨by omega, by decide⟩ rfl (Nat.le_of_ble_eq_true rfl) 1 6 rfl rfl [1] rfl (by decide) rfl rfl rfl rfl ?_
        refine g_if_eq (pc := 133) (tgt := 158) C dX3_readTest_133 (by decide) h (fun h => ?_) (fun h => ?_)
        · cases h
          exact hret _ _ _ dX3_readTest_158 rfl
        · refine g_aload_n (pc := 136) C dX3_readTest_136 rfl 0 rfl ?_
          refine g_get (pc := 137) C fl_X3_9 dX3_readTest_137 0 rfl rfl ?_
          obtain ⟨u4, hu4, h⟩ := bs h
          refine g_callV (pc := 140) (st := []) (st1 := []) (ws' := (W_X3_readTest E o_t r_t_script r_t_law r_t_script r_script_tape r_script_tape a_script_tape r_t_law a_law script_end u4.1 u4.2 s2 script_tape_size script_tape_bytes u1.2.2.2.1 law_rules u1.2.2.2.2.1 u1.2.2.2.2.2)) C mv_X7_step mi_X7_step ml_X3_54 (c_X7_step X.2.1 E r_t_script r_script_tape a_script_tape script_end u1.1 u1.2.1 s2 script_tape_size script_tape_bytes u4 hu4) dX3_readTest_140 ⟨by omega, by decide⟩ rfl (Nat.le_of_ble_eq_true rfl) 1 6 rfl rfl [1, 2, 3] rfl (by decide) rfl rfl rfl rfl ?_
          refine g_aload_n (pc := 143) C dX3_readTest_143 rfl 0 rfl ?_
          refine g_iload_n (pc := 144) C dX3_readTest_144 rfl 1 rfl ?_
          obtain ⟨u5, hu5, h⟩ := bs h
          refine g_callV (pc := 145) (st := []) (st1 := []) (ws' := (W_X3_readTest E o_t r_t_script r_t_law r_t_script r_script_tape r_script_tape a_script_tape r_t_law a_law script_end u5.1 u5.2.1 u5.2.2.1 script_tape_size script_tape_bytes u5.2.2.2.1 law_rules u5.2.2.2.2.1 u5.2.2.2.2.2)) C mv_X3_readSum mi_X3_readSum ml_X3_60 (c_X3_readSum X.2.1 E 8 o_t r_t_script r_t_law r_script_tape a_script_tape a_law script_end u4.1 u4.2 s2 script_tape_size script_tape_bytes u1.2.2.2.1 law_rules u1.2.2.2.2.1 u1.2.2.2.2.2 x1 u5 hu5) dX3_readTest_145 ⟨Nat.lt_of_le_of_lt (show _ ≤ 44 by decide) (by omega), by decide⟩ rfl (Nat.le_of_ble_eq_true rfl) 0 3 rfl rfl [0, 1, 2, 3, 4, 5, 6] rfl (by decide) rfl rfl rfl rfl ?_
          refine g_aload_n (pc := 148) C dX3_readTest_148 rfl 0 rfl ?_
          refine g_get (pc := 149) C fl_X3_15 dX3_readTest_149 0 rfl rfl ?_
          refine g_iload_n (pc := 152) C dX3_readTest_152 rfl 2 rfl ?_
          refine g_iconst (pc := 153) (v := 0) C dX3_readTest_153 (by decide) ?_
          obtain ⟨u6, hu6, h⟩ := bs h
          refine g_callV (pc := 154) (st := []) (st1 := [.int u6.1]) (ws' := (W_X3_readTest E o_t r_t_script r_t_law r_t_script r_script_tape r_script_tape a_script_tape r_t_law a_law script_end u5.1 u5.2.1 u5.2.2.1 script_tape_size script_tape_bytes u6.2.1 law_rules u6.2.2.1 u6.2.2.2)) C mv_X2_add mi_X2_add ml_X3_77 (c_X2_add X.2.1 E r_t_law a_law u5.2.2.2.1 law_rules u5.2.2.2.2.1 u5.2.2.2.2.2 u1.2.1 (0 : Int32) u6 hu6) dX3_readTest_154 ⟨by omega, by decide⟩ rfl (Nat.le_of_ble_eq_true rfl) 4 2 rfl rfl [4, 5, 6] rfl (by decide) rfl rfl rfl rfl ?_
          refine g_pop (pc := 157) C dX3_readTest_157 rfl ?_
          cases h
          exact hret _ _ _ dX3_readTest_158 rfl
      refine g_icmp_eq (pc := 96) (tgt := 126) C dX3_readTest_96 (by decide) h (fun h => ?_) (fun h => ?_)
      · refine g_sub [1, 2, 0] rfl ?_
        exact hj126 _ h
      · refine g_iload_n (pc := 99) C dX3_readTest_99 rfl 0 rfl ?_
        refine g_bipush (pc := 100) (v := 62) C dX3_readTest_100 (by decide) ?_
        refine g_icmp_eq (pc := 102) (tgt := 126) C dX3_readTest_102 (by decide) h (fun h => ?_) (fun h => ?_)
        · refine g_sub [1, 2, 0] rfl ?_
          exact hj126 _ h
        · refine g_iload_n (pc := 105) C dX3_readTest_105 rfl 0 rfl ?_
          refine g_bipush (pc := 106) (v := 61) C dX3_readTest_106 (by decide) ?_
          refine g_icmp_eq (pc := 108) (tgt := 126) C dX3_readTest_108 (by decide) h (fun h => ?_) (fun h => ?_)
          · refine g_sub [1, 2, 0] rfl ?_
            exact hj126 _ h
          · refine g_aload_n (pc := 111) C dX3_readTest_111 rfl 1 rfl ?_
            refine g_get (pc := 112) C fl_X3_9 dX3_readTest_112 0 rfl rfl ?_
            refine g_iconst (pc := 115) (v := 1) C dX3_readTest_115 (by decide) ?_
            refine g_aload_n (pc := 116) C dX3_readTest_116 rfl 1 rfl ?_
            refine g_get (pc := 117) C fl_X3_9 dX3_readTest_117 0 rfl rfl ?_
            refine g_get (pc := 120) C fl_X3_44 dX3_readTest_120 1 rfl rfl ?_
            obtain ⟨u7, hu7, h⟩ := bs h
            refine g_callV (pc := 123) (st := []) (st1 := []) (ws' := (W_X3_readTest E o_t r_t_script r_t_law r_t_script r_script_tape r_script_tape a_script_tape r_t_law a_law script_end u1.1 u1.2.1 u7 script_tape_size script_tape_bytes u1.2.2.2.1 law_rules u1.2.2.2.2.1 u1.2.2.2.2.2)) C mv_X7_fail mi_X7_fail ml_X3_47 (c_X7_fail X.2.1 E r_t_script r_script_tape script_end u1.1 u1.2.1 u1.2.2.1 (1 : Int32) u1.1 u7 hu7) dX3_readTest_123 ⟨by omega, by decide⟩ rfl (Nat.le_of_ble_eq_true rfl) 1 6 rfl rfl [1] rfl (by decide) rfl rfl rfl rfl ?_
            refine g_sub [1, 2, 0] rfl ?_
            exact hj126 _ h
    · refine g_aload_n (pc := 53) C dX3_readTest_53 rfl 0 rfl ?_
      refine g_iload_n (pc := 54) C dX3_readTest_54 rfl 1 rfl ?_
      obtain ⟨u8, hu8, h⟩ := bs h
      refine g_callV (pc := 55) (st := []) (st1 := [.int u8.1]) (ws' := (W_X3_readTest E o_t r_t_script r_t_law r_t_script r_script_tape r_script_tape a_script_tape r_t_law a_law script_end u8.2.1 u8.2.2.1 u8.2.2.2 script_tape_size script_tape_bytes law_size law_rules law_signs law_values)) C mv_X3_mayOpen mi_X3_mayOpen ml_X3_87 (c_X3_mayOpen X.2.1 E o_t r_t_script r_t_law r_script_tape a_script_tape script_end script_place script_sign script_fault script_tape_size script_tape_bytes x1 u8 hu8) dX3_readTest_55 ⟨by omega, by decide⟩ rfl (Nat.le_of_ble_eq_true rfl) 0 3 rfl rfl [0, 1, 2, 3] rfl (by decide) rfl rfl rfl rfl ?_
      refine g_if_eq (pc := 58) (tgt := 158) C dX3_readTest_58 (by decide) h (fun h => ?_) (fun h => ?_)
      · cases h
        exact hret _ _ _ dX3_readTest_158 rfl
      · refine g_aload_n (pc := 61) C dX3_readTest_61 rfl 0 rfl ?_
        refine g_iload_n (pc := 62) C dX3_readTest_62 rfl 1 rfl ?_
        refine g_iconst (pc := 63) (v := 1) C dX3_readTest_63 (by decide) ?_
        refine g_iadd (pc := 64) C dX3_readTest_64 ?_
        obtain ⟨u9, hu9, h⟩ := bs h
        refine g_callV (pc := 65) (st := []) (st1 := []) (ws' := (W_X3_readTest E o_t r_t_script r_t_law r_t_script r_script_tape r_script_tape a_script_tape r_t_law a_law script_end u9.1 u9.2.1 u9.2.2.1 script_tape_size script_tape_bytes u9.2.2.2.1 law_rules u9.2.2.2.2.1 u9.2.2.2.2.2)) C mv_X3_readChoice mi_X3_readChoice ml_X3_63 (c_X3_readChoice X.2.1 E q hq rt hrt o_t r_t_script r_t_law r_script_tape a_script_tape a_law script_end u8.2.1 u8.2.2.1 u8.2.2.2 script_tape_size script_tape_bytes law_size law_rules law_signs law_values (x1 + (1 : Int32)) u9 hu9) dX3_readTest_65 ⟨by omega, by decide⟩ rfl (Nat.le_of_ble_eq_true rfl) 0 3 rfl rfl [0, 1, 2, 3, 4, 5, 6] rfl (by decide) rfl rfl rfl rfl ?_
        refine g_aload_n (pc := 68) C dX3_readTest_68 rfl 0 rfl ?_
        refine g_get (pc := 69) C fl_X3_9 dX3_readTest_69 0 rfl rfl ?_
        refine g_bipush (pc := 72) (v := 41) C dX3_readTest_72 (by decide) ?_
        obtain ⟨u10, hu10, h⟩ := bs h
        refine g_callV (pc := 74) (st := []) (st1 := []) (ws' := (W_X3_readTest E o_t r_t_script r_t_law r_t_script r_script_tape r_script_tape a_script_tape r_t_law a_law script_end u10.1 u10.2.1 u10.2.2 script_tape_size script_tape_bytes u9.2.2.2.1 law_rules u9.2.2.2.2.1 u9.2.2.2.2.2)) C mv_X7_want mi_X7_want ml_X3_36 (c_X7_want X.2.1 E r_t_script r_script_tape a_script_tape script_end u9.1 u9.2.1 u9.2.2.1 script_tape_size script_tape_bytes (41 : Int32) u10 hu10) dX3_readTest_74 ⟨by omega, by decide⟩ rfl (Nat.le_of_ble_eq_true rfl) 1 6 rfl rfl [1, 2, 3] rfl (by decide) rfl rfl rfl rfl ?_
        refine g_goto (pc := 77) (tgt := 158) C dX3_readTest_77 (by decide) ?_
        cases h
        exact hret _ _ _ dX3_readTest_158 rfl
  · refine g_aload_n (pc := 12) C dX3_readTest_12 rfl 0 rfl ?_
    refine g_iload_n (pc := 13) C dX3_readTest_13 rfl 1 rfl ?_
    obtain ⟨u11, hu11, h⟩ := bs h
    refine g_callV (pc := 14) (st := []) (st1 := [.int u11.1]) (ws' := (W_X3_readTest E o_t r_t_script r_t_law r_t_script r_script_tape r_script_tape a_script_tape r_t_law a_law script_end u11.2.1 u11.2.2.1 u11.2.2.2 script_tape_size script_tape_bytes law_size law_rules law_signs law_values)) C mv_X3_mayOpen mi_X3_mayOpen ml_X3_87 (c_X3_mayOpen X.2.1 E o_t r_t_script r_t_law r_script_tape a_script_tape script_end script_place script_sign script_fault script_tape_size script_tape_bytes x1 u11 hu11) dX3_readTest_14 ⟨by omega, by decide⟩ rfl (Nat.le_of_ble_eq_true rfl) 0 3 rfl rfl [0, 1, 2, 3] rfl (by decide) rfl rfl rfl rfl ?_
    refine g_if_eq (pc := 17) (tgt := 158) C dX3_readTest_17 (by decide) h (fun h => ?_) (fun h => ?_)
    · cases h
      exact hret _ _ _ dX3_readTest_158 rfl
    · refine g_aload_n (pc := 20) C dX3_readTest_20 rfl 0 rfl ?_
      refine g_iload_n (pc := 21) C dX3_readTest_21 rfl 1 rfl ?_
      refine g_iconst (pc := 22) (v := 1) C dX3_readTest_22 (by decide) ?_
      refine g_iadd (pc := 23) C dX3_readTest_23 ?_
      obtain ⟨u12, hu12, h⟩ := bs h
      refine g_callV (pc := 24) (st := []) (st1 := []) (ws' := (W_X3_readTest E o_t r_t_script r_t_law r_t_script r_script_tape r_script_tape a_script_tape r_t_law a_law script_end u12.1 u12.2.1 u12.2.2.1 script_tape_size script_tape_bytes u12.2.2.2.1 law_rules u12.2.2.2.2.1 u12.2.2.2.2.2)) C mv_X3_readTest mi_X3_readTest ml_X3_84 (hrt o_t r_t_script r_t_law r_script_tape a_script_tape a_law script_end u11.2.1 u11.2.2.1 u11.2.2.2 script_tape_size script_tape_bytes law_size law_rules law_signs law_values (x1 + (1 : Int32)) u12 hu12) dX3_readTest_24 ⟨by omega, by decide⟩ rfl (Nat.le_of_ble_eq_true rfl) 0 3 rfl rfl [0, 1, 2, 3, 4, 5, 6] rfl (by decide) rfl rfl rfl rfl ?_
      refine g_aload_n (pc := 27) C dX3_readTest_27 rfl 0 rfl ?_
      refine g_get (pc := 28) C fl_X3_15 dX3_readTest_28 0 rfl rfl ?_
      refine g_bipush (pc := 31) (v := 33) C dX3_readTest_31 (by decide) ?_
      refine g_iconst (pc := 33) (v := 0) C dX3_readTest_33 (by decide) ?_
      obtain ⟨u13, hu13, h⟩ := bs h
      refine g_callV (pc := 34) (st := []) (st1 := [.int u13.1]) (ws' := (W_X3_readTest E o_t r_t_script r_t_law r_t_script r_script_tape r_script_tape a_script_tape r_t_law a_law script_end u12.1 u12.2.1 u12.2.2.1 script_tape_size script_tape_bytes u13.2.1 law_rules u13.2.2.1 u13.2.2.2)) C mv_X2_add mi_X2_add ml_X3_77 (c_X2_add X.2.1 E r_t_law a_law u12.2.2.2.1 law_rules u12.2.2.2.2.1 u12.2.2.2.2.2 (33 : Int32) (0 : Int32) u13 hu13) dX3_readTest_34 ⟨by omega, by decide⟩ rfl (Nat.le_of_ble_eq_true rfl) 4 2 rfl rfl [4, 5, 6] rfl (by decide) rfl rfl rfl rfl ?_
      refine g_pop (pc := 37) C dX3_readTest_37 rfl ?_
      refine g_goto (pc := 38) (tgt := 158) C dX3_readTest_38 (by decide) ?_
      cases h
      exact hret _ _ _ dX3_readTest_158 rfl
def f_X3_readTest : Nat → Int32 → Int32 → Int32 → Int32 → Int32 → (Nat → Int32) → Int32 → (Nat → Int32) → (Nat → Int32) → Int32 → Option (Int32 × Int32 × Int32 × Int32 × (Nat → Int32) × (Nat → Int32))
  | 0 => fun _ _ _ _ _ _ _ _ _ _ => none
  | d + 1 => F_X3_readTest (f_X3_readTest d)
theorem c_X3_readTest (l : Launch) (E : GE) : ∀ d : Nat, ∀ (o_t : Nat) (r_t_script : Nat) (r_t_law : Nat) (r_script_tape : Nat) (a_script_tape : Nat → Nat) (a_law : Nat → Nat) (script_end : Int32) (script_place : Int32) (script_sign : Int32) (script_fault : Int32) (script_tape_size : Int32) (script_tape_bytes : (Nat → Int32)) (law_size : Int32) (law_rules : Int32) (law_signs : (Nat → Int32)) (law_values : (Nat → Int32)) (x1 : Int32) (r : Int32 × Int32 × Int32 × Int32 × (Nat → Int32) × (Nat → Int32)), f_X3_readTest d script_end script_place script_sign script_fault script_tape_size script_tape_bytes law_size law_signs law_values x1 = some r → Cn l E yX3_readTest cX3_readTest 3 none (rkT d) 0 0 [.ref o_t, .int x1] (W_X3_readTest E o_t r_t_script r_t_law r_t_script r_script_tape r_script_tape a_script_tape r_t_law a_law script_end script_place script_sign script_fault script_tape_size script_tape_bytes law_size law_rules law_signs law_values) (fun w => w = (W_X3_readTest E o_t r_t_script r_t_law r_t_script r_script_tape r_script_tape a_script_tape r_t_law a_law script_end r.1 r.2.1 r.2.2.1 script_tape_size script_tape_bytes r.2.2.2.1 law_rules r.2.2.2.2.1 r.2.2.2.2.2)) none := by
  intro d
  induction d with
  | zero => intro _ _ _ _ _ _ _ _ _ _ _ _ _ _ _ _ _ r h; cases h
  | succ d ih => exact C_X3_readTest l E (rkT d) (rkT_ge d) (f_X3_readTest d) ih
abbrev W_X3_readRule (E : GE) (O_t : Nat) (r_t_script : Nat) (r_t_law : Nat) (O_script : Nat) (r_script_tape : Nat) (O_script_tape : Nat) (a_script_tape : Nat → Nat) (O_law : Nat) (a_law : Nat → Nat) (script_end : Int32) (script_place : Int32) (script_sign : Int32) (script_fault : Int32) (script_tape_size : Int32) (script_tape_bytes : (Nat → Int32)) (law_size : Int32) (law_rules : Int32) (law_signs : (Nat → Int32)) (law_values : (Nat → Int32)) (law_letters : (Nat → Int32)) (law_amounts : (Nat → Int32)) (law_conditions : (Nat → Int32)) (law_ends : (Nat → Int32)) : va_W := [(O_t, ob_X3 r_t_script r_t_law), (O_script, ob_X7 r_script_tape script_end script_place script_sign script_fault), (O_script_tape, ob_X8 a_script_tape script_tape_size), (a_script_tape 0, .inl (E.2.1, 260, .inl script_tape_bytes)), (O_law, ob_X2 a_law law_size law_rules), (a_law 0, .inl (E.2.1, 256, .inl law_signs)), (a_law 1, .inl (E.2.1, 256, .inl law_values)), (a_law 3, .inl (E.2.1, 16, .inl law_letters)), (a_law 4, .inl (E.2.1, 16, .inl law_amounts)), (a_law 5, .inl (E.2.1, 16, .inl law_conditions)), (a_law 6, .inl (E.2.1, 16, .inl law_ends))]
def f_X3_readRule (script_end : Int32) (script_place : Int32) (script_sign : Int32) (script_fault : Int32) (script_tape_size : Int32) (script_tape_bytes : (Nat → Int32)) (law_size : Int32) (law_rules : Int32) (law_signs : (Nat → Int32)) (law_values : (Nat → Int32)) (law_letters : (Nat → Int32)) (law_amounts : (Nat → Int32)) (law_conditions : (Nat → Int32)) (law_ends : (Nat → Int32)) : Option (Int32 × Int32 × Int32 × Int32 × Int32 × (Nat → Int32) × (Nat → Int32) × (Nat → Int32) × (Nat → Int32) × (Nat → Int32) × (Nat → Int32)) := jn (fun s1 : Unit => if law_rules < (16 : Int32) then ((f_X7_step script_end script_place script_sign script_tape_size script_tape_bytes).bind fun u2 => jn (fun s3 : Int32 × Int32 × Int32 × Int32 × (Nat → Int32) × (Nat → Int32) => (f_X7_want script_end s3.1 s3.2.1 s3.2.2.1 script_tape_size script_tape_bytes (40 : Int32)).bind fun u4 => (f_X3_readChoice (f_X3_readTest 8) script_end u4.1 u4.2.1 u4.2.2 script_tape_size script_tape_bytes s3.2.2.2.1 s3.2.2.2.2.1 s3.2.2.2.2.2 (1 : Int32)).bind fun u5 => (f_X7_want script_end u5.1 u5.2.1 u5.2.2.1 script_tape_size script_tape_bytes (41 : Int32)).bind fun u6 => (f_X2_endRule u5.2.2.2.1 law_rules law_letters law_amounts law_conditions law_ends script_sign law_size s3.2.2.2.1).bind fun u7 => some (u6.1, u6.2.1, u6.2.2, u5.2.2.2.1, u7.1, u5.2.2.2.2.1, u5.2.2.2.2.2, u7.2.1, u7.2.2.1, u7.2.2.2.1, u7.2.2.2.2)) fun j96 => if script_sign = (120 : Int32) then (j96 (u2.1, u2.2, script_fault, law_size, law_signs, law_values)) else (f_X3_readSum 8 script_end u2.1 u2.2 script_fault script_tape_size script_tape_bytes law_size law_signs law_values (0 : Int32)).bind fun u8 => j96 (u8.1, u8.2.1, u8.2.2.1, u8.2.2.2.1, u8.2.2.2.2.1, u8.2.2.2.2.2)) else (f_X7_fail script_fault (4 : Int32) script_place).bind fun u9 => some (script_place, script_sign, u9, law_size, law_rules, law_signs, law_values, law_letters, law_amounts, law_conditions, law_ends)) fun j42 => if script_sign = (101 : Int32) then (j42 ()) else if script_sign = (106 : Int32) then (j42 ()) else if script_sign = (120 : Int32) then (j42 ()) else (f_X7_fail script_fault (1 : Int32) script_place).bind fun u10 => some (script_place, script_sign, u10, law_size, law_rules, law_signs, law_values, law_letters, law_amounts, law_conditions, law_ends)
theorem dX3_readRule_0 : decode cX3_readRule 0 = .ok (.aload_n 0, 1) := by decide +kernel
theorem dX3_readRule_1 : decode cX3_readRule 1 = .ok (.getfield 9, 3) := by decide +kernel
theorem dX3_readRule_4 : decode cX3_readRule 4 = .ok (.getfield 40, 3) := by decide +kernel
theorem dX3_readRule_7 : decode cX3_readRule 7 = .ok (.istore_n 1, 1) := by decide +kernel
theorem dX3_readRule_8 : decode cX3_readRule 8 = .ok (.iload_n 1, 1) := by decide +kernel
theorem dX3_readRule_9 : decode cX3_readRule 9 = .ok (.bipush 101, 2) := by decide +kernel
theorem dX3_readRule_11 : decode cX3_readRule 11 = .ok (.if_icmp .eq 31, 3) := by decide +kernel
theorem dX3_readRule_14 : decode cX3_readRule 14 = .ok (.iload_n 1, 1) := by decide +kernel
theorem dX3_readRule_15 : decode cX3_readRule 15 = .ok (.bipush 106, 2) := by decide +kernel
theorem dX3_readRule_17 : decode cX3_readRule 17 = .ok (.if_icmp .eq 25, 3) := by decide +kernel
theorem dX3_readRule_20 : decode cX3_readRule 20 = .ok (.iload_n 1, 1) := by decide +kernel
theorem dX3_readRule_21 : decode cX3_readRule 21 = .ok (.bipush 120, 2) := by decide +kernel
theorem dX3_readRule_23 : decode cX3_readRule 23 = .ok (.if_icmp .eq 19, 3) := by decide +kernel
theorem dX3_readRule_26 : decode cX3_readRule 26 = .ok (.aload_n 0, 1) := by decide +kernel
theorem dX3_readRule_27 : decode cX3_readRule 27 = .ok (.getfield 9, 3) := by decide +kernel
theorem dX3_readRule_30 : decode cX3_readRule 30 = .ok (.iconst 1, 1) := by decide +kernel
theorem dX3_readRule_31 : decode cX3_readRule 31 = .ok (.aload_n 0, 1) := by decide +kernel
theorem dX3_readRule_32 : decode cX3_readRule 32 = .ok (.getfield 9, 3) := by decide +kernel
theorem dX3_readRule_35 : decode cX3_readRule 35 = .ok (.getfield 44, 3) := by decide +kernel
theorem dX3_readRule_38 : decode cX3_readRule 38 = .ok (.invokevirtual 47, 3) := by decide +kernel
theorem dX3_readRule_41 : decode cX3_readRule 41 = .ok (.return_, 1) := by decide +kernel
theorem dX3_readRule_42 : decode cX3_readRule 42 = .ok (.aload_n 0, 1) := by decide +kernel
theorem dX3_readRule_43 : decode cX3_readRule 43 = .ok (.getfield 15, 3) := by decide +kernel
theorem dX3_readRule_46 : decode cX3_readRule 46 = .ok (.getfield 51, 3) := by decide +kernel
theorem dX3_readRule_49 : decode cX3_readRule 49 = .ok (.bipush 16, 2) := by decide +kernel
theorem dX3_readRule_51 : decode cX3_readRule 51 = .ok (.if_icmp .lt 19, 3) := by decide +kernel
theorem dX3_readRule_54 : decode cX3_readRule 54 = .ok (.aload_n 0, 1) := by decide +kernel
theorem dX3_readRule_55 : decode cX3_readRule 55 = .ok (.getfield 9, 3) := by decide +kernel
theorem dX3_readRule_58 : decode cX3_readRule 58 = .ok (.iconst 4, 1) := by decide +kernel
theorem dX3_readRule_59 : decode cX3_readRule 59 = .ok (.aload_n 0, 1) := by decide +kernel
theorem dX3_readRule_60 : decode cX3_readRule 60 = .ok (.getfield 9, 3) := by decide +kernel
theorem dX3_readRule_63 : decode cX3_readRule 63 = .ok (.getfield 44, 3) := by decide +kernel
theorem dX3_readRule_66 : decode cX3_readRule 66 = .ok (.invokevirtual 47, 3) := by decide +kernel
theorem dX3_readRule_69 : decode cX3_readRule 69 = .ok (.return_, 1) := by decide +kernel
theorem dX3_readRule_70 : decode cX3_readRule 70 = .ok (.aload_n 0, 1) := by decide +kernel
theorem dX3_readRule_71 : decode cX3_readRule 71 = .ok (.getfield 9, 3) := by decide +kernel
theorem dX3_readRule_74 : decode cX3_readRule 74 = .ok (.invokevirtual 54, 3) := by decide +kernel
theorem dX3_readRule_77 : decode cX3_readRule 77 = .ok (.aload_n 0, 1) := by decide +kernel
theorem dX3_readRule_78 : decode cX3_readRule 78 = .ok (.getfield 15, 3) := by decide +kernel
theorem dX3_readRule_81 : decode cX3_readRule 81 = .ok (.getfield 57, 3) := by decide +kernel
theorem dX3_readRule_84 : decode cX3_readRule 84 = .ok (.istore_n 2, 1) := by decide +kernel
theorem dX3_readRule_85 : decode cX3_readRule 85 = .ok (.iload_n 1, 1) := by decide +kernel
theorem dX3_readRule_86 : decode cX3_readRule 86 = .ok (.bipush 120, 2) := by decide +kernel
theorem dX3_readRule_88 : decode cX3_readRule 88 = .ok (.if_icmp .eq 8, 3) := by decide +kernel
theorem dX3_readRule_91 : decode cX3_readRule 91 = .ok (.aload_n 0, 1) := by decide +kernel
theorem dX3_readRule_92 : decode cX3_readRule 92 = .ok (.iconst 0, 1) := by decide +kernel
theorem dX3_readRule_93 : decode cX3_readRule 93 = .ok (.invokevirtual 60, 3) := by decide +kernel
theorem dX3_readRule_96 : decode cX3_readRule 96 = .ok (.aload_n 0, 1) := by decide +kernel
theorem dX3_readRule_97 : decode cX3_readRule 97 = .ok (.getfield 15, 3) := by decide +kernel
theorem dX3_readRule_100 : decode cX3_readRule 100 = .ok (.getfield 57, 3) := by decide +kernel
theorem dX3_readRule_103 : decode cX3_readRule 103 = .ok (.istore_n 3, 1) := by decide +kernel
theorem dX3_readRule_104 : decode cX3_readRule 104 = .ok (.aload_n 0, 1) := by decide +kernel
theorem dX3_readRule_105 : decode cX3_readRule 105 = .ok (.getfield 9, 3) := by decide +kernel
theorem dX3_readRule_108 : decode cX3_readRule 108 = .ok (.bipush 40, 2) := by decide +kernel
theorem dX3_readRule_110 : decode cX3_readRule 110 = .ok (.invokevirtual 36, 3) := by decide +kernel
theorem dX3_readRule_113 : decode cX3_readRule 113 = .ok (.aload_n 0, 1) := by decide +kernel
theorem dX3_readRule_114 : decode cX3_readRule 114 = .ok (.iconst 1, 1) := by decide +kernel
theorem dX3_readRule_115 : decode cX3_readRule 115 = .ok (.invokevirtual 63, 3) := by decide +kernel
theorem dX3_readRule_118 : decode cX3_readRule 118 = .ok (.aload_n 0, 1) := by decide +kernel
theorem dX3_readRule_119 : decode cX3_readRule 119 = .ok (.getfield 9, 3) := by decide +kernel
theorem dX3_readRule_122 : decode cX3_readRule 122 = .ok (.bipush 41, 2) := by decide +kernel
theorem dX3_readRule_124 : decode cX3_readRule 124 = .ok (.invokevirtual 36, 3) := by decide +kernel
theorem dX3_readRule_127 : decode cX3_readRule 127 = .ok (.aload_n 0, 1) := by decide +kernel
theorem dX3_readRule_128 : decode cX3_readRule 128 = .ok (.getfield 15, 3) := by decide +kernel
theorem dX3_readRule_131 : decode cX3_readRule 131 = .ok (.iload_n 1, 1) := by decide +kernel
theorem dX3_readRule_132 : decode cX3_readRule 132 = .ok (.iload_n 2, 1) := by decide +kernel
theorem dX3_readRule_133 : decode cX3_readRule 133 = .ok (.iload_n 3, 1) := by decide +kernel
theorem dX3_readRule_134 : decode cX3_readRule 134 = .ok (.invokevirtual 66, 3) := by decide +kernel
theorem dX3_readRule_137 : decode cX3_readRule 137 = .ok (.return_, 1) := by decide +kernel
set_option maxHeartbeats 4000000 in
set_option maxRecDepth 100000 in
theorem c_X3_readRule (l : Launch) (E : GE) (o_t : Nat) (r_t_script : Nat) (r_t_law : Nat) (r_script_tape : Nat) (a_script_tape : Nat → Nat) (a_law : Nat → Nat) (script_end : Int32) (script_place : Int32) (script_sign : Int32) (script_fault : Int32) (script_tape_size : Int32) (script_tape_bytes : (Nat → Int32)) (law_size : Int32) (law_rules : Int32) (law_signs : (Nat → Int32)) (law_values : (Nat → Int32)) (law_letters : (Nat → Int32)) (law_amounts : (Nat → Int32)) (law_conditions : (Nat → Int32)) (law_ends : (Nat → Int32)) (r : Int32 × Int32 × Int32 × Int32 × Int32 × (Nat → Int32) × (Nat → Int32) × (Nat → Int32) × (Nat → Int32) × (Nat → Int32) × (Nat → Int32)) (h : f_X3_readRule script_end script_place script_sign script_fault script_tape_size script_tape_bytes law_size law_rules law_signs law_values law_letters law_amounts law_conditions law_ends = some r) : Cn l E yX3_readRule cX3_readRule 4 none 74 0 0 [.ref o_t] (W_X3_readRule E o_t r_t_script r_t_law r_t_script r_script_tape r_script_tape a_script_tape r_t_law a_law script_end script_place script_sign script_fault script_tape_size script_tape_bytes law_size law_rules law_signs law_values law_letters law_amounts law_conditions law_ends) (fun w => w = (W_X3_readRule E o_t r_t_script r_t_law r_t_script r_script_tape r_script_tape a_script_tape r_t_law a_law script_end r.1 r.2.1 r.2.2.1 script_tape_size script_tape_bytes r.2.2.2.1 r.2.2.2.2.1 r.2.2.2.2.2.1 r.2.2.2.2.2.2.1 r.2.2.2.2.2.2.2.1 r.2.2.2.2.2.2.2.2.1 r.2.2.2.2.2.2.2.2.2.1 r.2.2.2.2.2.2.2.2.2.2)) none := by
  refine Cn.ofV (by decide +kernel) (Nat.le_of_ble_eq_true rfl) (fun X hX hR C hret => ?_)
  subst hX
  show Gx X E 0 0 (W_X3_readRule E o_t r_t_script r_t_law r_t_script r_script_tape r_script_tape a_script_tape r_t_law a_law script_end script_place script_sign script_fault script_tape_size script_tape_bytes law_size law_rules law_signs law_values law_letters law_amounts law_conditions law_ends) 0 [(0, .ref o_t)] []
  unfold f_X3_readRule at h
  refine g_aload_n (pc := 0) C dX3_readRule_0 rfl 0 rfl ?_
  refine g_get (pc := 1) C fl_X3_9 dX3_readRule_1 0 rfl rfl ?_
  refine g_get (pc := 4) C fl_X3_40 dX3_readRule_4 1 rfl rfl ?_
  refine g_istore_n (pc := 7) (lv' := [(1, .int script_sign), (0, .ref o_t)]) C dX3_readRule_7 rfl (by decide) rfl ?_
  refine g_iload_n (pc := 8) C dX3_readRule_8 rfl 0 rfl ?_
  refine g_bipush (pc := 9) (v := 101) C dX3_readRule_9 (by decide) ?_
  refine g_jn (fun s1 : Unit => Gx X E 0 0 (W_X3_readRule E o_t r_t_script r_t_law r_t_script r_script_tape r_script_tape a_script_tape r_t_law a_law script_end script_place script_sign script_fault script_tape_size script_tape_bytes law_size law_rules law_signs law_values law_letters law_amounts law_conditions law_ends) 42 [(0, .ref o_t), (1, .int script_sign)] []) h (fun s1 h => ?_) (fun j42 hj42 h => ?_)
  · refine g_aload_n (pc := 42) C dX3_readRule_42 rfl 0 rfl ?_
    refine g_get (pc := 43) C fl_X3_15 dX3_readRule_43 0 rfl rfl ?_
    refine g_get (pc := 46) C fl_X3_51 dX3_readRule_46 4 rfl rfl ?_
    refine g_bipush (pc := 49) (v := 16) C dX3_readRule_49 (by decide) ?_
    refine g_icmp_lt (pc := 51) (tgt := 70) C dX3_readRule_51 (by decide) h (fun h => ?_) (fun h => ?_)
    · refine g_aload_n (pc := 70) C dX3_readRule_70 rfl 0 rfl ?_
      refine g_get (pc := 71) C fl_X3_9 dX3_readRule_71 0 rfl rfl ?_
      obtain ⟨u2, hu2, h⟩ := bs h
      refine g_callV (pc := 74) (st := []) (st1 := []) (ws' := (W_X3_readRule E o_t r_t_script r_t_law r_t_script r_script_tape r_script_tape a_script_tape r_t_law a_law script_end u2.1 u2.2 script_fault script_tape_size script_tape_bytes law_size law_rules law_signs law_values law_letters law_amounts law_conditions law_ends)) C mv_X7_step mi_X7_step ml_X3_54 (c_X7_step X.2.1 E r_t_script r_script_tape a_script_tape script_end script_place script_sign script_fault script_tape_size script_tape_bytes u2 hu2) dX3_readRule_74 (by decide) rfl (Nat.le_of_ble_eq_true rfl) 1 6 rfl rfl [1, 2, 3] rfl (by decide) rfl rfl rfl rfl ?_
      refine g_aload_n (pc := 77) C dX3_readRule_77 rfl 0 rfl ?_
      refine g_get (pc := 78) C fl_X3_15 dX3_readRule_78 0 rfl rfl ?_
      refine g_get (pc := 81) C fl_X3_57 dX3_readRule_81 4 rfl rfl ?_
      refine g_istore_n (pc := 84) (lv' := [(2, .int law_size), (0, .ref o_t), (1, .int script_sign)]) C dX3_readRule_84 rfl (by decide) rfl ?_
      refine g_iload_n (pc := 85) C dX3_readRule_85 rfl 2 rfl ?_
      refine g_bipush (pc := 86) (v := 120) C dX3_readRule_86 (by decide) ?_
      refine g_jn (fun s3 : Int32 × Int32 × Int32 × Int32 × (Nat → Int32) × (Nat → Int32) => Gx X E 0 0 (W_X3_readRule E o_t r_t_script r_t_law r_t_script r_script_tape r_script_tape a_script_tape r_t_law a_law script_end s3.1 s3.2.1 s3.2.2.1 script_tape_size script_tape_bytes s3.2.2.2.1 law_rules s3.2.2.2.2.1 s3.2.2.2.2.2 law_letters law_amounts law_conditions law_ends) 96 [(0, .ref o_t), (1, .int script_sign), (2, .int law_size)] []) h (fun s3 h => ?_) (fun j96 hj96 h => ?_)
      · refine g_aload_n (pc := 96) C dX3_readRule_96 rfl 0 rfl ?_
        refine g_get (pc := 97) C fl_X3_15 dX3_readRule_97 0 rfl rfl ?_
        refine g_get (pc := 100) C fl_X3_57 dX3_readRule_100 4 rfl rfl ?_
        refine g_istore_n (pc := 103) (lv' := [(3, .int s3.2.2.2.1), (0, .ref o_t), (1, .int script_sign), (2, .int law_size)]) C dX3_readRule_103 rfl (by decide) rfl ?_
        refine g_aload_n (pc := 104) C dX3_readRule_104 rfl 1 rfl ?_
        refine g_get (pc := 105) C fl_X3_9 dX3_readRule_105 0 rfl rfl ?_
        refine g_bipush (pc := 108) (v := 40) C dX3_readRule_108 (by decide) ?_
        obtain ⟨u4, hu4, h⟩ := bs h
        refine g_callV (pc := 110) (st := []) (st1 := []) (ws' := (W_X3_readRule E o_t r_t_script r_t_law r_t_script r_script_tape r_script_tape a_script_tape r_t_law a_law script_end u4.1 u4.2.1 u4.2.2 script_tape_size script_tape_bytes s3.2.2.2.1 law_rules s3.2.2.2.2.1 s3.2.2.2.2.2 law_letters law_amounts law_conditions law_ends)) C mv_X7_want mi_X7_want ml_X3_36 (c_X7_want X.2.1 E r_t_script r_script_tape a_script_tape script_end s3.1 s3.2.1 s3.2.2.1 script_tape_size script_tape_bytes (40 : Int32) u4 hu4) dX3_readRule_110 (by decide) rfl (Nat.le_of_ble_eq_true rfl) 1 6 rfl rfl [1, 2, 3] rfl (by decide) rfl rfl rfl rfl ?_
        refine g_aload_n (pc := 113) C dX3_readRule_113 rfl 1 rfl ?_
        refine g_iconst (pc := 114) (v := 1) C dX3_readRule_114 (by decide) ?_
        obtain ⟨u5, hu5, h⟩ := bs h
        refine g_callV (pc := 115) (st := []) (st1 := []) (ws' := (W_X3_readRule E o_t r_t_script r_t_law r_t_script r_script_tape r_script_tape a_script_tape r_t_law a_law script_end u5.1 u5.2.1 u5.2.2.1 script_tape_size script_tape_bytes u5.2.2.2.1 law_rules u5.2.2.2.2.1 u5.2.2.2.2.2 law_letters law_amounts law_conditions law_ends)) C mv_X3_readChoice mi_X3_readChoice ml_X3_63 (c_X3_readChoice X.2.1 E (rkT 8) (rkT_ge _) (f_X3_readTest 8) (c_X3_readTest X.2.1 E 8) o_t r_t_script r_t_law r_script_tape a_script_tape a_law script_end u4.1 u4.2.1 u4.2.2 script_tape_size script_tape_bytes s3.2.2.2.1 law_rules s3.2.2.2.2.1 s3.2.2.2.2.2 (1 : Int32) u5 hu5) dX3_readRule_115 (by decide) rfl (Nat.le_of_ble_eq_true rfl) 0 3 rfl rfl [0, 1, 2, 3, 4, 5, 6] rfl (by decide) rfl rfl rfl rfl ?_
        refine g_aload_n (pc := 118) C dX3_readRule_118 rfl 1 rfl ?_
        refine g_get (pc := 119) C fl_X3_9 dX3_readRule_119 0 rfl rfl ?_
        refine g_bipush (pc := 122) (v := 41) C dX3_readRule_122 (by decide) ?_
        obtain ⟨u6, hu6, h⟩ := bs h
        refine g_callV (pc := 124) (st := []) (st1 := []) (ws' := (W_X3_readRule E o_t r_t_script r_t_law r_t_script r_script_tape r_script_tape a_script_tape r_t_law a_law script_end u6.1 u6.2.1 u6.2.2 script_tape_size script_tape_bytes u5.2.2.2.1 law_rules u5.2.2.2.2.1 u5.2.2.2.2.2 law_letters law_amounts law_conditions law_ends)) C mv_X7_want mi_X7_want ml_X3_36 (c_X7_want X.2.1 E r_t_script r_script_tape a_script_tape script_end u5.1 u5.2.1 u5.2.2.1 script_tape_size script_tape_bytes (41 : Int32) u6 hu6) dX3_readRule_124 (by decide) rfl (Nat.le_of_ble_eq_true rfl) 1 6 rfl rfl [1, 2, 3] rfl (by decide) rfl rfl rfl rfl ?_
        refine g_aload_n (pc := 127) C dX3_readRule_127 rfl 1 rfl ?_
        refine g_get (pc := 128) C fl_X3_15 dX3_readRule_128 0 rfl rfl ?_
        refine g_iload_n (pc := 131) C dX3_readRule_131 rfl 2 rfl ?_
        refine g_iload_n (pc := 132) C dX3_readRule_132 rfl 3 rfl ?_
        refine g_iload_n (pc := 133) C dX3_readRule_133 rfl 0 rfl ?_
        obtain ⟨u7, hu7, h⟩ := bs h
        refine g_callV (pc := 134) (st := []) (st1 := []) (ws' := (W_X3_readRule E o_t r_t_script r_t_law r_t_script r_script_tape r_script_tape a_script_tape r_t_law a_law script_end u6.1 u6.2.1 u6.2.2 script_tape_size script_tape_bytes u5.2.2.2.1 u7.1 u5.2.2.2.2.1 u5.2.2.2.2.2 u7.2.1 u7.2.2.1 u7.2.2.2.1 u7.2.2.2.2)) C mv_X2_endRule mi_X2_endRule ml_X3_66 (c_X2_endRule X.2.1 E r_t_law a_law u5.2.2.2.1 law_rules law_letters law_amounts law_conditions law_ends script_sign law_size s3.2.2.2.1 u7 hu7) dX3_readRule_134 (by decide) rfl (Nat.le_of_ble_eq_true rfl) 4 2 rfl rfl [4, 7, 8, 9, 10] rfl (by decide) rfl rfl rfl rfl ?_
        cases h
        exact hret _ _ _ dX3_readRule_137 rfl
      refine g_icmp_eq (pc := 88) (tgt := 96) C dX3_readRule_88 (by decide) h (fun h => ?_) (fun h => ?_)
      · refine g_sub [1, 2, 0] rfl ?_
        exact hj96 _ h
      · refine g_aload_n (pc := 91) C dX3_readRule_91 rfl 1 rfl ?_
        refine g_iconst (pc := 92) (v := 0) C dX3_readRule_92 (by decide) ?_
        obtain ⟨u8, hu8, h⟩ := bs h
        refine g_callV (pc := 93) (st := []) (st1 := []) (ws' := (W_X3_readRule E o_t r_t_script r_t_law r_t_script r_script_tape r_script_tape a_script_tape r_t_law a_law script_end u8.1 u8.2.1 u8.2.2.1 script_tape_size script_tape_bytes u8.2.2.2.1 law_rules u8.2.2.2.2.1 u8.2.2.2.2.2 law_letters law_amounts law_conditions law_ends)) C mv_X3_readSum mi_X3_readSum ml_X3_60 (c_X3_readSum X.2.1 E 8 o_t r_t_script r_t_law r_script_tape a_script_tape a_law script_end u2.1 u2.2 script_fault script_tape_size script_tape_bytes law_size law_rules law_signs law_values (0 : Int32) u8 hu8) dX3_readRule_93 (by decide) rfl (Nat.le_of_ble_eq_true rfl) 0 3 rfl rfl [0, 1, 2, 3, 4, 5, 6] rfl (by decide) rfl rfl rfl rfl ?_
        refine g_sub [1, 2, 0] rfl ?_
        exact hj96 _ h
    · refine g_aload_n (pc := 54) C dX3_readRule_54 rfl 0 rfl ?_
      refine g_get (pc := 55) C fl_X3_9 dX3_readRule_55 0 rfl rfl ?_
      refine g_iconst (pc := 58) (v := 4) C dX3_readRule_58 (by decide) ?_
      refine g_aload_n (pc := 59) C dX3_readRule_59 rfl 0 rfl ?_
      refine g_get (pc := 60) C fl_X3_9 dX3_readRule_60 0 rfl rfl ?_
      refine g_get (pc := 63) C fl_X3_44 dX3_readRule_63 1 rfl rfl ?_
      obtain ⟨u9, hu9, h⟩ := bs h
      refine g_callV (pc := 66) (st := []) (st1 := []) (ws' := (W_X3_readRule E o_t r_t_script r_t_law r_t_script r_script_tape r_script_tape a_script_tape r_t_law a_law script_end script_place script_sign u9 script_tape_size script_tape_bytes law_size law_rules law_signs law_values law_letters law_amounts law_conditions law_ends)) C mv_X7_fail mi_X7_fail ml_X3_47 (c_X7_fail X.2.1 E r_t_script r_script_tape script_end script_place script_sign script_fault (4 : Int32) script_place u9 hu9) dX3_readRule_66 (by decide) rfl (Nat.le_of_ble_eq_true rfl) 1 6 rfl rfl [1] rfl (by decide) rfl rfl rfl rfl ?_
      cases h
      exact hret _ _ _ dX3_readRule_69 rfl
  refine g_icmp_eq (pc := 11) (tgt := 42) C dX3_readRule_11 (by decide) h (fun h => ?_) (fun h => ?_)
  · refine g_sub [1, 0] rfl ?_
    exact hj42 _ h
  · refine g_iload_n (pc := 14) C dX3_readRule_14 rfl 0 rfl ?_
    refine g_bipush (pc := 15) (v := 106) C dX3_readRule_15 (by decide) ?_
    refine g_icmp_eq (pc := 17) (tgt := 42) C dX3_readRule_17 (by decide) h (fun h => ?_) (fun h => ?_)
    · refine g_sub [1, 0] rfl ?_
      exact hj42 _ h
    · refine g_iload_n (pc := 20) C dX3_readRule_20 rfl 0 rfl ?_
      refine g_bipush (pc := 21) (v := 120) C dX3_readRule_21 (by decide) ?_
      refine g_icmp_eq (pc := 23) (tgt := 42) C dX3_readRule_23 (by decide) h (fun h => ?_) (fun h => ?_)
      · refine g_sub [1, 0] rfl ?_
        exact hj42 _ h
      · refine g_aload_n (pc := 26) C dX3_readRule_26 rfl 1 rfl ?_
        refine g_get (pc := 27) C fl_X3_9 dX3_readRule_27 0 rfl rfl ?_
        refine g_iconst (pc := 30) (v := 1) C dX3_readRule_30 (by decide) ?_
        refine g_aload_n (pc := 31) C dX3_readRule_31 rfl 1 rfl ?_
        refine g_get (pc := 32) C fl_X3_9 dX3_readRule_32 0 rfl rfl ?_
        refine g_get (pc := 35) C fl_X3_44 dX3_readRule_35 1 rfl rfl ?_
        obtain ⟨u10, hu10, h⟩ := bs h
        refine g_callV (pc := 38) (st := []) (st1 := []) (ws' := (W_X3_readRule E o_t r_t_script r_t_law r_t_script r_script_tape r_script_tape a_script_tape r_t_law a_law script_end script_place script_sign u10 script_tape_size script_tape_bytes law_size law_rules law_signs law_values law_letters law_amounts law_conditions law_ends)) C mv_X7_fail mi_X7_fail ml_X3_47 (c_X7_fail X.2.1 E r_t_script r_script_tape script_end script_place script_sign script_fault (1 : Int32) script_place u10 hu10) dX3_readRule_38 (by decide) rfl (Nat.le_of_ble_eq_true rfl) 1 6 rfl rfl [1] rfl (by decide) rfl rfl rfl rfl ?_
        cases h
        exact hret _ _ _ dX3_readRule_41 rfl
abbrev W_X3_read (E : GE) (O_t : Nat) (r_t_script : Nat) (r_t_law : Nat) (O_p1 : Nat) (a_p1 : Nat → Nat) (O_script : Nat) (r_script_tape : Nat) (O_script_tape : Nat) (a_script_tape : Nat → Nat) (p1_size : Int32) (p1_rules : Int32) (p1_signs : (Nat → Int32)) (p1_values : (Nat → Int32)) (p1_letters : (Nat → Int32)) (p1_amounts : (Nat → Int32)) (p1_conditions : (Nat → Int32)) (p1_ends : (Nat → Int32)) (script_end : Int32) (script_place : Int32) (script_sign : Int32) (script_fault : Int32) (script_tape_size : Int32) (script_tape_bytes : (Nat → Int32)) : va_W := [(O_t, ob_X3 r_t_script r_t_law), (O_p1, ob_X2 a_p1 p1_size p1_rules), (a_p1 0, .inl (E.2.1, 256, .inl p1_signs)), (a_p1 1, .inl (E.2.1, 256, .inl p1_values)), (a_p1 3, .inl (E.2.1, 16, .inl p1_letters)), (a_p1 4, .inl (E.2.1, 16, .inl p1_amounts)), (a_p1 5, .inl (E.2.1, 16, .inl p1_conditions)), (a_p1 6, .inl (E.2.1, 16, .inl p1_ends)), (O_script, ob_X7 r_script_tape script_end script_place script_sign script_fault), (O_script_tape, ob_X8 a_script_tape script_tape_size), (a_script_tape 0, .inl (E.2.1, 260, .inl script_tape_bytes))]
def L_X3_read_14 (script_end : Int32) (script_tape_size : Int32) (script_tape_bytes : (Nat → Int32)) : Nat → Int32 × Int32 × Int32 × (Nat → Int32) × (Nat → Int32) × (Nat → Int32) × (Nat → Int32) × (Nat → Int32) × (Nat → Int32) × Int32 × Int32 × Int32 → Option (Int32 × Int32 × (Nat → Int32) × (Nat → Int32) × (Nat → Int32) × (Nat → Int32) × (Nat → Int32) × (Nat → Int32) × Int32 × Int32 × Int32) := lp fun go s => if (16 : Int32) < s.1 then (some (s.2.1, s.2.2.1, s.2.2.2.1, s.2.2.2.2.1, s.2.2.2.2.2.1, s.2.2.2.2.2.2.1, s.2.2.2.2.2.2.2.1, s.2.2.2.2.2.2.2.2.1, s.2.2.2.2.2.2.2.2.2.1, s.2.2.2.2.2.2.2.2.2.2.1, s.2.2.2.2.2.2.2.2.2.2.2)) else (f_X7_isSound s.2.2.2.2.2.2.2.2.2.2.2).bind fun u2 => if u2 = 0 then (some (s.2.1, s.2.2.1, s.2.2.2.1, s.2.2.2.2.1, s.2.2.2.2.2.1, s.2.2.2.2.2.2.1, s.2.2.2.2.2.2.2.1, s.2.2.2.2.2.2.2.2.1, s.2.2.2.2.2.2.2.2.2.1, s.2.2.2.2.2.2.2.2.2.2.1, s.2.2.2.2.2.2.2.2.2.2.2)) else (f_X3_readRule script_end s.2.2.2.2.2.2.2.2.2.1 s.2.2.2.2.2.2.2.2.2.2.1 s.2.2.2.2.2.2.2.2.2.2.2 script_tape_size script_tape_bytes s.2.1 s.2.2.1 s.2.2.2.1 s.2.2.2.2.1 s.2.2.2.2.2.1 s.2.2.2.2.2.2.1 s.2.2.2.2.2.2.2.1 s.2.2.2.2.2.2.2.2.1).bind fun u3 => (f_X7_isSound u3.2.2.1).bind fun u4 => if u4 = 0 then (some (u3.2.2.2.1, u3.2.2.2.2.1, u3.2.2.2.2.2.1, u3.2.2.2.2.2.2.1, u3.2.2.2.2.2.2.2.1, u3.2.2.2.2.2.2.2.2.1, u3.2.2.2.2.2.2.2.2.2.1, u3.2.2.2.2.2.2.2.2.2.2, u3.1, u3.2.1, u3.2.2.1)) else (f_X7_isAtEnd script_end u3.1).bind fun u5 => if u5 = 0 then ((f_X7_want script_end u3.1 u3.2.1 u3.2.2.1 script_tape_size script_tape_bytes (59 : Int32)).bind fun u6 => nm (s.1 + (1 : Int32)) fun v7 => go (v7, u3.2.2.2.1, u3.2.2.2.2.1, u3.2.2.2.2.2.1, u3.2.2.2.2.2.2.1, u3.2.2.2.2.2.2.2.1, u3.2.2.2.2.2.2.2.2.1, u3.2.2.2.2.2.2.2.2.2.1, u3.2.2.2.2.2.2.2.2.2.2, u6.1, u6.2.1, u6.2.2)) else some (u3.2.2.2.1, u3.2.2.2.2.1, u3.2.2.2.2.2.1, u3.2.2.2.2.2.2.1, u3.2.2.2.2.2.2.2.1, u3.2.2.2.2.2.2.2.2.1, u3.2.2.2.2.2.2.2.2.2.1, u3.2.2.2.2.2.2.2.2.2.2, u3.1, u3.2.1, u3.2.2.1)
def f_X3_read (p1_size : Int32) (p1_rules : Int32) (p1_signs : (Nat → Int32)) (p1_values : (Nat → Int32)) (p1_letters : (Nat → Int32)) (p1_amounts : (Nat → Int32)) (p1_conditions : (Nat → Int32)) (p1_ends : (Nat → Int32)) (script_end : Int32) (script_place : Int32) (script_sign : Int32) (script_fault : Int32) (script_tape_size : Int32) (script_tape_bytes : (Nat → Int32)) : Option (Int32 × Int32 × (Nat → Int32) × (Nat → Int32) × (Nat → Int32) × (Nat → Int32) × (Nat → Int32) × (Nat → Int32) × Int32 × Int32 × Int32) := (f_X2_clear p1_size p1_rules).bind fun u1 => L_X3_read_14 script_end script_tape_size script_tape_bytes fu ((0 : Int32), u1.1, u1.2, p1_signs, p1_values, p1_letters, p1_amounts, p1_conditions, p1_ends, script_place, script_sign, script_fault)
theorem dX3_read_0 : decode cX3_read 0 = .ok (.aload_n 0, 1) := by decide +kernel
theorem dX3_read_1 : decode cX3_read 1 = .ok (.aload_n 1, 1) := by decide +kernel
theorem dX3_read_2 : decode cX3_read 2 = .ok (.putfield 15, 3) := by decide +kernel
theorem dX3_read_5 : decode cX3_read 5 = .ok (.aload_n 0, 1) := by decide +kernel
theorem dX3_read_6 : decode cX3_read 6 = .ok (.getfield 15, 3) := by decide +kernel
theorem dX3_read_9 : decode cX3_read 9 = .ok (.invokevirtual 19, 3) := by decide +kernel
theorem dX3_read_12 : decode cX3_read 12 = .ok (.iconst 0, 1) := by decide +kernel
theorem dX3_read_13 : decode cX3_read 13 = .ok (.istore_n 2, 1) := by decide +kernel
theorem dX3_read_14 : decode cX3_read 14 = .ok (.iload_n 2, 1) := by decide +kernel
theorem dX3_read_15 : decode cX3_read 15 = .ok (.bipush 16, 2) := by decide +kernel
theorem dX3_read_17 : decode cX3_read 17 = .ok (.if_icmp .gt 53, 3) := by decide +kernel
theorem dX3_read_20 : decode cX3_read 20 = .ok (.aload_n 0, 1) := by decide +kernel
theorem dX3_read_21 : decode cX3_read 21 = .ok (.getfield 9, 3) := by decide +kernel
theorem dX3_read_24 : decode cX3_read 24 = .ok (.invokevirtual 24, 3) := by decide +kernel
theorem dX3_read_27 : decode cX3_read 27 = .ok (.ifCond .eq 43, 3) := by decide +kernel
theorem dX3_read_30 : decode cX3_read 30 = .ok (.aload_n 0, 1) := by decide +kernel
theorem dX3_read_31 : decode cX3_read 31 = .ok (.invokevirtual 30, 3) := by decide +kernel
theorem dX3_read_34 : decode cX3_read 34 = .ok (.aload_n 0, 1) := by decide +kernel
theorem dX3_read_35 : decode cX3_read 35 = .ok (.getfield 9, 3) := by decide +kernel
theorem dX3_read_38 : decode cX3_read 38 = .ok (.invokevirtual 24, 3) := by decide +kernel
theorem dX3_read_41 : decode cX3_read 41 = .ok (.ifCond .eq 13, 3) := by decide +kernel
theorem dX3_read_44 : decode cX3_read 44 = .ok (.aload_n 0, 1) := by decide +kernel
theorem dX3_read_45 : decode cX3_read 45 = .ok (.getfield 9, 3) := by decide +kernel
theorem dX3_read_48 : decode cX3_read 48 = .ok (.invokevirtual 33, 3) := by decide +kernel
theorem dX3_read_51 : decode cX3_read 51 = .ok (.ifCond .eq 4, 3) := by decide +kernel
theorem dX3_read_54 : decode cX3_read 54 = .ok (.return_, 1) := by decide +kernel
theorem dX3_read_55 : decode cX3_read 55 = .ok (.aload_n 0, 1) := by decide +kernel
theorem dX3_read_56 : decode cX3_read 56 = .ok (.getfield 9, 3) := by decide +kernel
theorem dX3_read_59 : decode cX3_read 59 = .ok (.bipush 59, 2) := by decide +kernel
theorem dX3_read_61 : decode cX3_read 61 = .ok (.invokevirtual 36, 3) := by decide +kernel
theorem dX3_read_64 : decode cX3_read 64 = .ok (.iinc 2 1, 3) := by decide +kernel
theorem dX3_read_67 : decode cX3_read 67 = .ok (.goto (-53), 3) := by decide +kernel
theorem dX3_read_70 : decode cX3_read 70 = .ok (.return_, 1) := by decide +kernel
set_option maxHeartbeats 4000000 in
set_option maxRecDepth 100000 in
theorem kL_X3_read_14 {X : GC} {E : GE} (C : Cx X E cX3_read RX3 75 3) (o_t : Nat) (r_t_script : Nat) (r_t_law : Nat) (o_p1 : Nat) (a_p1 : Nat → Nat) (r_script_tape : Nat) (a_script_tape : Nat → Nat) (script_end : Int32) (script_tape_size : Int32) (script_tape_bytes : (Nat → Int32)) {r : Int32 × Int32 × (Nat → Int32) × (Nat → Int32) × (Nat → Int32) × (Nat → Int32) × (Nat → Int32) × (Nat → Int32) × Int32 × Int32 × Int32} (hret : RtV X E cX3_read 0 0 (fun w => w = (W_X3_read E o_t r_t_script o_p1 o_p1 a_p1 r_t_script r_script_tape r_script_tape a_script_tape r.1 r.2.1 r.2.2.1 r.2.2.2.1 r.2.2.2.2.1 r.2.2.2.2.2.1 r.2.2.2.2.2.2.1 r.2.2.2.2.2.2.2.1 script_end r.2.2.2.2.2.2.2.2.1 r.2.2.2.2.2.2.2.2.2.1 r.2.2.2.2.2.2.2.2.2.2 script_tape_size script_tape_bytes))) : ∀ (n : Nat) (s : Int32 × Int32 × Int32 × (Nat → Int32) × (Nat → Int32) × (Nat → Int32) × (Nat → Int32) × (Nat → Int32) × (Nat → Int32) × Int32 × Int32 × Int32), L_X3_read_14 script_end script_tape_size script_tape_bytes n s = some r → Gx X E 0 0 (W_X3_read E o_t r_t_script o_p1 o_p1 a_p1 r_t_script r_script_tape r_script_tape a_script_tape s.2.1 s.2.2.1 s.2.2.2.1 s.2.2.2.2.1 s.2.2.2.2.2.1 s.2.2.2.2.2.2.1 s.2.2.2.2.2.2.2.1 s.2.2.2.2.2.2.2.2.1 script_end s.2.2.2.2.2.2.2.2.2.1 s.2.2.2.2.2.2.2.2.2.2.1 s.2.2.2.2.2.2.2.2.2.2.2 script_tape_size script_tape_bytes) 14 [(0, .ref o_t), (2, .int s.1)] [] := by
  unfold L_X3_read_14
  refine lp_ind _ (fun go ih s h => ?_)
  refine g_iload_n (pc := 14) C dX3_read_14 rfl 1 rfl ?_
  refine g_bipush (pc := 15) (v := 16) C dX3_read_15 (by decide) ?_
  refine g_icmp_gt (pc := 17) (tgt := 70) C dX3_read_17 (by decide) h (fun h => ?_) (fun h => ?_)
  · cases h
    exact hret _ _ _ dX3_read_70 rfl
  · refine g_aload_n (pc := 20) C dX3_read_20 rfl 0 rfl ?_
    refine g_get (pc := 21) C fl_X3_9 dX3_read_21 0 rfl rfl ?_
    obtain ⟨u2, hu2, h⟩ := bs h
    refine g_callV (pc := 24) (st := []) (st1 := [.int u2]) (ws' := (W_X3_read E o_t r_t_script o_p1 o_p1 a_p1 r_t_script r_script_tape r_script_tape a_script_tape s.2.1 s.2.2.1 s.2.2.2.1 s.2.2.2.2.1 s.2.2.2.2.2.1 s.2.2.2.2.2.2.1 s.2.2.2.2.2.2.2.1 s.2.2.2.2.2.2.2.2.1 script_end s.2.2.2.2.2.2.2.2.2.1 s.2.2.2.2.2.2.2.2.2.2.1 s.2.2.2.2.2.2.2.2.2.2.2 script_tape_size script_tape_bytes)) C mv_X7_isSound mi_X7_isSound ml_X3_24 (c_X7_isSound X.2.1 E r_t_script r_script_tape script_end s.2.2.2.2.2.2.2.2.2.1 s.2.2.2.2.2.2.2.2.2.2.1 s.2.2.2.2.2.2.2.2.2.2.2 u2 hu2) dX3_read_24 (by decide) rfl (Nat.le_of_ble_eq_true rfl) 8 6 rfl rfl [8] rfl (by decide) rfl rfl rfl rfl ?_
    refine g_if_eq (pc := 27) (tgt := 70) C dX3_read_27 (by decide) h (fun h => ?_) (fun h => ?_)
    · cases h
      exact hret _ _ _ dX3_read_70 rfl
    · refine g_aload_n (pc := 30) C dX3_read_30 rfl 0 rfl ?_
      obtain ⟨u3, hu3, h⟩ := bs h
      refine g_callV (pc := 31) (st := []) (st1 := []) (ws' := (W_X3_read E o_t r_t_script o_p1 o_p1 a_p1 r_t_script r_script_tape r_script_tape a_script_tape u3.2.2.2.1 u3.2.2.2.2.1 u3.2.2.2.2.2.1 u3.2.2.2.2.2.2.1 u3.2.2.2.2.2.2.2.1 u3.2.2.2.2.2.2.2.2.1 u3.2.2.2.2.2.2.2.2.2.1 u3.2.2.2.2.2.2.2.2.2.2 script_end u3.1 u3.2.1 u3.2.2.1 script_tape_size script_tape_bytes)) C mv_X3_readRule mi_X3_readRule ml_X3_30 (c_X3_readRule X.2.1 E o_t r_t_script o_p1 r_script_tape a_script_tape a_p1 script_end s.2.2.2.2.2.2.2.2.2.1 s.2.2.2.2.2.2.2.2.2.2.1 s.2.2.2.2.2.2.2.2.2.2.2 script_tape_size script_tape_bytes s.2.1 s.2.2.1 s.2.2.2.1 s.2.2.2.2.1 s.2.2.2.2.2.1 s.2.2.2.2.2.2.1 s.2.2.2.2.2.2.2.1 s.2.2.2.2.2.2.2.2.1 u3 hu3) dX3_read_31 (by decide) rfl (Nat.le_of_ble_eq_true rfl) 0 3 rfl rfl [0, 8, 9, 10, 1, 2, 3, 4, 5, 6, 7] rfl (by decide) rfl rfl rfl rfl ?_
      refine g_aload_n (pc := 34) C dX3_read_34 rfl 0 rfl ?_
      refine g_get (pc := 35) C fl_X3_9 dX3_read_35 0 rfl rfl ?_
      obtain ⟨u4, hu4, h⟩ := bs h
      refine g_callV (pc := 38) (st := []) (st1 := [.int u4]) (ws' := (W_X3_read E o_t r_t_script o_p1 o_p1 a_p1 r_t_script r_script_tape r_script_tape a_script_tape u3.2.2.2.1 u3.2.2.2.2.1 u3.2.2.2.2.2.1 u3.2.2.2.2.2.2.1 u3.2.2.2.2.2.2.2.1 u3.2.2.2.2.2.2.2.2.1 u3.2.2.2.2.2.2.2.2.2.1 u3.2.2.2.2.2.2.2.2.2.2 script_end u3.1 u3.2.1 u3.2.2.1 script_tape_size script_tape_bytes)) C mv_X7_isSound mi_X7_isSound ml_X3_24 (c_X7_isSound X.2.1 E r_t_script r_script_tape script_end u3.1 u3.2.1 u3.2.2.1 u4 hu4) dX3_read_38 (by decide) rfl (Nat.le_of_ble_eq_true rfl) 8 6 rfl rfl [8] rfl (by decide) rfl rfl rfl rfl ?_
      refine g_if_eq (pc := 41) (tgt := 54) C dX3_read_41 (by decide) h (fun h => ?_) (fun h => ?_)
      · cases h
        exact hret _ _ _ dX3_read_54 rfl
      · refine g_aload_n (pc := 44) C dX3_read_44 rfl 0 rfl ?_
        refine g_get (pc := 45) C fl_X3_9 dX3_read_45 0 rfl rfl ?_
        obtain ⟨u5, hu5, h⟩ := bs h
        refine g_callV (pc := 48) (st := []) (st1 := [.int u5]) (ws' := (W_X3_read E o_t r_t_script o_p1 o_p1 a_p1 r_t_script r_script_tape r_script_tape a_script_tape u3.2.2.2.1 u3.2.2.2.2.1 u3.2.2.2.2.2.1 u3.2.2.2.2.2.2.1 u3.2.2.2.2.2.2.2.1 u3.2.2.2.2.2.2.2.2.1 u3.2.2.2.2.2.2.2.2.2.1 u3.2.2.2.2.2.2.2.2.2.2 script_end u3.1 u3.2.1 u3.2.2.1 script_tape_size script_tape_bytes)) C mv_X7_isAtEnd mi_X7_isAtEnd ml_X3_33 (c_X7_isAtEnd X.2.1 E r_t_script r_script_tape script_end u3.1 u3.2.1 u3.2.2.1 u5 hu5) dX3_read_48 (by decide) rfl (Nat.le_of_ble_eq_true rfl) 8 6 rfl rfl [8] rfl (by decide) rfl rfl rfl rfl ?_
        refine g_if_eq (pc := 51) (tgt := 55) C dX3_read_51 (by decide) h (fun h => ?_) (fun h => ?_)
        · refine g_aload_n (pc := 55) C dX3_read_55 rfl 0 rfl ?_
          refine g_get (pc := 56) C fl_X3_9 dX3_read_56 0 rfl rfl ?_
          refine g_bipush (pc := 59) (v := 59) C dX3_read_59 (by decide) ?_
          obtain ⟨u6, hu6, h⟩ := bs h
          refine g_callV (pc := 61) (st := []) (st1 := []) (ws' := (W_X3_read E o_t r_t_script o_p1 o_p1 a_p1 r_t_script r_script_tape r_script_tape a_script_tape u3.2.2.2.1 u3.2.2.2.2.1 u3.2.2.2.2.2.1 u3.2.2.2.2.2.2.1 u3.2.2.2.2.2.2.2.1 u3.2.2.2.2.2.2.2.2.1 u3.2.2.2.2.2.2.2.2.2.1 u3.2.2.2.2.2.2.2.2.2.2 script_end u6.1 u6.2.1 u6.2.2 script_tape_size script_tape_bytes)) C mv_X7_want mi_X7_want ml_X3_36 (c_X7_want X.2.1 E r_t_script r_script_tape a_script_tape script_end u3.1 u3.2.1 u3.2.2.1 script_tape_size script_tape_bytes (59 : Int32) u6 hu6) dX3_read_61 (by decide) rfl (Nat.le_of_ble_eq_true rfl) 8 6 rfl rfl [8, 9, 10] rfl (by decide) rfl rfl rfl rfl ?_
          refine g_iincn (pc := 64) (j := 1) (d := 1) (lv' := fun v7 => [(2, .int v7), (0, .ref o_t)]) C dX3_read_64 rfl (by decide) (by decide) (fun _ => rfl) h (fun v7 h => ?_)
          refine g_goto (pc := 67) (tgt := 14) C dX3_read_67 (by decide) ?_
          refine g_sub [1, 0] rfl ?_
          exact ih _ h
        · cases h
          exact hret _ _ _ dX3_read_54 rfl
set_option maxHeartbeats 4000000 in
set_option maxRecDepth 100000 in
theorem c_X3_read (l : Launch) (E : GE) (o_t : Nat) (r_t_script : Nat) (r_t_law : Nat) (o_p1 : Nat) (a_p1 : Nat → Nat) (r_script_tape : Nat) (a_script_tape : Nat → Nat) (p1_size : Int32) (p1_rules : Int32) (p1_signs : (Nat → Int32)) (p1_values : (Nat → Int32)) (p1_letters : (Nat → Int32)) (p1_amounts : (Nat → Int32)) (p1_conditions : (Nat → Int32)) (p1_ends : (Nat → Int32)) (script_end : Int32) (script_place : Int32) (script_sign : Int32) (script_fault : Int32) (script_tape_size : Int32) (script_tape_bytes : (Nat → Int32)) (r : Int32 × Int32 × (Nat → Int32) × (Nat → Int32) × (Nat → Int32) × (Nat → Int32) × (Nat → Int32) × (Nat → Int32) × Int32 × Int32 × Int32) (h : f_X3_read p1_size p1_rules p1_signs p1_values p1_letters p1_amounts p1_conditions p1_ends script_end script_place script_sign script_fault script_tape_size script_tape_bytes = some r) : Cn l E yX3_read cX3_read 3 none 75 0 0 [.ref o_t, .ref o_p1] (W_X3_read E o_t r_t_script r_t_law o_p1 a_p1 r_t_script r_script_tape r_script_tape a_script_tape p1_size p1_rules p1_signs p1_values p1_letters p1_amounts p1_conditions p1_ends script_end script_place script_sign script_fault script_tape_size script_tape_bytes) (fun w => w = (W_X3_read E o_t r_t_script o_p1 o_p1 a_p1 r_t_script r_script_tape r_script_tape a_script_tape r.1 r.2.1 r.2.2.1 r.2.2.2.1 r.2.2.2.2.1 r.2.2.2.2.2.1 r.2.2.2.2.2.2.1 r.2.2.2.2.2.2.2.1 script_end r.2.2.2.2.2.2.2.2.1 r.2.2.2.2.2.2.2.2.2.1 r.2.2.2.2.2.2.2.2.2.2 script_tape_size script_tape_bytes)) none := by
  refine Cn.ofV (by decide +kernel) (Nat.le_of_ble_eq_true rfl) (fun X hX hR C hret => ?_)
  subst hX
  show Gx X E 0 0 (W_X3_read E o_t r_t_script r_t_law o_p1 a_p1 r_t_script r_script_tape r_script_tape a_script_tape p1_size p1_rules p1_signs p1_values p1_letters p1_amounts p1_conditions p1_ends script_end script_place script_sign script_fault script_tape_size script_tape_bytes) 0 [(0, .ref o_t), (1, .ref o_p1)] []
  unfold f_X3_read at h
  refine g_aload_n (pc := 0) C dX3_read_0 rfl 0 rfl ?_
  refine g_aload_n (pc := 1) C dX3_read_1 rfl 1 rfl ?_
  refine g_put (pc := 2) (ws' := (W_X3_read E o_t r_t_script o_p1 o_p1 a_p1 r_t_script r_script_tape r_script_tape a_script_tape p1_size p1_rules p1_signs p1_values p1_letters p1_amounts p1_conditions p1_ends script_end script_place script_sign script_fault script_tape_size script_tape_bytes)) C (.object "HairpinLocks$Law") fl_X3_15 dX3_read_2 0 rfl (by decide +kernel) rfl rfl (Nat.le_of_ble_eq_true rfl) rfl ?_
  refine g_aload_n (pc := 5) C dX3_read_5 rfl 0 rfl ?_
  refine g_get (pc := 6) C fl_X3_15 dX3_read_6 0 rfl rfl ?_
  obtain ⟨u1, hu1, h⟩ := bs h
  refine g_callV (pc := 9) (st := []) (st1 := []) (ws' := (W_X3_read E o_t r_t_script o_p1 o_p1 a_p1 r_t_script r_script_tape r_script_tape a_script_tape u1.1 u1.2 p1_signs p1_values p1_letters p1_amounts p1_conditions p1_ends script_end script_place script_sign script_fault script_tape_size script_tape_bytes)) C mv_X2_clear mi_X2_clear ml_X3_19 (c_X2_clear X.2.1 E o_p1 a_p1 p1_size p1_rules u1 hu1) dX3_read_9 (by decide) rfl (Nat.le_of_ble_eq_true rfl) 1 2 rfl rfl [1] rfl (by decide) rfl rfl rfl rfl ?_
  refine g_iconst (pc := 12) (v := 0) C dX3_read_12 (by decide) ?_
  refine g_istore_n (pc := 13) (lv' := [(2, .int (0 : Int32)), (0, .ref o_t), (1, .ref o_p1)]) C dX3_read_13 rfl (by decide) rfl ?_
  refine g_sub [1, 0] rfl ?_
  refine kL_X3_read_14 C o_t r_t_script r_t_law o_p1 a_p1 r_script_tape a_script_tape script_end script_tape_size script_tape_bytes hret  _ _ h
