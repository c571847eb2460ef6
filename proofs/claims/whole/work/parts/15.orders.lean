abbrev W_X4_carryOut (E : GE) (O_t : Nat) (r_t_script : Nat) (a_t : Nat → Nat) (O_p1 : Nat) (a_p1 : Nat → Nat) (O_p2 : Nat) (a_p2 : Nat → Nat) (t_lines : Int32) (t_told : Int32) (t_sorts : (Nat → Int32)) (t_numbers : (Nat → Int32)) (t_ones : (Nat → Int32)) (t_others : (Nat → Int32)) (t_values : (Nat → Int32)) (p1_told : Int32) (p1_barred : Int32) (p1_one : (Nat → Int32)) (p1_other : (Nat → Int32)) (p1_wards : (Nat → Int32)) (p1_fits : (Nat → Int32)) (p1_bent : (Nat → Int32)) (p2_told : Int32) (p2_round : Int32) (p2_x : Int32) (p2_rust : (Nat → Int32)) : va_W := [(O_t, ob_X4 r_t_script a_t t_lines t_told), (a_t 1, .inl (E.2.1, 16, .inl t_sorts)), (a_t 2, .inl (E.2.1, 16, .inl t_numbers)), (a_t 3, .inl (E.2.1, 16, .inl t_ones)), (a_t 4, .inl (E.2.1, 16, .inl t_others)), (a_t 5, .inl (E.2.1, 16, .inl t_values)), (O_p1, ob_X0 a_p1 p1_told p1_barred), (a_p1 0, .inl (E.2.1, 24, .inl p1_one)), (a_p1 1, .inl (E.2.1, 24, .inl p1_other)), (a_p1 2, .inl (E.2.1, 24, .inl p1_wards)), (a_p1 3, .inl (E.2.1, 24, .inl p1_fits)), (a_p1 4, .inl (E.2.1, 6, .inl p1_bent)), (O_p2, ob_X9 a_p2 p2_told p2_round p2_x), (a_p2 0, .inl (E.2.1, 24, .inl p2_rust))]
def L_X4_carryOut_2 (t_lines : Int32) (t_sorts : (Nat → Int32)) (t_numbers : (Nat → Int32)) (t_ones : (Nat → Int32)) (t_others : (Nat → Int32)) (t_values : (Nat → Int32)) (p1_fits : (Nat → Int32)) (k0 : Int32 × Int32 × (Nat → Int32) × (Nat → Int32) × (Nat → Int32) × (Nat → Int32) × (Nat → Int32) → Option (Int32 × Int32 × (Nat → Int32) × (Nat → Int32) × (Nat → Int32) × (Nat → Int32) × (Nat → Int32) × (Nat → Int32))) : Nat → Int32 × Int32 × Int32 × (Nat → Int32) × (Nat → Int32) × (Nat → Int32) × (Nat → Int32) × (Nat → Int32) → Option (Int32 × Int32 × (Nat → Int32) × (Nat → Int32) × (Nat → Int32) × (Nat → Int32) × (Nat → Int32) × (Nat → Int32)) := lp fun go s => if t_lines ≤ s.1 then (k0 (s.2.1, s.2.2.1, s.2.2.2.1, s.2.2.2.2.1, s.2.2.2.2.2.1, s.2.2.2.2.2.2.1, s.2.2.2.2.2.2.2)) else if (16 : Int32) ≤ s.1 then (k0 (s.2.1, s.2.2.1, s.2.2.2.1, s.2.2.2.2.1, s.2.2.2.2.2.1, s.2.2.2.2.2.2.1, s.2.2.2.2.2.2.2)) else rd t_numbers 16 s.1 fun v1 => rd t_sorts 16 s.1 fun v2 => if v2 = (3 : Int32) then (rd t_values 16 s.1 fun v14 => (f_X0_bend s.2.2.2.2.2.2.1 v1 v14).bind fun u15 => nm (s.1 + (1 : Int32)) fun v16 => go (v16, s.2.1, s.2.2.1, s.2.2.2.1, s.2.2.2.2.1, s.2.2.2.2.2.1, u15, s.2.2.2.2.2.2.2)) else rd t_sorts 16 s.1 fun v3 => if v3 = 0 then (rd t_ones 16 s.1 fun v8 => rd t_others 16 s.1 fun v9 => rd t_values 16 s.1 fun v10 => (f_X0_tell s.2.1 s.2.2.1 s.2.2.2.1 s.2.2.2.2.1 s.2.2.2.2.2.1 v1 v8 v9 v10).bind fun u11 => (f_X9_unrust s.2.2.2.2.2.2.2 v1).bind fun u12 => nm (s.1 + (1 : Int32)) fun v13 => go (v13, u11.1, u11.2.1, u11.2.2.1, u11.2.2.2.1, u11.2.2.2.2, s.2.2.2.2.2.2.1, u12)) else rd t_sorts 16 s.1 fun v4 => jn (fun s5 : Int32 => (f_X0_bar s.2.1 s.2.2.1 v1 s5).bind fun u6 => nm (s.1 + (1 : Int32)) fun v7 => go (v7, s.2.1, u6, s.2.2.2.1, s.2.2.2.2.1, s.2.2.2.2.2.1, s.2.2.2.2.2.2.1, s.2.2.2.2.2.2.2)) fun j109 => if v4 = (1 : Int32) then (j109 (1 : Int32)) else j109 (0 : Int32)
def f_X4_carryOut (t_lines : Int32) (t_sorts : (Nat → Int32)) (t_numbers : (Nat → Int32)) (t_ones : (Nat → Int32)) (t_others : (Nat → Int32)) (t_values : (Nat → Int32)) (p1_told : Int32) (p1_barred : Int32) (p1_one : (Nat → Int32)) (p1_other : (Nat → Int32)) (p1_wards : (Nat → Int32)) (p1_fits : (Nat → Int32)) (p1_bent : (Nat → Int32)) (p2_rust : (Nat → Int32)) : Option (Int32 × Int32 × (Nat → Int32) × (Nat → Int32) × (Nat → Int32) × (Nat → Int32) × (Nat → Int32) × (Nat → Int32)) := L_X4_carryOut_2 t_lines t_sorts t_numbers t_ones t_others t_values p1_fits (fun s17 => (f_X0_fitAll s17.2.2.2.2.1 p1_fits s17.2.2.2.2.2.1).bind fun u18 => some (s17.1, s17.2.1, s17.2.2.1, s17.2.2.2.1, s17.2.2.2.2.1, u18, s17.2.2.2.2.2.1, s17.2.2.2.2.2.2)) fu ((0 : Int32), p1_told, p1_barred, p1_one, p1_other, p1_wards, p1_bent, p2_rust)
theorem dX4_carryOut_0 : decode cX4_carryOut 0 = .ok (.iconst 0, 1) := by decide +kernel
theorem dX4_carryOut_1 : decode cX4_carryOut 1 = .ok (.istore_n 3, 1) := by decide +kernel
theorem dX4_carryOut_2 : decode cX4_carryOut 2 = .ok (.iload_n 3, 1) := by decide +kernel
theorem dX4_carryOut_3 : decode cX4_carryOut 3 = .ok (.aload_n 0, 1) := by decide +kernel
theorem dX4_carryOut_4 : decode cX4_carryOut 4 = .ok (.getfield 31, 3) := by decide +kernel
theorem dX4_carryOut_7 : decode cX4_carryOut 7 = .ok (.if_icmp .ge 111, 3) := by decide +kernel
theorem dX4_carryOut_10 : decode cX4_carryOut 10 = .ok (.iload_n 3, 1) := by decide +kernel
theorem dX4_carryOut_11 : decode cX4_carryOut 11 = .ok (.bipush 16, 2) := by decide +kernel
theorem dX4_carryOut_13 : decode cX4_carryOut 13 = .ok (.if_icmp .ge 105, 3) := by decide +kernel
theorem dX4_carryOut_16 : decode cX4_carryOut 16 = .ok (.aload_n 0, 1) := by decide +kernel
theorem dX4_carryOut_17 : decode cX4_carryOut 17 = .ok (.getfield 15, 3) := by decide +kernel
theorem dX4_carryOut_20 : decode cX4_carryOut 20 = .ok (.iload_n 3, 1) := by decide +kernel
theorem dX4_carryOut_21 : decode cX4_carryOut 21 = .ok (.iaload, 1) := by decide +kernel
theorem dX4_carryOut_22 : decode cX4_carryOut 22 = .ok (.istore 4, 2) := by decide +kernel
theorem dX4_carryOut_24 : decode cX4_carryOut 24 = .ok (.aload_n 0, 1) := by decide +kernel
theorem dX4_carryOut_25 : decode cX4_carryOut 25 = .ok (.getfield 9, 3) := by decide +kernel
theorem dX4_carryOut_28 : decode cX4_carryOut 28 = .ok (.iload_n 3, 1) := by decide +kernel
theorem dX4_carryOut_29 : decode cX4_carryOut 29 = .ok (.iaload, 1) := by decide +kernel
theorem dX4_carryOut_30 : decode cX4_carryOut 30 = .ok (.iconst 3, 1) := by decide +kernel
theorem dX4_carryOut_31 : decode cX4_carryOut 31 = .ok (.if_icmp .ne 18, 3) := by decide +kernel
theorem dX4_carryOut_34 : decode cX4_carryOut 34 = .ok (.aload_n 1, 1) := by decide +kernel
theorem dX4_carryOut_35 : decode cX4_carryOut 35 = .ok (.iload 4, 2) := by decide +kernel
theorem dX4_carryOut_37 : decode cX4_carryOut 37 = .ok (.aload_n 0, 1) := by decide +kernel
theorem dX4_carryOut_38 : decode cX4_carryOut 38 = .ok (.getfield 24, 3) := by decide +kernel
theorem dX4_carryOut_41 : decode cX4_carryOut 41 = .ok (.iload_n 3, 1) := by decide +kernel
theorem dX4_carryOut_42 : decode cX4_carryOut 42 = .ok (.iaload, 1) := by decide +kernel
theorem dX4_carryOut_43 : decode cX4_carryOut 43 = .ok (.invokevirtual 91, 3) := by decide +kernel
theorem dX4_carryOut_46 : decode cX4_carryOut 46 = .ok (.goto 66, 3) := by decide +kernel
theorem dX4_carryOut_49 : decode cX4_carryOut 49 = .ok (.aload_n 0, 1) := by decide +kernel
theorem dX4_carryOut_50 : decode cX4_carryOut 50 = .ok (.getfield 9, 3) := by decide +kernel
theorem dX4_carryOut_53 : decode cX4_carryOut 53 = .ok (.iload_n 3, 1) := by decide +kernel
theorem dX4_carryOut_54 : decode cX4_carryOut 54 = .ok (.iaload, 1) := by decide +kernel
theorem dX4_carryOut_55 : decode cX4_carryOut 55 = .ok (.ifCond .ne 36, 3) := by decide +kernel
theorem dX4_carryOut_58 : decode cX4_carryOut 58 = .ok (.aload_n 1, 1) := by decide +kernel
theorem dX4_carryOut_59 : decode cX4_carryOut 59 = .ok (.iload 4, 2) := by decide +kernel
theorem dX4_carryOut_61 : decode cX4_carryOut 61 = .ok (.aload_n 0, 1) := by decide +kernel
theorem dX4_carryOut_62 : decode cX4_carryOut 62 = .ok (.getfield 18, 3) := by decide +kernel
theorem dX4_carryOut_65 : decode cX4_carryOut 65 = .ok (.iload_n 3, 1) := by decide +kernel
theorem dX4_carryOut_66 : decode cX4_carryOut 66 = .ok (.iaload, 1) := by decide +kernel
theorem dX4_carryOut_67 : decode cX4_carryOut 67 = .ok (.aload_n 0, 1) := by decide +kernel
theorem dX4_carryOut_68 : decode cX4_carryOut 68 = .ok (.getfield 21, 3) := by decide +kernel
theorem dX4_carryOut_71 : decode cX4_carryOut 71 = .ok (.iload_n 3, 1) := by decide +kernel
theorem dX4_carryOut_72 : decode cX4_carryOut 72 = .ok (.iaload, 1) := by decide +kernel
theorem dX4_carryOut_73 : decode cX4_carryOut 73 = .ok (.aload_n 0, 1) := by decide +kernel
theorem dX4_carryOut_74 : decode cX4_carryOut 74 = .ok (.getfield 24, 3) := by decide +kernel
theorem dX4_carryOut_77 : decode cX4_carryOut 77 = .ok (.iload_n 3, 1) := by decide +kernel
theorem dX4_carryOut_78 : decode cX4_carryOut 78 = .ok (.iaload, 1) := by decide +kernel
theorem dX4_carryOut_79 : decode cX4_carryOut 79 = .ok (.invokevirtual 96, 3) := by decide +kernel
theorem dX4_carryOut_82 : decode cX4_carryOut 82 = .ok (.aload_n 2, 1) := by decide +kernel
theorem dX4_carryOut_83 : decode cX4_carryOut 83 = .ok (.iload 4, 2) := by decide +kernel
theorem dX4_carryOut_85 : decode cX4_carryOut 85 = .ok (.invokevirtual 100, 3) := by decide +kernel
theorem dX4_carryOut_88 : decode cX4_carryOut 88 = .ok (.goto 24, 3) := by decide +kernel
theorem dX4_carryOut_91 : decode cX4_carryOut 91 = .ok (.aload_n 1, 1) := by decide +kernel
theorem dX4_carryOut_92 : decode cX4_carryOut 92 = .ok (.iload 4, 2) := by decide +kernel
theorem dX4_carryOut_94 : decode cX4_carryOut 94 = .ok (.aload_n 0, 1) := by decide +kernel
theorem dX4_carryOut_95 : decode cX4_carryOut 95 = .ok (.getfield 9, 3) := by decide +kernel
theorem dX4_carryOut_98 : decode cX4_carryOut 98 = .ok (.iload_n 3, 1) := by decide +kernel
theorem dX4_carryOut_99 : decode cX4_carryOut 99 = .ok (.iaload, 1) := by decide +kernel
theorem dX4_carryOut_100 : decode cX4_carryOut 100 = .ok (.iconst 1, 1) := by decide +kernel
theorem dX4_carryOut_101 : decode cX4_carryOut 101 = .ok (.if_icmp .ne 7, 3) := by decide +kernel
theorem dX4_carryOut_104 : decode cX4_carryOut 104 = .ok (.iconst 1, 1) := by decide +kernel
theorem dX4_carryOut_105 : decode cX4_carryOut 105 = .ok (.goto 4, 3) := by decide +kernel
theorem dX4_carryOut_108 : decode cX4_carryOut 108 = .ok (.iconst 0, 1) := by decide +kernel
theorem dX4_carryOut_109 : decode cX4_carryOut 109 = .ok (.invokevirtual 105, 3) := by decide +kernel
theorem dX4_carryOut_112 : decode cX4_carryOut 112 = .ok (.iinc 3 1, 3) := by decide +kernel
theorem dX4_carryOut_115 : decode cX4_carryOut 115 = .ok (.goto (-113), 3) := by decide +kernel
theorem dX4_carryOut_118 : decode cX4_carryOut 118 = .ok (.aload_n 1, 1) := by decide +kernel
theorem dX4_carryOut_119 : decode cX4_carryOut 119 = .ok (.invokevirtual 109, 3) := by decide +kernel
theorem dX4_carryOut_122 : decode cX4_carryOut 122 = .ok (.return_, 1) := by decide +kernel
set_option maxHeartbeats 4000000 in
set_option maxRecDepth 100000 in
theorem kL_X4_carryOut_2 {X : GC} {E : GE} (C : Cx X E cX4_carryOut RX4 3 5) (o_t : Nat) (r_t_script : Nat) (a_t : Nat → Nat) (o_p1 : Nat) (a_p1 : Nat → Nat) (o_p2 : Nat) (a_p2 : Nat → Nat) (t_told : Int32) (p2_told : Int32) (p2_round : Int32) (p2_x : Int32) (t_lines : Int32) (t_sorts : (Nat → Int32)) (t_numbers : (Nat → Int32)) (t_ones : (Nat → Int32)) (t_others : (Nat → Int32)) (t_values : (Nat → Int32)) (p1_fits : (Nat → Int32)) (k0 : Int32 × Int32 × (Nat → Int32) × (Nat → Int32) × (Nat → Int32) × (Nat → Int32) × (Nat → Int32) → Option (Int32 × Int32 × (Nat → Int32) × (Nat → Int32) × (Nat → Int32) × (Nat → Int32) × (Nat → Int32) × (Nat → Int32))) {r : Int32 × Int32 × (Nat → Int32) × (Nat → Int32) × (Nat → Int32) × (Nat → Int32) × (Nat → Int32) × (Nat → Int32)} (hret : RtV X E cX4_carryOut 0 0 (fun w => w = (W_X4_carryOut E o_t r_t_script a_t o_p1 a_p1 o_p2 a_p2 t_lines t_told t_sorts t_numbers t_ones t_others t_values r.1 r.2.1 r.2.2.1 r.2.2.2.1 r.2.2.2.2.1 r.2.2.2.2.2.1 r.2.2.2.2.2.2.1 p2_told p2_round p2_x r.2.2.2.2.2.2.2))) (hk0 : ∀ u, k0 u = some r → Gx X E 0 0 (W_X4_carryOut E o_t r_t_script a_t o_p1 a_p1 o_p2 a_p2 t_lines t_told t_sorts t_numbers t_ones t_others t_values u.1 u.2.1 u.2.2.1 u.2.2.2.1 u.2.2.2.2.1 p1_fits u.2.2.2.2.2.1 p2_told p2_round p2_x u.2.2.2.2.2.2) 118 [(1, .ref o_p1)] []) : ∀ (n : Nat) (s : Int32 × Int32 × Int32 × (Nat → Int32) × (Nat → Int32) × (Nat → Int32) × (Nat → Int32) × (Nat → Int32)), L_X4_carryOut_2 t_lines t_sorts t_numbers t_ones t_others t_values p1_fits k0 n s = some r → Gx X E 0 0 (W_X4_carryOut E o_t r_t_script a_t o_p1 a_p1 o_p2 a_p2 t_lines t_told t_sorts t_numbers t_ones t_others t_values s.2.1 s.2.2.1 s.2.2.2.1 s.2.2.2.2.1 s.2.2.2.2.2.1 p1_fits s.2.2.2.2.2.2.1 p2_told p2_round p2_x s.2.2.2.2.2.2.2) 2 [(0, .ref o_t), (1, .ref o_p1), (2, .ref o_p2), (3, .int s.1)] [] := by
  unfold L_X4_carryOut_2
  refine lp_ind _ (fun go ih s h => ?_)
  refine g_iload_n (pc := 2) C dX4_carryOut_2 rfl 3 rfl ?_
  refine g_aload_n (pc := 3) C dX4_carryOut_3 rfl 0 rfl ?_
  refine g_get (pc := 4) C fl_X4_31 dX4_carryOut_4 0 rfl rfl ?_
  refine g_icmp_ge (pc := 7) (tgt := 118) C dX4_carryOut_7 (by decide) h (fun h => ?_) (fun h => ?_)
  · refine g_sub [1] rfl ?_
    exact hk0 _ h
  · refine g_iload_n (pc := 10) C dX4_carryOut_10 rfl 3 rfl ?_
    refine g_bipush (pc := 11) (v := 16) C dX4_carryOut_11 (by decide) ?_
    refine g_icmp_ge (pc := 13) (tgt := 118) C dX4_carryOut_13 (by decide) h (fun h => ?_) (fun h => ?_)
    · refine g_sub [1] rfl ?_
      exact hk0 _ h
    · refine g_aload_n (pc := 16) C dX4_carryOut_16 rfl 0 rfl ?_
      refine g_get (pc := 17) C fl_X4_15 dX4_carryOut_17 0 rfl rfl ?_
      refine g_iload_n (pc := 20) C dX4_carryOut_20 rfl 3 rfl ?_
      refine g_iald (pc := 21) C dX4_carryOut_21 2 rfl h (fun v1 h => ?_)
      refine g_istore (pc := 22) (lv' := [(4, .int v1), (0, .ref o_t), (1, .ref o_p1), (2, .ref o_p2), (3, .int s.1)]) C dX4_carryOut_22 (by decide) rfl ?_
      refine g_aload_n (pc := 24) C dX4_carryOut_24 rfl 1 rfl ?_
      refine g_get (pc := 25) C fl_X4_9 dX4_carryOut_25 0 rfl rfl ?_
      refine g_iload_n (pc := 28) C dX4_carryOut_28 rfl 4 rfl ?_
      refine g_iald (pc := 29) C dX4_carryOut_29 1 rfl h (fun v2 h => ?_)
      refine g_iconst (pc := 30) (v := 3) C dX4_carryOut_30 (by decide) ?_
      refine g_icmp_ne (pc := 31) (tgt := 49) C dX4_carryOut_31 (by decide) h (fun h => ?_) (fun h => ?_)
      · refine g_aload_n (pc := 49) C dX4_carryOut_49 rfl 1 rfl ?_
        refine g_get (pc := 50) C fl_X4_9 dX4_carryOut_50 0 rfl rfl ?_
        refine g_iload_n (pc := 53) C dX4_carryOut_53 rfl 4 rfl ?_
        refine g_iald (pc := 54) C dX4_carryOut_54 1 rfl h (fun v3 h => ?_)
        refine g_if_ne (pc := 55) (tgt := 91) C dX4_carryOut_55 (by decide) h (fun h => ?_) (fun h => ?_)
        · refine g_aload_n (pc := 91) C dX4_carryOut_91 rfl 2 rfl ?_
          refine g_iload (pc := 92) C dX4_carryOut_92 0 rfl ?_
          refine g_aload_n (pc := 94) C dX4_carryOut_94 rfl 1 rfl ?_
          refine g_get (pc := 95) C fl_X4_9 dX4_carryOut_95 0 rfl rfl ?_
          refine g_iload_n (pc := 98) C dX4_carryOut_98 rfl 4 rfl ?_
          refine g_iald (pc := 99) C dX4_carryOut_99 1 rfl h (fun v4 h => ?_)
          refine g_iconst (pc := 100) (v := 1) C dX4_carryOut_100 (by decide) ?_
          refine g_jn (fun s5 : Int32 => Gx X E 0 0 (W_X4_carryOut E o_t r_t_script a_t o_p1 a_p1 o_p2 a_p2 t_lines t_told t_sorts t_numbers t_ones t_others t_values s.2.1 s.2.2.1 s.2.2.2.1 s.2.2.2.2.1 s.2.2.2.2.2.1 p1_fits s.2.2.2.2.2.2.1 p2_told p2_round p2_x s.2.2.2.2.2.2.2) 109 [(0, .ref o_t), (1, .ref o_p1), (2, .ref o_p2), (3, .int s.1)] [.int s5, .int v1, .ref o_p1]) h (fun s5 h => ?_) (fun j109 hj109 h => ?_)
          · obtain ⟨u6, hu6, h⟩ := bs h
            refine g_callV (pc := 109) (st := []) (st1 := []) (ws' := (W_X4_carryOut E o_t r_t_script a_t o_p1 a_p1 o_p2 a_p2 t_lines t_told t_sorts t_numbers t_ones t_others t_values s.2.1 u6 s.2.2.2.1 s.2.2.2.2.1 s.2.2.2.2.2.1 p1_fits s.2.2.2.2.2.2.1 p2_told p2_round p2_x s.2.2.2.2.2.2.2)) C mv_X0_bar mi_X0_bar ml_X4_105 (c_X0_bar X.2.1 E o_p1 a_p1 s.2.1 s.2.2.1 v1 s5 u6 hu6) dX4_carryOut_109 (by decide) rfl (Nat.le_of_ble_eq_true rfl) 6 0 rfl rfl [6] rfl (by decide) rfl rfl rfl rfl ?_
            refine g_iincn (pc := 112) (j := 3) (d := 1) (lv' := fun v7 => [(3, .int v7), (0, .ref o_t), (1, .ref o_p1), (2, .ref o_p2)]) C dX4_carryOut_112 rfl (by decide) (by decide) (fun _ => rfl) h (fun v7 h => ?_)
            refine g_goto (pc := 115) (tgt := 2) C dX4_carryOut_115 (by decide) ?_
            refine g_sub [1, 2, 3, 0] rfl ?_
            exact ih _ h
          refine g_icmp_ne (pc := 101) (tgt := 108) C dX4_carryOut_101 (by decide) h (fun h => ?_) (fun h => ?_)
          · refine g_iconst (pc := 108) (v := 0) C dX4_carryOut_108 (by decide) ?_
            refine g_sub [1, 2, 3, 4] rfl ?_
            exact hj109 _ h
          · refine g_iconst (pc := 104) (v := 1) C dX4_carryOut_104 (by decide) ?_
            refine g_goto (pc := 105) (tgt := 109) C dX4_carryOut_105 (by decide) ?_
            refine g_sub [1, 2, 3, 4] rfl ?_
            exact hj109 _ h
        · refine g_aload_n (pc := 58) C dX4_carryOut_58 rfl 2 rfl ?_
          refine g_iload (pc := 59) C dX4_carryOut_59 0 rfl ?_
          refine g_aload_n (pc := 61) C dX4_carryOut_61 rfl 1 rfl ?_
          refine g_get (pc := 62) C fl_X4_18 dX4_carryOut_62 0 rfl rfl ?_
          refine g_iload_n (pc := 65) C dX4_carryOut_65 rfl 4 rfl ?_
          refine g_iald (pc := 66) C dX4_carryOut_66 3 rfl h (fun v8 h => ?_)
          refine g_aload_n (pc := 67) C dX4_carryOut_67 rfl 1 rfl ?_
          refine g_get (pc := 68) C fl_X4_21 dX4_carryOut_68 0 rfl rfl ?_
          refine g_iload_n (pc := 71) C dX4_carryOut_71 rfl 4 rfl ?_
          refine g_iald (pc := 72) C dX4_carryOut_72 4 rfl h (fun v9 h => ?_)
          refine g_aload_n (pc := 73) C dX4_carryOut_73 rfl 1 rfl ?_
          refine g_get (pc := 74) C fl_X4_24 dX4_carryOut_74 0 rfl rfl ?_
          refine g_iload_n (pc := 77) C dX4_carryOut_77 rfl 4 rfl ?_
          refine g_iald (pc := 78) C dX4_carryOut_78 5 rfl h (fun v10 h => ?_)
          obtain ⟨u11, hu11, h⟩ := bs h
          refine g_callV (pc := 79) (st := []) (st1 := []) (ws' := (W_X4_carryOut E o_t r_t_script a_t o_p1 a_p1 o_p2 a_p2 t_lines t_told t_sorts t_numbers t_ones t_others t_values u11.1 u11.2.1 u11.2.2.1 u11.2.2.2.1 u11.2.2.2.2 p1_fits s.2.2.2.2.2.2.1 p2_told p2_round p2_x s.2.2.2.2.2.2.2)) C mv_X0_tell mi_X0_tell ml_X4_96 (c_X0_tell X.2.1 E o_p1 a_p1 s.2.1 s.2.2.1 s.2.2.2.1 s.2.2.2.2.1 s.2.2.2.2.2.1 v1 v8 v9 v10 u11 hu11) dX4_carryOut_79 (by decide) rfl (Nat.le_of_ble_eq_true rfl) 6 0 rfl rfl [6, 7, 8, 9] rfl (by decide) rfl rfl rfl rfl ?_
          refine g_aload_n (pc := 82) C dX4_carryOut_82 rfl 3 rfl ?_
          refine g_iload (pc := 83) C dX4_carryOut_83 0 rfl ?_
          obtain ⟨u12, hu12, h⟩ := bs h
          refine g_callV (pc := 85) (st := []) (st1 := []) (ws' := (W_X4_carryOut E o_t r_t_script a_t o_p1 a_p1 o_p2 a_p2 t_lines t_told t_sorts t_numbers t_ones t_others t_values u11.1 u11.2.1 u11.2.2.1 u11.2.2.2.1 u11.2.2.2.2 p1_fits s.2.2.2.2.2.2.1 p2_told p2_round p2_x u12)) C mv_X9_unrust mi_X9_unrust ml_X4_100 (c_X9_unrust X.2.1 E o_p2 a_p2 p2_told p2_round p2_x s.2.2.2.2.2.2.2 v1 u12 hu12) dX4_carryOut_85 (by decide) rfl (Nat.le_of_ble_eq_true rfl) 12 8 rfl rfl [12, 13] rfl (by decide) rfl rfl rfl rfl ?_
          refine g_goto (pc := 88) (tgt := 112) C dX4_carryOut_88 (by decide) ?_
          refine g_iincn (pc := 112) (j := 4) (d := 1) (lv' := fun v13 => [(3, .int v13), (4, .int v1), (0, .ref o_t), (1, .ref o_p1), (2, .ref o_p2)]) C dX4_carryOut_112 rfl (by decide) (by decide) (fun _ => rfl) h (fun v13 h => ?_)
          refine g_goto (pc := 115) (tgt := 2) C dX4_carryOut_115 (by decide) ?_
          refine g_sub [2, 3, 4, 0] rfl ?_
          exact ih _ h
      · refine g_aload_n (pc := 34) C dX4_carryOut_34 rfl 2 rfl ?_
        refine g_iload (pc := 35) C dX4_carryOut_35 0 rfl ?_
        refine g_aload_n (pc := 37) C dX4_carryOut_37 rfl 1 rfl ?_
        refine g_get (pc := 38) C fl_X4_24 dX4_carryOut_38 0 rfl rfl ?_
        refine g_iload_n (pc := 41) C dX4_carryOut_41 rfl 4 rfl ?_
        refine g_iald (pc := 42) C dX4_carryOut_42 5 rfl h (fun v14 h => ?_)
        obtain ⟨u15, hu15, h⟩ := bs h
        refine g_callV (pc := 43) (st := []) (st1 := []) (ws' := (W_X4_carryOut E o_t r_t_script a_t o_p1 a_p1 o_p2 a_p2 t_lines t_told t_sorts t_numbers t_ones t_others t_values s.2.1 s.2.2.1 s.2.2.2.1 s.2.2.2.2.1 s.2.2.2.2.2.1 p1_fits u15 p2_told p2_round p2_x s.2.2.2.2.2.2.2)) C mv_X0_bend mi_X0_bend ml_X4_91 (c_X0_bend X.2.1 E o_p1 a_p1 s.2.1 s.2.2.1 s.2.2.2.2.2.2.1 v1 v14 u15 hu15) dX4_carryOut_43 (by decide) rfl (Nat.le_of_ble_eq_true rfl) 6 0 rfl rfl [6, 11] rfl (by decide) rfl rfl rfl rfl ?_
        refine g_goto (pc := 46) (tgt := 112) C dX4_carryOut_46 (by decide) ?_
        refine g_iincn (pc := 112) (j := 4) (d := 1) (lv' := fun v16 => [(3, .int v16), (4, .int v1), (0, .ref o_t), (1, .ref o_p1), (2, .ref o_p2)]) C dX4_carryOut_112 rfl (by decide) (by decide) (fun _ => rfl) h (fun v16 h => ?_)
        refine g_goto (pc := 115) (tgt := 2) C dX4_carryOut_115 (by decide) ?_
        refine g_sub [2, 3, 4, 0] rfl ?_
        exact ih _ h
set_option maxHeartbeats 4000000 in
set_option maxRecDepth 100000 in
theorem c_X4_carryOut (l : Launch) (E : GE) (o_t : Nat) (r_t_script : Nat) (a_t : Nat → Nat) (o_p1 : Nat) (a_p1 : Nat → Nat) (o_p2 : Nat) (a_p2 : Nat → Nat) (t_lines : Int32) (t_told : Int32) (t_sorts : (Nat → Int32)) (t_numbers : (Nat → Int32)) (t_ones : (Nat → Int32)) (t_others : (Nat → Int32)) (t_values : (Nat → Int32)) (p1_told : Int32) (p1_barred : Int32) (p1_one : (Nat → Int32)) (p1_other : (Nat → Int32)) (p1_wards : (Nat → Int32)) (p1_fits : (Nat → Int32)) (p1_bent : (Nat → Int32)) (p2_told : Int32) (p2_round : Int32) (p2_x : Int32) (p2_rust : (Nat → Int32)) (r : Int32 × Int32 × (Nat → Int32) × (Nat → Int32) × (Nat → Int32) × (Nat → Int32) × (Nat → Int32) × (Nat → Int32)) (h : f_X4_carryOut t_lines t_sorts t_numbers t_ones t_others t_values p1_told p1_barred p1_one p1_other p1_wards p1_fits p1_bent p2_rust = some r) : Cn l E yX4_carryOut cX4_carryOut 5 none 3 0 0 [.ref o_t, .ref o_p1, .ref o_p2] (W_X4_carryOut E o_t r_t_script a_t o_p1 a_p1 o_p2 a_p2 t_lines t_told t_sorts t_numbers t_ones t_others t_values p1_told p1_barred p1_one p1_other p1_wards p1_fits p1_bent p2_told p2_round p2_x p2_rust) (fun w => w = (W_X4_carryOut E o_t r_t_script a_t o_p1 a_p1 o_p2 a_p2 t_lines t_told t_sorts t_numbers t_ones t_others t_values r.1 r.2.1 r.2.2.1 r.2.2.2.1 r.2.2.2.2.1 r.2.2.2.2.2.1 r.2.2.2.2.2.2.1 p2_told p2_round p2_x r.2.2.2.2.2.2.2)) none := by
  refine Cn.ofV (by decide +kernel) (Nat.le_of_ble_eq_true rfl) (fun X hX hR C hret => ?_)
  subst hX
  show Gx X E 0 0 (W_X4_carryOut E o_t r_t_script a_t o_p1 a_p1 o_p2 a_p2 t_lines t_told t_sorts t_numbers t_ones t_others t_values p1_told p1_barred p1_one p1_other p1_wards p1_fits p1_bent p2_told p2_round p2_x p2_rust) 0 [(0, .ref o_t), (1, .ref o_p1), (2, .ref o_p2)] []
  unfold f_X4_carryOut at h
  refine g_iconst (pc := 0) (v := 0) C dX4_carryOut_0 (by decide) ?_
  refine g_istore_n (pc := 1) (lv' := [(3, .int (0 : Int32)), (0, .ref o_t), (1, .ref o_p1), (2, .ref o_p2)]) C dX4_carryOut_1 rfl (by decide) rfl ?_
  refine g_sub [1, 2, 3, 0] rfl ?_
  refine kL_X4_carryOut_2 C o_t r_t_script a_t o_p1 a_p1 o_p2 a_p2 t_told p2_told p2_round p2_x t_lines t_sorts t_numbers t_ones t_others t_values p1_fits _ hret (fun s17 h => ?_) _ _ h
  refine g_aload_n (pc := 118) C dX4_carryOut_118 rfl 0 rfl ?_
  obtain ⟨u18, hu18, h⟩ := bs h
  refine g_callV (pc := 119) (st := []) (st1 := []) (ws' := (W_X4_carryOut E o_t r_t_script a_t o_p1 a_p1 o_p2 a_p2 t_lines t_told t_sorts t_numbers t_ones t_others t_values s17.1 s17.2.1 s17.2.2.1 s17.2.2.2.1 s17.2.2.2.2.1 u18 s17.2.2.2.2.2.1 p2_told p2_round p2_x s17.2.2.2.2.2.2)) C mv_X0_fitAll mi_X0_fitAll ml_X4_109 (c_X0_fitAll X.2.1 E o_p1 a_p1 s17.1 s17.2.1 s17.2.2.2.2.1 p1_fits s17.2.2.2.2.2.1 u18 hu18) dX4_carryOut_119 (by decide) rfl (Nat.le_of_ble_eq_true rfl) 6 0 rfl rfl [6, 9, 10, 11] rfl (by decide) rfl rfl rfl rfl ?_
  cases h
  exact hret _ _ _ dX4_carryOut_122 rfl
abbrev W_X4_readKind (E : GE) (O_t : Nat) (r_t_script : Nat) (a_t : Nat → Nat) (O_script : Nat) (r_script_tape : Nat) (O_script_tape : Nat) (a_script_tape : Nat → Nat) (t_lines : Int32) (t_told : Int32) (t_sorts : (Nat → Int32)) (t_numbers : (Nat → Int32)) (t_values : (Nat → Int32)) (script_end : Int32) (script_place : Int32) (script_sign : Int32) (script_fault : Int32) (script_tape_size : Int32) (script_tape_bytes : (Nat → Int32)) : va_W := [(O_t, ob_X4 r_t_script a_t t_lines t_told), (a_t 1, .inl (E.2.1, 16, .inl t_sorts)), (a_t 2, .inl (E.2.1, 16, .inl t_numbers)), (a_t 5, .inl (E.2.1, 16, .inl t_values)), (O_script, ob_X7 r_script_tape script_end script_place script_sign script_fault), (O_script_tape, ob_X8 a_script_tape script_tape_size), (a_script_tape 0, .inl (E.2.1, 260, .inl script_tape_bytes))]
def f_X4_readKind (t_lines : Int32) (t_sorts : (Nat → Int32)) (t_numbers : (Nat → Int32)) (t_values : (Nat → Int32)) (script_end : Int32) (script_place : Int32) (script_sign : Int32) (script_fault : Int32) (script_tape_size : Int32) (script_tape_bytes : (Nat → Int32)) : Option ((Nat → Int32) × (Nat → Int32) × (Nat → Int32) × Int32 × Int32 × Int32) := wr t_sorts 16 t_lines (3 : Int32) fun g1 => wr t_numbers 16 t_lines (script_sign - (97 : Int32)) fun g2 => (f_X7_step script_end script_place script_sign script_tape_size script_tape_bytes).bind fun u3 => (f_X7_want script_end u3.1 u3.2 script_fault script_tape_size script_tape_bytes (61 : Int32)).bind fun u4 => (f_X7_isSound u4.2.2).bind fun u5 => if u5 = 0 then (some (g1, g2, t_values, u4.1, u4.2.1, u4.2.2)) else (f_X7_number script_end u4.1 u4.2.1 u4.2.2 script_tape_size script_tape_bytes (2 : Int32) (63 : Int32)).bind fun u6 => wr t_values 16 t_lines u6.1 fun g7 => some (g1, g2, g7, u6.2.1, u6.2.2.1, u6.2.2.2)
theorem dX4_readKind_0 : decode cX4_readKind 0 = .ok (.aload_n 0, 1) := by decide +kernel
theorem dX4_readKind_1 : decode cX4_readKind 1 = .ok (.getfield 9, 3) := by decide +kernel
theorem dX4_readKind_4 : decode cX4_readKind 4 = .ok (.aload_n 0, 1) := by decide +kernel
theorem dX4_readKind_5 : decode cX4_readKind 5 = .ok (.getfield 31, 3) := by decide +kernel
theorem dX4_readKind_8 : decode cX4_readKind 8 = .ok (.iconst 3, 1) := by decide +kernel
theorem dX4_readKind_9 : decode cX4_readKind 9 = .ok (.iastore, 1) := by decide +kernel
theorem dX4_readKind_10 : decode cX4_readKind 10 = .ok (.aload_n 0, 1) := by decide +kernel
theorem dX4_readKind_11 : decode cX4_readKind 11 = .ok (.getfield 15, 3) := by decide +kernel
theorem dX4_readKind_14 : decode cX4_readKind 14 = .ok (.aload_n 0, 1) := by decide +kernel
theorem dX4_readKind_15 : decode cX4_readKind 15 = .ok (.getfield 31, 3) := by decide +kernel
theorem dX4_readKind_18 : decode cX4_readKind 18 = .ok (.aload_n 0, 1) := by decide +kernel
theorem dX4_readKind_19 : decode cX4_readKind 19 = .ok (.getfield 27, 3) := by decide +kernel
theorem dX4_readKind_22 : decode cX4_readKind 22 = .ok (.getfield 54, 3) := by decide +kernel
theorem dX4_readKind_25 : decode cX4_readKind 25 = .ok (.bipush 97, 2) := by decide +kernel
theorem dX4_readKind_27 : decode cX4_readKind 27 = .ok (.isub, 1) := by decide +kernel
theorem dX4_readKind_28 : decode cX4_readKind 28 = .ok (.iastore, 1) := by decide +kernel
theorem dX4_readKind_29 : decode cX4_readKind 29 = .ok (.aload_n 0, 1) := by decide +kernel
theorem dX4_readKind_30 : decode cX4_readKind 30 = .ok (.getfield 27, 3) := by decide +kernel
theorem dX4_readKind_33 : decode cX4_readKind 33 = .ok (.invokevirtual 77, 3) := by decide +kernel
theorem dX4_readKind_36 : decode cX4_readKind 36 = .ok (.aload_n 0, 1) := by decide +kernel
theorem dX4_readKind_37 : decode cX4_readKind 37 = .ok (.getfield 27, 3) := by decide +kernel
theorem dX4_readKind_40 : decode cX4_readKind 40 = .ok (.bipush 61, 2) := by decide +kernel
theorem dX4_readKind_42 : decode cX4_readKind 42 = .ok (.invokevirtual 50, 3) := by decide +kernel
theorem dX4_readKind_45 : decode cX4_readKind 45 = .ok (.aload_n 0, 1) := by decide +kernel
theorem dX4_readKind_46 : decode cX4_readKind 46 = .ok (.getfield 27, 3) := by decide +kernel
theorem dX4_readKind_49 : decode cX4_readKind 49 = .ok (.invokevirtual 38, 3) := by decide +kernel
theorem dX4_readKind_52 : decode cX4_readKind 52 = .ok (.ifCond .eq 22, 3) := by decide +kernel
theorem dX4_readKind_55 : decode cX4_readKind 55 = .ok (.aload_n 0, 1) := by decide +kernel
theorem dX4_readKind_56 : decode cX4_readKind 56 = .ok (.getfield 24, 3) := by decide +kernel
theorem dX4_readKind_59 : decode cX4_readKind 59 = .ok (.aload_n 0, 1) := by decide +kernel
theorem dX4_readKind_60 : decode cX4_readKind 60 = .ok (.getfield 31, 3) := by decide +kernel
theorem dX4_readKind_63 : decode cX4_readKind 63 = .ok (.aload_n 0, 1) := by decide +kernel
theorem dX4_readKind_64 : decode cX4_readKind 64 = .ok (.getfield 27, 3) := by decide +kernel
theorem dX4_readKind_67 : decode cX4_readKind 67 = .ok (.iconst 2, 1) := by decide +kernel
theorem dX4_readKind_68 : decode cX4_readKind 68 = .ok (.bipush 63, 2) := by decide +kernel
theorem dX4_readKind_70 : decode cX4_readKind 70 = .ok (.invokevirtual 80, 3) := by decide +kernel
theorem dX4_readKind_73 : decode cX4_readKind 73 = .ok (.iastore, 1) := by decide +kernel
theorem dX4_readKind_74 : decode cX4_readKind 74 = .ok (.return_, 1) := by decide +kernel
set_option maxHeartbeats 4000000 in
set_option maxRecDepth 100000 in
theorem c_X4_readKind (l : Launch) (E : GE) (o_t : Nat) (r_t_script : Nat) (a_t : Nat → Nat) (r_script_tape : Nat) (a_script_tape : Nat → Nat) (t_lines : Int32) (t_told : Int32) (t_sorts : (Nat → Int32)) (t_numbers : (Nat → Int32)) (t_values : (Nat → Int32)) (script_end : Int32) (script_place : Int32) (script_sign : Int32) (script_fault : Int32) (script_tape_size : Int32) (script_tape_bytes : (Nat → Int32)) (r : (Nat → Int32) × (Nat → Int32) × (Nat → Int32) × Int32 × Int32 × Int32) (h : f_X4_readKind t_lines t_sorts t_numbers t_values script_end script_place script_sign script_fault script_tape_size script_tape_bytes = some r) : Cn l E yX4_readKind cX4_readKind 1 none 3 0 0 [.ref o_t] (W_X4_readKind E o_t r_t_script a_t r_t_script r_script_tape r_script_tape a_script_tape t_lines t_told t_sorts t_numbers t_values script_end script_place script_sign script_fault script_tape_size script_tape_bytes) (fun w => w = (W_X4_readKind E o_t r_t_script a_t r_t_script r_script_tape r_script_tape a_script_tape t_lines t_told r.1 r.2.1 r.2.2.1 script_end r.2.2.2.1 r.2.2.2.2.1 r.2.2.2.2.2 script_tape_size script_tape_bytes)) none := by
  refine Cn.ofV (by decide +kernel) (Nat.le_of_ble_eq_true rfl) (fun X hX hR C hret => ?_)
  subst hX
  show Gx X E 0 0 (W_X4_readKind E o_t r_t_script a_t r_t_script r_script_tape r_script_tape a_script_tape t_lines t_told t_sorts t_numbers t_values script_end script_place script_sign script_fault script_tape_size script_tape_bytes) 0 [(0, .ref o_t)] []
  unfold f_X4_readKind at h
  refine g_aload_n (pc := 0) C dX4_readKind_0 rfl 0 rfl ?_
  refine g_get (pc := 1) C fl_X4_9 dX4_readKind_1 0 rfl rfl ?_
  refine g_aload_n (pc := 4) C dX4_readKind_4 rfl 0 rfl ?_
  refine g_get (pc := 5) C fl_X4_31 dX4_readKind_5 0 rfl rfl ?_
  refine g_iconst (pc := 8) (v := 3) C dX4_readKind_8 (by decide) ?_
  refine g_iast (pc := 9) C dX4_readKind_9 1 rfl h (fun g1 h => ?_)
  refine g_ws (ws' := (W_X4_readKind E o_t r_t_script a_t r_t_script r_script_tape r_script_tape a_script_tape t_lines t_told g1 t_numbers t_values script_end script_place script_sign script_fault script_tape_size script_tape_bytes)) rfl ?_
  refine g_aload_n (pc := 10) C dX4_readKind_10 rfl 0 rfl ?_
  refine g_get (pc := 11) C fl_X4_15 dX4_readKind_11 0 rfl rfl ?_
  refine g_aload_n (pc := 14) C dX4_readKind_14 rfl 0 rfl ?_
  refine g_get (pc := 15) C fl_X4_31 dX4_readKind_15 0 rfl rfl ?_
  refine g_aload_n (pc := 18) C dX4_readKind_18 rfl 0 rfl ?_
  refine g_get (pc := 19) C fl_X4_27 dX4_readKind_19 0 rfl rfl ?_
  refine g_get (pc := 22) C fl_X4_54 dX4_readKind_22 4 rfl rfl ?_
  refine g_bipush (pc := 25) (v := 97) C dX4_readKind_25 (by decide) ?_
  refine g_isub (pc := 27) C dX4_readKind_27 ?_
  refine g_iast (pc := 28) C dX4_readKind_28 2 rfl h (fun g2 h => ?_)
  refine g_ws (ws' := (W_X4_readKind E o_t r_t_script a_t r_t_script r_script_tape r_script_tape a_script_tape t_lines t_told g1 g2 t_values script_end script_place script_sign script_fault script_tape_size script_tape_bytes)) rfl ?_
  refine g_aload_n (pc := 29) C dX4_readKind_29 rfl 0 rfl ?_
  refine g_get (pc := 30) C fl_X4_27 dX4_readKind_30 0 rfl rfl ?_
  obtain ⟨u3, hu3, h⟩ := bs h
  refine g_callV (pc := 33) (st := []) (st1 := []) (ws' := (W_X4_readKind E o_t r_t_script a_t r_t_script r_script_tape r_script_tape a_script_tape t_lines t_told g1 g2 t_values script_end u3.1 u3.2 script_fault script_tape_size script_tape_bytes)) C mv_X7_step mi_X7_step ml_X4_77 (c_X7_step X.2.1 E r_t_script r_script_tape a_script_tape script_end script_place script_sign script_fault script_tape_size script_tape_bytes u3 hu3) dX4_readKind_33 (by decide) rfl (Nat.le_of_ble_eq_true rfl) 4 6 rfl rfl [4, 5, 6] rfl (by decide) rfl rfl rfl rfl ?_
  refine g_aload_n (pc := 36) C dX4_readKind_36 rfl 0 rfl ?_
  refine g_get (pc := 37) C fl_X4_27 dX4_readKind_37 0 rfl rfl ?_
  refine g_bipush (pc := 40) (v := 61) C dX4_readKind_40 (by decide) ?_
  obtain ⟨u4, hu4, h⟩ := bs h
  refine g_callV (pc := 42) (st := []) (st1 := []) (ws' := (W_X4_readKind E o_t r_t_script a_t r_t_script r_script_tape r_script_tape a_script_tape t_lines t_told g1 g2 t_values script_end u4.1 u4.2.1 u4.2.2 script_tape_size script_tape_bytes)) C mv_X7_want mi_X7_want ml_X4_50 (c_X7_want X.2.1 E r_t_script r_script_tape a_script_tape script_end u3.1 u3.2 script_fault script_tape_size script_tape_bytes (61 : Int32) u4 hu4) dX4_readKind_42 (by decide) rfl (Nat.le_of_ble_eq_true rfl) 4 6 rfl rfl [4, 5, 6] rfl (by decide) rfl rfl rfl rfl ?_
  refine g_aload_n (pc := 45) C dX4_readKind_45 rfl 0 rfl ?_
  refine g_get (pc := 46) C fl_X4_27 dX4_readKind_46 0 rfl rfl ?_
  obtain ⟨u5, hu5, h⟩ := bs h
  refine g_callV (pc := 49) (st := []) (st1 := [.int u5]) (ws' := (W_X4_readKind E o_t r_t_script a_t r_t_script r_script_tape r_script_tape a_script_tape t_lines t_told g1 g2 t_values script_end u4.1 u4.2.1 u4.2.2 script_tape_size script_tape_bytes)) C mv_X7_isSound mi_X7_isSound ml_X4_38 (c_X7_isSound X.2.1 E r_t_script r_script_tape script_end u4.1 u4.2.1 u4.2.2 u5 hu5) dX4_readKind_49 (by decide) rfl (Nat.le_of_ble_eq_true rfl) 4 6 rfl rfl [4] rfl (by decide) rfl rfl rfl rfl ?_
  refine g_if_eq (pc := 52) (tgt := 74) C dX4_readKind_52 (by decide) h (fun h => ?_) (fun h => ?_)
  · cases h
    exact hret _ _ _ dX4_readKind_74 rfl
  · refine g_aload_n (pc := 55) C dX4_readKind_55 rfl 0 rfl ?_
    refine g_get (pc := 56) C fl_X4_24 dX4_readKind_56 0 rfl rfl ?_
    refine g_aload_n (pc := 59) C dX4_readKind_59 rfl 0 rfl ?_
    refine g_get (pc := 60) C fl_X4_31 dX4_readKind_60 0 rfl rfl ?_
    refine g_aload_n (pc := 63) C dX4_readKind_63 rfl 0 rfl ?_
    refine g_get (pc := 64) C fl_X4_27 dX4_readKind_64 0 rfl rfl ?_
    refine g_iconst (pc := 67) (v := 2) C dX4_readKind_67 (by decide) ?_
    refine g_bipush (pc := 68) (v := 63) C dX4_readKind_68 (by decide) ?_
    obtain ⟨u6, hu6, h⟩ := bs h
    refine g_callV (pc := 70) (st := [.int t_lines, .ref (a_t 5)]) (st1 := [.int u6.1, .int t_lines, .ref (a_t 5)]) (ws' := (W_X4_readKind E o_t r_t_script a_t r_t_script r_script_tape r_script_tape a_script_tape t_lines t_told g1 g2 t_values script_end u6.2.1 u6.2.2.1 u6.2.2.2 script_tape_size script_tape_bytes)) C mv_X7_number mi_X7_number ml_X4_80 (c_X7_number X.2.1 E r_t_script r_script_tape a_script_tape script_end u4.1 u4.2.1 u4.2.2 script_tape_size script_tape_bytes (2 : Int32) (63 : Int32) u6 hu6) dX4_readKind_70 (by decide) rfl (Nat.le_of_ble_eq_true rfl) 4 6 rfl rfl [4, 5, 6] rfl (by decide) rfl rfl rfl rfl ?_
    refine g_iast (pc := 73) C dX4_readKind_73 3 rfl h (fun g7 h => ?_)
    refine g_ws (ws' := (W_X4_readKind E o_t r_t_script a_t r_t_script r_script_tape r_script_tape a_script_tape t_lines t_told g1 g2 g7 script_end u6.2.1 u6.2.2.1 u6.2.2.2 script_tape_size script_tape_bytes)) rfl ?_
    cases h
    exact hret _ _ _ dX4_readKind_74 rfl
abbrev W_X4_readRooms (E : GE) (O_t : Nat) (r_t_script : Nat) (a_t : Nat → Nat) (O_script : Nat) (r_script_tape : Nat) (O_script_tape : Nat) (a_script_tape : Nat → Nat) (t_lines : Int32) (t_told : Int32) (t_ones : (Nat → Int32)) (t_others : (Nat → Int32)) (t_values : (Nat → Int32)) (script_end : Int32) (script_place : Int32) (script_sign : Int32) (script_fault : Int32) (script_tape_size : Int32) (script_tape_bytes : (Nat → Int32)) : va_W := [(O_t, ob_X4 r_t_script a_t t_lines t_told), (a_t 3, .inl (E.2.1, 16, .inl t_ones)), (a_t 4, .inl (E.2.1, 16, .inl t_others)), (a_t 5, .inl (E.2.1, 16, .inl t_values)), (O_script, ob_X7 r_script_tape script_end script_place script_sign script_fault), (O_script_tape, ob_X8 a_script_tape script_tape_size), (a_script_tape 0, .inl (E.2.1, 260, .inl script_tape_bytes))]
def f_X4_readRooms (t_lines : Int32) (t_ones : (Nat → Int32)) (t_others : (Nat → Int32)) (t_values : (Nat → Int32)) (script_end : Int32) (script_place : Int32) (script_sign : Int32) (script_fault : Int32) (script_tape_size : Int32) (script_tape_bytes : (Nat → Int32)) : Option ((Nat → Int32) × (Nat → Int32) × (Nat → Int32) × Int32 × Int32 × Int32) := (f_X7_number script_end script_place script_sign script_fault script_tape_size script_tape_bytes (2 : Int32) (15 : Int32)).bind fun u1 => wr t_ones 16 t_lines u1.1 fun g2 => (f_X7_want script_end u1.2.1 u1.2.2.1 u1.2.2.2 script_tape_size script_tape_bytes (45 : Int32)).bind fun u3 => (f_X7_isSound u3.2.2).bind fun u4 => jn (fun s5 : (Nat → Int32) × Int32 × Int32 × Int32 => (f_X7_isSound s5.2.2.2).bind fun u6 => jn (fun s7 : Int32 => (f_X7_want script_end s5.2.1 s5.2.2.1 s7 script_tape_size script_tape_bytes (61 : Int32)).bind fun u8 => (f_X7_isSound u8.2.2).bind fun u9 => if u9 = 0 then (some (g2, s5.1, t_values, u8.1, u8.2.1, u8.2.2)) else (f_X7_number script_end u8.1 u8.2.1 u8.2.2 script_tape_size script_tape_bytes (2 : Int32) (63 : Int32)).bind fun u10 => wr t_values 16 t_lines u10.1 fun g11 => some (g2, s5.1, g11, u10.2.1, u10.2.2.1, u10.2.2.2)) fun j106 => if u6 = 0 then (j106 s5.2.2.2) else rd g2 16 t_lines fun v12 => rd s5.1 16 t_lines fun v13 => if v12 = v13 then ((f_X7_fail s5.2.2.2 (6 : Int32) u3.1).bind fun u14 => j106 u14) else j106 s5.2.2.2) fun j65 => if u4 = 0 then (j65 (t_others, u3.1, u3.2.1, u3.2.2)) else (f_X7_number script_end u3.1 u3.2.1 u3.2.2 script_tape_size script_tape_bytes (2 : Int32) (15 : Int32)).bind fun u15 => wr t_others 16 t_lines u15.1 fun g16 => j65 (g16, u15.2.1, u15.2.2.1, u15.2.2.2)
theorem dX4_readRooms_0 : decode cX4_readRooms 0 = .ok (.aload_n 0, 1) := by decide +kernel
theorem dX4_readRooms_1 : decode cX4_readRooms 1 = .ok (.getfield 18, 3) := by decide +kernel
theorem dX4_readRooms_4 : decode cX4_readRooms 4 = .ok (.aload_n 0, 1) := by decide +kernel
theorem dX4_readRooms_5 : decode cX4_readRooms 5 = .ok (.getfield 31, 3) := by decide +kernel
theorem dX4_readRooms_8 : decode cX4_readRooms 8 = .ok (.aload_n 0, 1) := by decide +kernel
theorem dX4_readRooms_9 : decode cX4_readRooms 9 = .ok (.getfield 27, 3) := by decide +kernel
theorem dX4_readRooms_12 : decode cX4_readRooms 12 = .ok (.iconst 2, 1) := by decide +kernel
theorem dX4_readRooms_13 : decode cX4_readRooms 13 = .ok (.bipush 15, 2) := by decide +kernel
theorem dX4_readRooms_15 : decode cX4_readRooms 15 = .ok (.invokevirtual 80, 3) := by decide +kernel
theorem dX4_readRooms_18 : decode cX4_readRooms 18 = .ok (.iastore, 1) := by decide +kernel
theorem dX4_readRooms_19 : decode cX4_readRooms 19 = .ok (.aload_n 0, 1) := by decide +kernel
theorem dX4_readRooms_20 : decode cX4_readRooms 20 = .ok (.getfield 27, 3) := by decide +kernel
theorem dX4_readRooms_23 : decode cX4_readRooms 23 = .ok (.bipush 45, 2) := by decide +kernel
theorem dX4_readRooms_25 : decode cX4_readRooms 25 = .ok (.invokevirtual 50, 3) := by decide +kernel
theorem dX4_readRooms_28 : decode cX4_readRooms 28 = .ok (.aload_n 0, 1) := by decide +kernel
theorem dX4_readRooms_29 : decode cX4_readRooms 29 = .ok (.getfield 27, 3) := by decide +kernel
theorem dX4_readRooms_32 : decode cX4_readRooms 32 = .ok (.getfield 64, 3) := by decide +kernel
theorem dX4_readRooms_35 : decode cX4_readRooms 35 = .ok (.istore_n 1, 1) := by decide +kernel
theorem dX4_readRooms_36 : decode cX4_readRooms 36 = .ok (.aload_n 0, 1) := by decide +kernel
theorem dX4_readRooms_37 : decode cX4_readRooms 37 = .ok (.getfield 27, 3) := by decide +kernel
theorem dX4_readRooms_40 : decode cX4_readRooms 40 = .ok (.invokevirtual 38, 3) := by decide +kernel
theorem dX4_readRooms_43 : decode cX4_readRooms 43 = .ok (.ifCond .eq 22, 3) := by decide +kernel
theorem dX4_readRooms_46 : decode cX4_readRooms 46 = .ok (.aload_n 0, 1) := by decide +kernel
theorem dX4_readRooms_47 : decode cX4_readRooms 47 = .ok (.getfield 21, 3) := by decide +kernel
theorem dX4_readRooms_50 : decode cX4_readRooms 50 = .ok (.aload_n 0, 1) := by decide +kernel
theorem dX4_readRooms_51 : decode cX4_readRooms 51 = .ok (.getfield 31, 3) := by decide +kernel
theorem dX4_readRooms_54 : decode cX4_readRooms 54 = .ok (.aload_n 0, 1) := by decide +kernel
theorem dX4_readRooms_55 : decode cX4_readRooms 55 = .ok (.getfield 27, 3) := by decide +kernel
theorem dX4_readRooms_58 : decode cX4_readRooms 58 = .ok (.iconst 2, 1) := by decide +kernel
theorem dX4_readRooms_59 : decode cX4_readRooms 59 = .ok (.bipush 15, 2) := by decide +kernel
theorem dX4_readRooms_61 : decode cX4_readRooms 61 = .ok (.invokevirtual 80, 3) := by decide +kernel
theorem dX4_readRooms_64 : decode cX4_readRooms 64 = .ok (.iastore, 1) := by decide +kernel
theorem dX4_readRooms_65 : decode cX4_readRooms 65 = .ok (.aload_n 0, 1) := by decide +kernel
theorem dX4_readRooms_66 : decode cX4_readRooms 66 = .ok (.getfield 27, 3) := by decide +kernel
theorem dX4_readRooms_69 : decode cX4_readRooms 69 = .ok (.invokevirtual 38, 3) := by decide +kernel
theorem dX4_readRooms_72 : decode cX4_readRooms 72 = .ok (.ifCond .eq 34, 3) := by decide +kernel
theorem dX4_readRooms_75 : decode cX4_readRooms 75 = .ok (.aload_n 0, 1) := by decide +kernel
theorem dX4_readRooms_76 : decode cX4_readRooms 76 = .ok (.getfield 18, 3) := by decide +kernel
theorem dX4_readRooms_79 : decode cX4_readRooms 79 = .ok (.aload_n 0, 1) := by decide +kernel
theorem dX4_readRooms_80 : decode cX4_readRooms 80 = .ok (.getfield 31, 3) := by decide +kernel
theorem dX4_readRooms_83 : decode cX4_readRooms 83 = .ok (.iaload, 1) := by decide +kernel
theorem dX4_readRooms_84 : decode cX4_readRooms 84 = .ok (.aload_n 0, 1) := by decide +kernel
theorem dX4_readRooms_85 : decode cX4_readRooms 85 = .ok (.getfield 21, 3) := by decide +kernel
theorem dX4_readRooms_88 : decode cX4_readRooms 88 = .ok (.aload_n 0, 1) := by decide +kernel
theorem dX4_readRooms_89 : decode cX4_readRooms 89 = .ok (.getfield 31, 3) := by decide +kernel
theorem dX4_readRooms_92 : decode cX4_readRooms 92 = .ok (.iaload, 1) := by decide +kernel
theorem dX4_readRooms_93 : decode cX4_readRooms 93 = .ok (.if_icmp .ne 13, 3) := by decide +kernel
theorem dX4_readRooms_96 : decode cX4_readRooms 96 = .ok (.aload_n 0, 1) := by decide +kernel
theorem dX4_readRooms_97 : decode cX4_readRooms 97 = .ok (.getfield 27, 3) := by decide +kernel
theorem dX4_readRooms_100 : decode cX4_readRooms 100 = .ok (.bipush 6, 2) := by decide +kernel
theorem dX4_readRooms_102 : decode cX4_readRooms 102 = .ok (.iload_n 1, 1) := by decide +kernel
theorem dX4_readRooms_103 : decode cX4_readRooms 103 = .ok (.invokevirtual 67, 3) := by decide +kernel
theorem dX4_readRooms_106 : decode cX4_readRooms 106 = .ok (.aload_n 0, 1) := by decide +kernel
theorem dX4_readRooms_107 : decode cX4_readRooms 107 = .ok (.getfield 27, 3) := by decide +kernel
theorem dX4_readRooms_110 : decode cX4_readRooms 110 = .ok (.bipush 61, 2) := by decide +kernel
theorem dX4_readRooms_112 : decode cX4_readRooms 112 = .ok (.invokevirtual 50, 3) := by decide +kernel
theorem dX4_readRooms_115 : decode cX4_readRooms 115 = .ok (.aload_n 0, 1) := by decide +kernel
theorem dX4_readRooms_116 : decode cX4_readRooms 116 = .ok (.getfield 27, 3) := by decide +kernel
theorem dX4_readRooms_119 : decode cX4_readRooms 119 = .ok (.invokevirtual 38, 3) := by decide +kernel
theorem dX4_readRooms_122 : decode cX4_readRooms 122 = .ok (.ifCond .eq 22, 3) := by decide +kernel
theorem dX4_readRooms_125 : decode cX4_readRooms 125 = .ok (.aload_n 0, 1) := by decide +kernel
theorem dX4_readRooms_126 : decode cX4_readRooms 126 = .ok (.getfield 24, 3) := by decide +kernel
theorem dX4_readRooms_129 : decode cX4_readRooms 129 = .ok (.aload_n 0, 1) := by decide +kernel
theorem dX4_readRooms_130 : decode cX4_readRooms 130 = .ok (.getfield 31, 3) := by decide +kernel
theorem dX4_readRooms_133 : decode cX4_readRooms 133 = .ok (.aload_n 0, 1) := by decide +kernel
theorem dX4_readRooms_134 : decode cX4_readRooms 134 = .ok (.getfield 27, 3) := by decide +kernel
theorem dX4_readRooms_137 : decode cX4_readRooms 137 = .ok (.iconst 2, 1) := by decide +kernel
theorem dX4_readRooms_138 : decode cX4_readRooms 138 = .ok (.bipush 63, 2) := by decide +kernel
theorem dX4_readRooms_140 : decode cX4_readRooms 140 = .ok (.invokevirtual 80, 3) := by decide +kernel
theorem dX4_readRooms_143 : decode cX4_readRooms 143 = .ok (.iastore, 1) := by decide +kernel
theorem dX4_readRooms_144 : decode cX4_readRooms 144 = .ok (.return_, 1) := by decide +kernel
set_option maxHeartbeats 4000000 in
set_option maxRecDepth 100000 in
theorem c_X4_readRooms (l : Launch) (E : GE) (o_t : Nat) (r_t_script : Nat) (a_t : Nat → Nat) (r_script_tape : Nat) (a_script_tape : Nat → Nat) (t_lines : Int32) (t_told : Int32) (t_ones : (Nat → Int32)) (t_others : (Nat → Int32)) (t_values : (Nat → Int32)) (script_end : Int32) (script_place : Int32) (script_sign : Int32) (script_fault : Int32) (script_tape_size : Int32) (script_tape_bytes : (Nat → Int32)) (r : (Nat → Int32) × (Nat → Int32) × (Nat → Int32) × Int32 × Int32 × Int32) (h : f_X4_readRooms t_lines t_ones t_others t_values script_end script_place script_sign script_fault script_tape_size script_tape_bytes = some r) : Cn l E yX4_readRooms cX4_readRooms 2 none 3 0 0 [.ref o_t] (W_X4_readRooms E o_t r_t_script a_t r_t_script r_script_tape r_script_tape a_script_tape t_lines t_told t_ones t_others t_values script_end script_place script_sign script_fault script_tape_size script_tape_bytes) (fun w => w = (W_X4_readRooms E o_t r_t_script a_t r_t_script r_script_tape r_script_tape a_script_tape t_lines t_told r.1 r.2.1 r.2.2.1 script_end r.2.2.2.1 r.2.2.2.2.1 r.2.2.2.2.2 script_tape_size script_tape_bytes)) none := by
  refine Cn.ofV (by decide +kernel) (Nat.le_of_ble_eq_true rfl) (fun X hX hR C hret => ?_)
  subst hX
  show Gx X E 0 0 (W_X4_readRooms E o_t r_t_script a_t r_t_script r_script_tape r_script_tape a_script_tape t_lines t_told t_ones t_others t_values script_end script_place script_sign script_fault script_tape_size script_tape_bytes) 0 [(0, .ref o_t)] []
  unfold f_X4_readRooms at h
  refine g_aload_n (pc := 0) C dX4_readRooms_0 rfl 0 rfl ?_
  refine g_get (pc := 1) C fl_X4_18 dX4_readRooms_1 0 rfl rfl ?_
  refine g_aload_n (pc := 4) C dX4_readRooms_4 rfl 0 rfl ?_
  refine g_get (pc := 5) C fl_X4_31 dX4_readRooms_5 0 rfl rfl ?_
  refine g_aload_n (pc := 8) C dX4_readRooms_8 rfl 0 rfl ?_
  refine g_get (pc := 9) C fl_X4_27 dX4_readRooms_9 0 rfl rfl ?_
  refine g_iconst (pc := 12) (v := 2) C dX4_readRooms_12 (by decide) ?_
  refine g_bipush (pc := 13) (v := 15) C dX4_readRooms_13 (by decide) ?_
  obtain ⟨u1, hu1, h⟩ := bs h
  refine g_callV (pc := 15) (st := [.int t_lines, .ref (a_t 3)]) (st1 := [.int u1.1, .int t_lines, .ref (a_t 3)]) (ws' := (W_X4_readRooms E o_t r_t_script a_t r_t_script r_script_tape r_script_tape a_script_tape t_lines t_told t_ones t_others t_values script_end u1.2.1 u1.2.2.1 u1.2.2.2 script_tape_size script_tape_bytes)) C mv_X7_number mi_X7_number ml_X4_80 (c_X7_number X.2.1 E r_t_script r_script_tape a_script_tape script_end script_place script_sign script_fault script_tape_size script_tape_bytes (2 : Int32) (15 : Int32) u1 hu1) dX4_readRooms_15 (by decide) rfl (Nat.le_of_ble_eq_true rfl) 4 6 rfl rfl [4, 5, 6] rfl (by decide) rfl rfl rfl rfl ?_
  refine g_iast (pc := 18) C dX4_readRooms_18 1 rfl h (fun g2 h => ?_)
  refine g_ws (ws' := (W_X4_readRooms E o_t r_t_script a_t r_t_script r_script_tape r_script_tape a_script_tape t_lines t_told g2 t_others t_values script_end u1.2.1 u1.2.2.1 u1.2.2.2 script_tape_size script_tape_bytes)) rfl ?_
  refine g_aload_n (pc := 19) C dX4_readRooms_19 rfl 0 rfl ?_
  refine g_get (pc := 20) C fl_X4_27 dX4_readRooms_20 0 rfl rfl ?_
  refine g_bipush (pc := 23) (v := 45) C dX4_readRooms_23 (by decide) ?_
  obtain ⟨u3, hu3, h⟩ := bs h
  refine g_callV (pc := 25) (st := []) (st1 := []) (ws' := (W_X4_readRooms E o_t r_t_script a_t r_t_script r_script_tape r_script_tape a_script_tape t_lines t_told g2 t_others t_values script_end u3.1 u3.2.1 u3.2.2 script_tape_size script_tape_bytes)) C mv_X7_want mi_X7_want ml_X4_50 (c_X7_want X.2.1 E r_t_script r_script_tape a_script_tape script_end u1.2.1 u1.2.2.1 u1.2.2.2 script_tape_size script_tape_bytes (45 : Int32) u3 hu3) dX4_readRooms_25 (by decide) rfl (Nat.le_of_ble_eq_true rfl) 4 6 rfl rfl [4, 5, 6] rfl (by decide) rfl rfl rfl rfl ?_
  refine g_aload_n (pc := 28) C dX4_readRooms_28 rfl 0 rfl ?_
  refine g_get (pc := 29) C fl_X4_27 dX4_readRooms_29 0 rfl rfl ?_
  refine g_get (pc := 32) C fl_X4_64 dX4_readRooms_32 4 rfl rfl ?_
  refine g_istore_n (pc := 35) (lv' := [(1, .int u3.1), (0, .ref o_t)]) C dX4_readRooms_35 rfl (by decide) rfl ?_
  refine g_aload_n (pc := 36) C dX4_readRooms_36 rfl 1 rfl ?_
  refine g_get (pc := 37) C fl_X4_27 dX4_readRooms_37 0 rfl rfl ?_
  obtain ⟨u4, hu4, h⟩ := bs h
  refine g_callV (pc := 40) (st := []) (st1 := [.int u4]) (ws' := (W_X4_readRooms E o_t r_t_script a_t r_t_script r_script_tape r_script_tape a_script_tape t_lines t_told g2 t_others t_values script_end u3.1 u3.2.1 u3.2.2 script_tape_size script_tape_bytes)) C mv_X7_isSound mi_X7_isSound ml_X4_38 (c_X7_isSound X.2.1 E r_t_script r_script_tape script_end u3.1 u3.2.1 u3.2.2 u4 hu4) dX4_readRooms_40 (by decide) rfl (Nat.le_of_ble_eq_true rfl) 4 6 rfl rfl [4] rfl (by decide) rfl rfl rfl rfl ?_
  refine g_jn (fun s5 : (Nat → Int32) × Int32 × Int32 × Int32 => Gx X E 0 0 (W_X4_readRooms E o_t r_t_script a_t r_t_script r_script_tape r_script_tape a_script_tape t_lines t_told g2 s5.1 t_values script_end s5.2.1 s5.2.2.1 s5.2.2.2 script_tape_size script_tape_bytes) 65 [(0, .ref o_t), (1, .int u3.1)] []) h (fun s5 h => ?_) (fun j65 hj65 h => ?_)
  · refine g_aload_n (pc := 65) C dX4_readRooms_65 rfl 0 rfl ?_
    refine g_get (pc := 66) C fl_X4_27 dX4_readRooms_66 0 rfl rfl ?_
    obtain ⟨u6, hu6, h⟩ := bs h
    refine g_callV (pc := 69) (st := []) (st1 := [.int u6]) (ws' := (W_X4_readRooms E o_t r_t_script a_t r_t_script r_script_tape r_script_tape a_script_tape t_lines t_told g2 s5.1 t_values script_end s5.2.1 s5.2.2.1 s5.2.2.2 script_tape_size script_tape_bytes)) C mv_X7_isSound mi_X7_isSound ml_X4_38 (c_X7_isSound X.2.1 E r_t_script r_script_tape script_end s5.2.1 s5.2.2.1 s5.2.2.2 u6 hu6) dX4_readRooms_69 (by decide) rfl (Nat.le_of_ble_eq_true rfl) 4 6 rfl rfl [4] rfl (by decide) rfl rfl rfl rfl ?_
    refine g_jn (fun s7 : Int32 => Gx X E 0 0 (W_X4_readRooms E o_t r_t_script a_t r_t_script r_script_tape r_script_tape a_script_tape t_lines t_told g2 s5.1 t_values script_end s5.2.1 s5.2.2.1 s7 script_tape_size script_tape_bytes) 106 [(0, .ref o_t)] []) h (fun s7 h => ?_) (fun j106 hj106 h => ?_)
    · refine g_aload_n (pc := 106) C dX4_readRooms_106 rfl 0 rfl ?_
      refine g_get (pc := 107) C fl_X4_27 dX4_readRooms_107 0 rfl rfl ?_
      refine g_bipush (pc := 110) (v := 61) C dX4_readRooms_110 (by decide) ?_
      obtain ⟨u8, hu8, h⟩ := bs h
      refine g_callV (pc := 112) (st := []) (st1 := []) (ws' := (W_X4_readRooms E o_t r_t_script a_t r_t_script r_script_tape r_script_tape a_script_tape t_lines t_told g2 s5.1 t_values script_end u8.1 u8.2.1 u8.2.2 script_tape_size script_tape_bytes)) C mv_X7_want mi_X7_want ml_X4_50 (c_X7_want X.2.1 E r_t_script r_script_tape a_script_tape script_end s5.2.1 s5.2.2.1 s7 script_tape_size script_tape_bytes (61 : Int32) u8 hu8) dX4_readRooms_112 (by decide) rfl (Nat.le_of_ble_eq_true rfl) 4 6 rfl rfl [4, 5, 6] rfl (by decide) rfl rfl rfl rfl ?_
      refine g_aload_n (pc := 115) C dX4_readRooms_115 rfl 0 rfl ?_
      refine g_get (pc := 116) C fl_X4_27 dX4_readRooms_116 0 rfl rfl ?_
      obtain ⟨u9, hu9, h⟩ := bs h
      refine g_callV (pc := 119) (st := []) (st1 := [.int u9]) (ws' := (W_X4_readRooms E o_t r_t_script a_t r_t_script r_script_tape r_script_tape a_script_tape t_lines t_told g2 s5.1 t_values script_end u8.1 u8.2.1 u8.2.2 script_tape_size script_tape_bytes)) C mv_X7_isSound mi_X7_isSound ml_X4_38 (c_X7_isSound X.2.1 E r_t_script r_script_tape script_end u8.1 u8.2.1 u8.2.2 u9 hu9) dX4_readRooms_119 (by decide) rfl (Nat.le_of_ble_eq_true rfl) 4 6 rfl rfl [4] rfl (by decide) rfl rfl rfl rfl ?_
      refine g_if_eq (pc := 122) (tgt := 144) C dX4_readRooms_122 (by decide) h (fun h => ?_) (fun h => ?_)
      · cases h
        exact hret _ _ _ dX4_readRooms_144 rfl
      · refine g_aload_n (pc := 125) C dX4_readRooms_125 rfl 0 rfl ?_
        refine g_get (pc := 126) C fl_X4_24 dX4_readRooms_126 0 rfl rfl ?_
        refine g_aload_n (pc := 129) C dX4_readRooms_129 rfl 0 rfl ?_
        refine g_get (pc := 130) C fl_X4_31 dX4_readRooms_130 0 rfl rfl ?_
        refine g_aload_n (pc := 133) C dX4_readRooms_133 rfl 0 rfl ?_
        refine g_get (pc := 134) C fl_X4_27 dX4_readRooms_134 0 rfl rfl ?_
        refine g_iconst (pc := 137) (v := 2) C dX4_readRooms_137 (by decide) ?_
        refine g_bipush (pc := 138) (v := 63) C dX4_readRooms_138 (by decide) ?_
        obtain ⟨u10, hu10, h⟩ := bs h
        refine g_callV (pc := 140) (st := [.int t_lines, .ref (a_t 5)]) (st1 := [.int u10.1, .int t_lines, .ref (a_t 5)]) (ws' := (W_X4_readRooms E o_t r_t_script a_t r_t_script r_script_tape r_script_tape a_script_tape t_lines t_told g2 s5.1 t_values script_end u10.2.1 u10.2.2.1 u10.2.2.2 script_tape_size script_tape_bytes)) C mv_X7_number mi_X7_number ml_X4_80 (c_X7_number X.2.1 E r_t_script r_script_tape a_script_tape script_end u8.1 u8.2.1 u8.2.2 script_tape_size script_tape_bytes (2 : Int32) (63 : Int32) u10 hu10) dX4_readRooms_140 (by decide) rfl (Nat.le_of_ble_eq_true rfl) 4 6 rfl rfl [4, 5, 6] rfl (by decide) rfl rfl rfl rfl ?_
        refine g_iast (pc := 143) C dX4_readRooms_143 3 rfl h (fun g11 h => ?_)
        refine g_ws (ws' := (W_X4_readRooms E o_t r_t_script a_t r_t_script r_script_tape r_script_tape a_script_tape t_lines t_told g2 s5.1 g11 script_end u10.2.1 u10.2.2.1 u10.2.2.2 script_tape_size script_tape_bytes)) rfl ?_
        cases h
        exact hret _ _ _ dX4_readRooms_144 rfl
    refine g_if_eq (pc := 72) (tgt := 106) C dX4_readRooms_72 (by decide) h (fun h => ?_) (fun h => ?_)
    · refine g_sub [0] rfl ?_
      exact hj106 _ h
    · refine g_aload_n (pc := 75) C dX4_readRooms_75 rfl 0 rfl ?_
      refine g_get (pc := 76) C fl_X4_18 dX4_readRooms_76 0 rfl rfl ?_
      refine g_aload_n (pc := 79) C dX4_readRooms_79 rfl 0 rfl ?_
      refine g_get (pc := 80) C fl_X4_31 dX4_readRooms_80 0 rfl rfl ?_
      refine g_iald (pc := 83) C dX4_readRooms_83 1 rfl h (fun v12 h => ?_)
      refine g_aload_n (pc := 84) C dX4_readRooms_84 rfl 0 rfl ?_
      refine g_get (pc := 85) C fl_X4_21 dX4_readRooms_85 0 rfl rfl ?_
      refine g_aload_n (pc := 88) C dX4_readRooms_88 rfl 0 rfl ?_
      refine g_get (pc := 89) C fl_X4_31 dX4_readRooms_89 0 rfl rfl ?_
      refine g_iald (pc := 92) C dX4_readRooms_92 2 rfl h (fun v13 h => ?_)
      refine g_icmp_ne (pc := 93) (tgt := 106) C dX4_readRooms_93 (by decide) h (fun h => ?_) (fun h => ?_)
      · refine g_sub [0] rfl ?_
        exact hj106 _ h
      · refine g_aload_n (pc := 96) C dX4_readRooms_96 rfl 0 rfl ?_
        refine g_get (pc := 97) C fl_X4_27 dX4_readRooms_97 0 rfl rfl ?_
        refine g_bipush (pc := 100) (v := 6) C dX4_readRooms_100 (by decide) ?_
        refine g_iload_n (pc := 102) C dX4_readRooms_102 rfl 1 rfl ?_
        obtain ⟨u14, hu14, h⟩ := bs h
        refine g_callV (pc := 103) (st := []) (st1 := []) (ws' := (W_X4_readRooms E o_t r_t_script a_t r_t_script r_script_tape r_script_tape a_script_tape t_lines t_told g2 s5.1 t_values script_end s5.2.1 s5.2.2.1 u14 script_tape_size script_tape_bytes)) C mv_X7_fail mi_X7_fail ml_X4_67 (c_X7_fail X.2.1 E r_t_script r_script_tape script_end s5.2.1 s5.2.2.1 s5.2.2.2 (6 : Int32) u3.1 u14 hu14) dX4_readRooms_103 (by decide) rfl (Nat.le_of_ble_eq_true rfl) 4 6 rfl rfl [4] rfl (by decide) rfl rfl rfl rfl ?_
        refine g_sub [0] rfl ?_
        exact hj106 _ h
  refine g_if_eq (pc := 43) (tgt := 65) C dX4_readRooms_43 (by decide) h (fun h => ?_) (fun h => ?_)
  · refine g_sub [1, 0] rfl ?_
    exact hj65 _ h
  · refine g_aload_n (pc := 46) C dX4_readRooms_46 rfl 1 rfl ?_
    refine g_get (pc := 47) C fl_X4_21 dX4_readRooms_47 0 rfl rfl ?_
    refine g_aload_n (pc := 50) C dX4_readRooms_50 rfl 1 rfl ?_
    refine g_get (pc := 51) C fl_X4_31 dX4_readRooms_51 0 rfl rfl ?_
    refine g_aload_n (pc := 54) C dX4_readRooms_54 rfl 1 rfl ?_
    refine g_get (pc := 55) C fl_X4_27 dX4_readRooms_55 0 rfl rfl ?_
    refine g_iconst (pc := 58) (v := 2) C dX4_readRooms_58 (by decide) ?_
    refine g_bipush (pc := 59) (v := 15) C dX4_readRooms_59 (by decide) ?_
    obtain ⟨u15, hu15, h⟩ := bs h
    refine g_callV (pc := 61) (st := [.int t_lines, .ref (a_t 4)]) (st1 := [.int u15.1, .int t_lines, .ref (a_t 4)]) (ws' := (W_X4_readRooms E o_t r_t_script a_t r_t_script r_script_tape r_script_tape a_script_tape t_lines t_told g2 t_others t_values script_end u15.2.1 u15.2.2.1 u15.2.2.2 script_tape_size script_tape_bytes)) C mv_X7_number mi_X7_number ml_X4_80 (c_X7_number X.2.1 E r_t_script r_script_tape a_script_tape script_end u3.1 u3.2.1 u3.2.2 script_tape_size script_tape_bytes (2 : Int32) (15 : Int32) u15 hu15) dX4_readRooms_61 (by decide) rfl (Nat.le_of_ble_eq_true rfl) 4 6 rfl rfl [4, 5, 6] rfl (by decide) rfl rfl rfl rfl ?_
    refine g_iast (pc := 64) C dX4_readRooms_64 2 rfl h (fun g16 h => ?_)
    refine g_ws (ws' := (W_X4_readRooms E o_t r_t_script a_t r_t_script r_script_tape r_script_tape a_script_tape t_lines t_told g2 g16 t_values script_end u15.2.1 u15.2.2.1 u15.2.2.2 script_tape_size script_tape_bytes)) rfl ?_
    refine g_sub [1, 0] rfl ?_
    exact hj65 _ h
abbrev W_X4_readDoor (E : GE) (O_t : Nat) (r_t_script : Nat) (a_t : Nat → Nat) (O_script : Nat) (r_script_tape : Nat) (O_script_tape : Nat) (a_script_tape : Nat → Nat) (t_lines : Int32) (t_told : Int32) (t_sorts : (Nat → Int32)) (t_numbers : (Nat → Int32)) (t_ones : (Nat → Int32)) (t_others : (Nat → Int32)) (t_values : (Nat → Int32)) (script_end : Int32) (script_place : Int32) (script_sign : Int32) (script_fault : Int32) (script_tape_size : Int32) (script_tape_bytes : (Nat → Int32)) : va_W := [(O_t, ob_X4 r_t_script a_t t_lines t_told), (a_t 1, .inl (E.2.1, 16, .inl t_sorts)), (a_t 2, .inl (E.2.1, 16, .inl t_numbers)), (a_t 3, .inl (E.2.1, 16, .inl t_ones)), (a_t 4, .inl (E.2.1, 16, .inl t_others)), (a_t 5, .inl (E.2.1, 16, .inl t_values)), (O_script, ob_X7 r_script_tape script_end script_place script_sign script_fault), (O_script_tape, ob_X8 a_script_tape script_tape_size), (a_script_tape 0, .inl (E.2.1, 260, .inl script_tape_bytes))]
def f_X4_readDoor (t_lines : Int32) (t_told : Int32) (t_sorts : (Nat → Int32)) (t_numbers : (Nat → Int32)) (t_ones : (Nat → Int32)) (t_others : (Nat → Int32)) (t_values : (Nat → Int32)) (script_end : Int32) (script_place : Int32) (script_sign : Int32) (script_fault : Int32) (script_tape_size : Int32) (script_tape_bytes : (Nat → Int32)) : Option (Int32 × (Nat → Int32) × (Nat → Int32) × (Nat → Int32) × (Nat → Int32) × (Nat → Int32) × Int32 × Int32 × Int32) := (f_X7_number script_end script_place script_sign script_fault script_tape_size script_tape_bytes (2 : Int32) (23 : Int32)).bind fun u1 => wr t_numbers 16 t_lines u1.1 fun g2 => (f_X7_isSound u1.2.2.2).bind fun u3 => if u3 = 0 then (some (t_told, t_sorts, g2, t_ones, t_others, t_values, u1.2.1, u1.2.2.1, u1.2.2.2)) else (f_X7_take script_end u1.2.1 u1.2.2.1 u1.2.2.2 script_tape_size script_tape_bytes (58 : Int32)).bind fun u4 => if u4.1 = 0 then (jn (fun s5 : Unit => jn (fun s6 : Int32 => wr t_sorts 16 t_lines s6 fun g7 => (f_X7_step script_end u4.2.1 u4.2.2 script_tape_size script_tape_bytes).bind fun u8 => if ((t_told >>> (u1.1 &&& 31)) &&& (1 : Int32)) = 0 then ((f_X7_fail u1.2.2.2 (7 : Int32) script_place).bind fun u9 => some (t_told, g7, g2, t_ones, t_others, t_values, u8.1, u8.2, u9)) else some (t_told, g7, g2, t_ones, t_others, t_values, u8.1, u8.2, u1.2.2.2)) fun j130 => if u4.2.2 = (33 : Int32) then (j130 (1 : Int32)) else j130 (2 : Int32)) fun j105 => if u4.2.2 = (33 : Int32) then (j105 ()) else if u4.2.2 = (63 : Int32) then (j105 ()) else (f_X7_fail u1.2.2.2 (1 : Int32) u4.2.1).bind fun u10 => some (t_told, t_sorts, g2, t_ones, t_others, t_values, u4.2.1, u4.2.2, u10)) else wr t_sorts 16 t_lines (0 : Int32) fun g11 => (f_X4_readRooms t_lines t_ones t_others t_values script_end u4.2.1 u4.2.2 u1.2.2.2 script_tape_size script_tape_bytes).bind fun u12 => nm (t_told ||| ((1 : Int32) <<< (u1.1 &&& 31))) fun v13 => some (v13, g11, g2, u12.1, u12.2.1, u12.2.2.1, u12.2.2.2.1, u12.2.2.2.2.1, u12.2.2.2.2.2)
theorem dX4_readDoor_0 : decode cX4_readDoor 0 = .ok (.aload_n 0, 1) := by decide +kernel
theorem dX4_readDoor_1 : decode cX4_readDoor 1 = .ok (.getfield 27, 3) := by decide +kernel
theorem dX4_readDoor_4 : decode cX4_readDoor 4 = .ok (.getfield 64, 3) := by decide +kernel
theorem dX4_readDoor_7 : decode cX4_readDoor 7 = .ok (.istore_n 1, 1) := by decide +kernel
theorem dX4_readDoor_8 : decode cX4_readDoor 8 = .ok (.aload_n 0, 1) := by decide +kernel
theorem dX4_readDoor_9 : decode cX4_readDoor 9 = .ok (.getfield 27, 3) := by decide +kernel
theorem dX4_readDoor_12 : decode cX4_readDoor 12 = .ok (.iconst 2, 1) := by decide +kernel
theorem dX4_readDoor_13 : decode cX4_readDoor 13 = .ok (.bipush 23, 2) := by decide +kernel
theorem dX4_readDoor_15 : decode cX4_readDoor 15 = .ok (.invokevirtual 80, 3) := by decide +kernel
theorem dX4_readDoor_18 : decode cX4_readDoor 18 = .ok (.istore_n 2, 1) := by decide +kernel
theorem dX4_readDoor_19 : decode cX4_readDoor 19 = .ok (.aload_n 0, 1) := by decide +kernel
theorem dX4_readDoor_20 : decode cX4_readDoor 20 = .ok (.getfield 15, 3) := by decide +kernel
theorem dX4_readDoor_23 : decode cX4_readDoor 23 = .ok (.aload_n 0, 1) := by decide +kernel
theorem dX4_readDoor_24 : decode cX4_readDoor 24 = .ok (.getfield 31, 3) := by decide +kernel
theorem dX4_readDoor_27 : decode cX4_readDoor 27 = .ok (.iload_n 2, 1) := by decide +kernel
theorem dX4_readDoor_28 : decode cX4_readDoor 28 = .ok (.iastore, 1) := by decide +kernel
theorem dX4_readDoor_29 : decode cX4_readDoor 29 = .ok (.aload_n 0, 1) := by decide +kernel
theorem dX4_readDoor_30 : decode cX4_readDoor 30 = .ok (.getfield 27, 3) := by decide +kernel
theorem dX4_readDoor_33 : decode cX4_readDoor 33 = .ok (.invokevirtual 38, 3) := by decide +kernel
theorem dX4_readDoor_36 : decode cX4_readDoor 36 = .ok (.ifCond .ne 4, 3) := by decide +kernel
theorem dX4_readDoor_39 : decode cX4_readDoor 39 = .ok (.return_, 1) := by decide +kernel
theorem dX4_readDoor_40 : decode cX4_readDoor 40 = .ok (.aload_n 0, 1) := by decide +kernel
theorem dX4_readDoor_41 : decode cX4_readDoor 41 = .ok (.getfield 27, 3) := by decide +kernel
theorem dX4_readDoor_44 : decode cX4_readDoor 44 = .ok (.bipush 58, 2) := by decide +kernel
theorem dX4_readDoor_46 : decode cX4_readDoor 46 = .ok (.invokevirtual 84, 3) := by decide +kernel
theorem dX4_readDoor_49 : decode cX4_readDoor 49 = .ok (.ifCond .eq 32, 3) := by decide +kernel
theorem dX4_readDoor_52 : decode cX4_readDoor 52 = .ok (.aload_n 0, 1) := by decide +kernel
theorem dX4_readDoor_53 : decode cX4_readDoor 53 = .ok (.getfield 9, 3) := by decide +kernel
theorem dX4_readDoor_56 : decode cX4_readDoor 56 = .ok (.aload_n 0, 1) := by decide +kernel
theorem dX4_readDoor_57 : decode cX4_readDoor 57 = .ok (.getfield 31, 3) := by decide +kernel
theorem dX4_readDoor_60 : decode cX4_readDoor 60 = .ok (.iconst 0, 1) := by decide +kernel
theorem dX4_readDoor_61 : decode cX4_readDoor 61 = .ok (.iastore, 1) := by decide +kernel
theorem dX4_readDoor_62 : decode cX4_readDoor 62 = .ok (.aload_n 0, 1) := by decide +kernel
theorem dX4_readDoor_63 : decode cX4_readDoor 63 = .ok (.invokevirtual 88, 3) := by decide +kernel
theorem dX4_readDoor_66 : decode cX4_readDoor 66 = .ok (.aload_n 0, 1) := by decide +kernel
theorem dX4_readDoor_67 : decode cX4_readDoor 67 = .ok (.dup, 1) := by decide +kernel
theorem dX4_readDoor_68 : decode cX4_readDoor 68 = .ok (.getfield 35, 3) := by decide +kernel
theorem dX4_readDoor_71 : decode cX4_readDoor 71 = .ok (.iconst 1, 1) := by decide +kernel
theorem dX4_readDoor_72 : decode cX4_readDoor 72 = .ok (.iload_n 2, 1) := by decide +kernel
theorem dX4_readDoor_73 : decode cX4_readDoor 73 = .ok (.ishl, 1) := by decide +kernel
theorem dX4_readDoor_74 : decode cX4_readDoor 74 = .ok (.ior, 1) := by decide +kernel
theorem dX4_readDoor_75 : decode cX4_readDoor 75 = .ok (.putfield 35, 3) := by decide +kernel
theorem dX4_readDoor_78 : decode cX4_readDoor 78 = .ok (.goto 99, 3) := by decide +kernel
theorem dX4_readDoor_81 : decode cX4_readDoor 81 = .ok (.aload_n 0, 1) := by decide +kernel
theorem dX4_readDoor_82 : decode cX4_readDoor 82 = .ok (.getfield 27, 3) := by decide +kernel
theorem dX4_readDoor_85 : decode cX4_readDoor 85 = .ok (.getfield 54, 3) := by decide +kernel
theorem dX4_readDoor_88 : decode cX4_readDoor 88 = .ok (.bipush 33, 2) := by decide +kernel
theorem dX4_readDoor_90 : decode cX4_readDoor 90 = .ok (.if_icmp .eq 15, 3) := by decide +kernel
theorem dX4_readDoor_93 : decode cX4_readDoor 93 = .ok (.aload_n 0, 1) := by decide +kernel
theorem dX4_readDoor_94 : decode cX4_readDoor 94 = .ok (.getfield 27, 3) := by decide +kernel
theorem dX4_readDoor_97 : decode cX4_readDoor 97 = .ok (.getfield 54, 3) := by decide +kernel
theorem dX4_readDoor_100 : decode cX4_readDoor 100 = .ok (.bipush 63, 2) := by decide +kernel
theorem dX4_readDoor_102 : decode cX4_readDoor 102 = .ok (.if_icmp .ne 60, 3) := by decide +kernel
theorem dX4_readDoor_105 : decode cX4_readDoor 105 = .ok (.aload_n 0, 1) := by decide +kernel
theorem dX4_readDoor_106 : decode cX4_readDoor 106 = .ok (.getfield 9, 3) := by decide +kernel
theorem dX4_readDoor_109 : decode cX4_readDoor 109 = .ok (.aload_n 0, 1) := by decide +kernel
theorem dX4_readDoor_110 : decode cX4_readDoor 110 = .ok (.getfield 31, 3) := by decide +kernel
theorem dX4_readDoor_113 : decode cX4_readDoor 113 = .ok (.aload_n 0, 1) := by decide +kernel
theorem dX4_readDoor_114 : decode cX4_readDoor 114 = .ok (.getfield 27, 3) := by decide +kernel
theorem dX4_readDoor_117 : decode cX4_readDoor 117 = .ok (.getfield 54, 3) := by decide +kernel
theorem dX4_readDoor_120 : decode cX4_readDoor 120 = .ok (.bipush 33, 2) := by decide +kernel
theorem dX4_readDoor_122 : decode cX4_readDoor 122 = .ok (.if_icmp .ne 7, 3) := by decide +kernel
theorem dX4_readDoor_125 : decode cX4_readDoor 125 = .ok (.iconst 1, 1) := by decide +kernel
theorem dX4_readDoor_126 : decode cX4_readDoor 126 = .ok (.goto 4, 3) := by decide +kernel
theorem dX4_readDoor_129 : decode cX4_readDoor 129 = .ok (.iconst 2, 1) := by decide +kernel
theorem dX4_readDoor_130 : decode cX4_readDoor 130 = .ok (.iastore, 1) := by decide +kernel
theorem dX4_readDoor_131 : decode cX4_readDoor 131 = .ok (.aload_n 0, 1) := by decide +kernel
theorem dX4_readDoor_132 : decode cX4_readDoor 132 = .ok (.getfield 27, 3) := by decide +kernel
theorem dX4_readDoor_135 : decode cX4_readDoor 135 = .ok (.invokevirtual 77, 3) := by decide +kernel
theorem dX4_readDoor_138 : decode cX4_readDoor 138 = .ok (.aload_n 0, 1) := by decide +kernel
theorem dX4_readDoor_139 : decode cX4_readDoor 139 = .ok (.getfield 35, 3) := by decide +kernel
theorem dX4_readDoor_142 : decode cX4_readDoor 142 = .ok (.iload_n 2, 1) := by decide +kernel
theorem dX4_readDoor_143 : decode cX4_readDoor 143 = .ok (.ishr, 1) := by decide +kernel
theorem dX4_readDoor_144 : decode cX4_readDoor 144 = .ok (.iconst 1, 1) := by decide +kernel
theorem dX4_readDoor_145 : decode cX4_readDoor 145 = .ok (.iand, 1) := by decide +kernel
theorem dX4_readDoor_146 : decode cX4_readDoor 146 = .ok (.ifCond .ne 31, 3) := by decide +kernel
theorem dX4_readDoor_149 : decode cX4_readDoor 149 = .ok (.aload_n 0, 1) := by decide +kernel
theorem dX4_readDoor_150 : decode cX4_readDoor 150 = .ok (.getfield 27, 3) := by decide +kernel
theorem dX4_readDoor_153 : decode cX4_readDoor 153 = .ok (.bipush 7, 2) := by decide +kernel
theorem dX4_readDoor_155 : decode cX4_readDoor 155 = .ok (.iload_n 1, 1) := by decide +kernel
theorem dX4_readDoor_156 : decode cX4_readDoor 156 = .ok (.invokevirtual 67, 3) := by decide +kernel
theorem dX4_readDoor_159 : decode cX4_readDoor 159 = .ok (.goto 18, 3) := by decide +kernel
theorem dX4_readDoor_162 : decode cX4_readDoor 162 = .ok (.aload_n 0, 1) := by decide +kernel
theorem dX4_readDoor_163 : decode cX4_readDoor 163 = .ok (.getfield 27, 3) := by decide +kernel
theorem dX4_readDoor_166 : decode cX4_readDoor 166 = .ok (.iconst 1, 1) := by decide +kernel
theorem dX4_readDoor_167 : decode cX4_readDoor 167 = .ok (.aload_n 0, 1) := by decide +kernel
theorem dX4_readDoor_168 : decode cX4_readDoor 168 = .ok (.getfield 27, 3) := by decide +kernel
theorem dX4_readDoor_171 : decode cX4_readDoor 171 = .ok (.getfield 64, 3) := by decide +kernel
theorem dX4_readDoor_174 : decode cX4_readDoor 174 = .ok (.invokevirtual 67, 3) := by decide +kernel
theorem dX4_readDoor_177 : decode cX4_readDoor 177 = .ok (.return_, 1) := by decide +kernel
set_option maxHeartbeats 4000000 in
set_option maxRecDepth 100000 in
theorem c_X4_readDoor (l : Launch) (E : GE) (o_t : Nat) (r_t_script : Nat) (a_t : Nat → Nat) (r_script_tape : Nat) (a_script_tape : Nat → Nat) (t_lines : Int32) (t_told : Int32) (t_sorts : (Nat → Int32)) (t_numbers : (Nat → Int32)) (t_ones : (Nat → Int32)) (t_others : (Nat → Int32)) (t_values : (Nat → Int32)) (script_end : Int32) (script_place : Int32) (script_sign : Int32) (script_fault : Int32) (script_tape_size : Int32) (script_tape_bytes : (Nat → Int32)) (r : Int32 × (Nat → Int32) × (Nat → Int32) × (Nat → Int32) × (Nat → Int32) × (Nat → Int32) × Int32 × Int32 × Int32) (h : f_X4_readDoor t_lines t_told t_sorts t_numbers t_ones t_others t_values script_end script_place script_sign script_fault script_tape_size script_tape_bytes = some r) : Cn l E yX4_readDoor cX4_readDoor 3 none 4 0 0 [.ref o_t] (W_X4_readDoor E o_t r_t_script a_t r_t_script r_script_tape r_script_tape a_script_tape t_lines t_told t_sorts t_numbers t_ones t_others t_values script_end script_place script_sign script_fault script_tape_size script_tape_bytes) (fun w => w = (W_X4_readDoor E o_t r_t_script a_t r_t_script r_script_tape r_script_tape a_script_tape t_lines r.1 r.2.1 r.2.2.1 r.2.2.2.1 r.2.2.2.2.1 r.2.2.2.2.2.1 script_end r.2.2.2.2.2.2.1 r.2.2.2.2.2.2.2.1 r.2.2.2.2.2.2.2.2 script_tape_size script_tape_bytes)) none := by
  refine Cn.ofV (by decide +kernel) (Nat.le_of_ble_eq_true rfl) (fun X hX hR C hret => ?_)
  subst hX
  show Gx X E 0 0 (W_X4_readDoor E o_t r_t_script a_t r_t_script r_script_tape r_script_tape a_script_tape t_lines t_told t_sorts t_numbers t_ones t_others t_values script_end script_place script_sign script_fault script_tape_size script_tape_bytes) 0 [(0, .ref o_t)] []
  unfold f_X4_readDoor at h
  refine g_aload_n (pc := 0) C dX4_readDoor_0 rfl 0 rfl ?_
  refine g_get (pc := 1) C fl_X4_27 dX4_readDoor_1 0 rfl rfl ?_
  refine g_get (pc := 4) C fl_X4_64 dX4_readDoor_4 6 rfl rfl ?_
  refine g_istore_n (pc := 7) (lv' := [(1, .int script_place), (0, .ref o_t)]) C dX4_readDoor_7 rfl (by decide) rfl ?_
  refine g_aload_n (pc := 8) C dX4_readDoor_8 rfl 1 rfl ?_
  refine g_get (pc := 9) C fl_X4_27 dX4_readDoor_9 0 rfl rfl ?_
  refine g_iconst (pc := 12) (v := 2) C dX4_readDoor_12 (by decide) ?_
  refine g_bipush (pc := 13) (v := 23) C dX4_readDoor_13 (by decide) ?_
  obtain ⟨u1, hu1, h⟩ := bs h
  refine g_callV (pc := 15) (st := []) (st1 := [.int u1.1]) (ws' := (W_X4_readDoor E o_t r_t_script a_t r_t_script r_script_tape r_script_tape a_script_tape t_lines t_told t_sorts t_numbers t_ones t_others t_values script_end u1.2.1 u1.2.2.1 u1.2.2.2 script_tape_size script_tape_bytes)) C mv_X7_number mi_X7_number ml_X4_80 (c_X7_number X.2.1 E r_t_script r_script_tape a_script_tape script_end script_place script_sign script_fault script_tape_size script_tape_bytes (2 : Int32) (23 : Int32) u1 hu1) dX4_readDoor_15 (by decide) rfl (Nat.le_of_ble_eq_true rfl) 6 6 rfl rfl [6, 7, 8] rfl (by decide) rfl rfl rfl rfl ?_
  refine g_istore_n (pc := 18) (lv' := [(2, .int u1.1), (1, .int script_place), (0, .ref o_t)]) C dX4_readDoor_18 rfl (by decide) rfl ?_
  refine g_aload_n (pc := 19) C dX4_readDoor_19 rfl 2 rfl ?_
  refine g_get (pc := 20) C fl_X4_15 dX4_readDoor_20 0 rfl rfl ?_
  refine g_aload_n (pc := 23) C dX4_readDoor_23 rfl 2 rfl ?_
  refine g_get (pc := 24) C fl_X4_31 dX4_readDoor_24 0 rfl rfl ?_
  refine g_iload_n (pc := 27) C dX4_readDoor_27 rfl 0 rfl ?_
  refine g_iast (pc := 28) C dX4_readDoor_28 2 rfl h (fun g2 h => ?_)
  refine g_ws (ws' := (W_X4_readDoor E o_t r_t_script a_t r_t_script r_script_tape r_script_tape a_script_tape t_lines t_told t_sorts g2 t_ones t_others t_values script_end u1.2.1 u1.2.2.1 u1.2.2.2 script_tape_size script_tape_bytes)) rfl ?_
  refine g_aload_n (pc := 29) C dX4_readDoor_29 rfl 2 rfl ?_
  refine g_get (pc := 30) C fl_X4_27 dX4_readDoor_30 0 rfl rfl ?_
  obtain ⟨u3, hu3, h⟩ := bs h
  refine g_callV (pc := 33) (st := []) (st1 := [.int u3]) (ws' := (W_X4_readDoor E o_t r_t_script a_t r_t_script r_script_tape r_script_tape a_script_tape t_lines t_told t_sorts g2 t_ones t_others t_values script_end u1.2.1 u1.2.2.1 u1.2.2.2 script_tape_size script_tape_bytes)) C mv_X7_isSound mi_X7_isSound ml_X4_38 (c_X7_isSound X.2.1 E r_t_script r_script_tape script_end u1.2.1 u1.2.2.1 u1.2.2.2 u3 hu3) dX4_readDoor_33 (by decide) rfl (Nat.le_of_ble_eq_true rfl) 6 6 rfl rfl [6] rfl (by decide) rfl rfl rfl rfl ?_
  refine g_if_ne (pc := 36) (tgt := 40) C dX4_readDoor_36 (by decide) h (fun h => ?_) (fun h => ?_)
  · refine g_aload_n (pc := 40) C dX4_readDoor_40 rfl 2 rfl ?_
    refine g_get (pc := 41) C fl_X4_27 dX4_readDoor_41 0 rfl rfl ?_
    refine g_bipush (pc := 44) (v := 58) C dX4_readDoor_44 (by decide) ?_
    obtain ⟨u4, hu4, h⟩ := bs h
    refine g_callV (pc := 46) (st := []) (st1 := [.int u4.1]) (ws' := (W_X4_readDoor E o_t r_t_script a_t r_t_script r_script_tape r_script_tape a_script_tape t_lines t_told t_sorts g2 t_ones t_others t_values script_end u4.2.1 u4.2.2 u1.2.2.2 script_tape_size script_tape_bytes)) C mv_X7_take mi_X7_take ml_X4_84 (c_X7_take X.2.1 E r_t_script r_script_tape a_script_tape script_end u1.2.1 u1.2.2.1 u1.2.2.2 script_tape_size script_tape_bytes (58 : Int32) u4 hu4) dX4_readDoor_46 (by decide) rfl (Nat.le_of_ble_eq_true rfl) 6 6 rfl rfl [6, 7, 8] rfl (by decide) rfl rfl rfl rfl ?_
    refine g_if_eq (pc := 49) (tgt := 81) C dX4_readDoor_49 (by decide) h (fun h => ?_) (fun h => ?_)
    · refine g_aload_n (pc := 81) C dX4_readDoor_81 rfl 2 rfl ?_
      refine g_get (pc := 82) C fl_X4_27 dX4_readDoor_82 0 rfl rfl ?_
      refine g_get (pc := 85) C fl_X4_54 dX4_readDoor_85 6 rfl rfl ?_
      refine g_bipush (pc := 88) (v := 33) C dX4_readDoor_88 (by decide) ?_
      refine g_jn (fun s5 : Unit => Gx X E 0 0 (W_X4_readDoor E o_t r_t_script a_t r_t_script r_script_tape r_script_tape a_script_tape t_lines t_told t_sorts g2 t_ones t_others t_values script_end u4.2.1 u4.2.2 u1.2.2.2 script_tape_size script_tape_bytes) 105 [(0, .ref o_t), (1, .int script_place), (2, .int u1.1)] []) h (fun s5 h => ?_) (fun j105 hj105 h => ?_)
      · refine g_aload_n (pc := 105) C dX4_readDoor_105 rfl 0 rfl ?_
        refine g_get (pc := 106) C fl_X4_9 dX4_readDoor_106 0 rfl rfl ?_
        refine g_aload_n (pc := 109) C dX4_readDoor_109 rfl 0 rfl ?_
        refine g_get (pc := 110) C fl_X4_31 dX4_readDoor_110 0 rfl rfl ?_
        refine g_aload_n (pc := 113) C dX4_readDoor_113 rfl 0 rfl ?_
        refine g_get (pc := 114) C fl_X4_27 dX4_readDoor_114 0 rfl rfl ?_
        refine g_get (pc := 117) C fl_X4_54 dX4_readDoor_117 6 rfl rfl ?_
        refine g_bipush (pc := 120) (v := 33) C dX4_readDoor_120 (by decide) ?_
        refine g_jn (fun s6 : Int32 => Gx X E 0 0 (W_X4_readDoor E o_t r_t_script a_t r_t_script r_script_tape r_script_tape a_script_tape t_lines t_told t_sorts g2 t_ones t_others t_values script_end u4.2.1 u4.2.2 u1.2.2.2 script_tape_size script_tape_bytes) 130 [(0, .ref o_t), (1, .int script_place), (2, .int u1.1)] [.int s6, .int t_lines, .ref (a_t 1)]) h (fun s6 h => ?_) (fun j130 hj130 h => ?_)
        · refine g_iast (pc := 130) C dX4_readDoor_130 1 rfl h (fun g7 h => ?_)
          refine g_ws (ws' := (W_X4_readDoor E o_t r_t_script a_t r_t_script r_script_tape r_script_tape a_script_tape t_lines t_told g7 g2 t_ones t_others t_values script_end u4.2.1 u4.2.2 u1.2.2.2 script_tape_size script_tape_bytes)) rfl ?_
          refine g_aload_n (pc := 131) C dX4_readDoor_131 rfl 0 rfl ?_
          refine g_get (pc := 132) C fl_X4_27 dX4_readDoor_132 0 rfl rfl ?_
          obtain ⟨u8, hu8, h⟩ := bs h
          refine g_callV (pc := 135) (st := []) (st1 := []) (ws' := (W_X4_readDoor E o_t r_t_script a_t r_t_script r_script_tape r_script_tape a_script_tape t_lines t_told g7 g2 t_ones t_others t_values script_end u8.1 u8.2 u1.2.2.2 script_tape_size script_tape_bytes)) C mv_X7_step mi_X7_step ml_X4_77 (c_X7_step X.2.1 E r_t_script r_script_tape a_script_tape script_end u4.2.1 u4.2.2 u1.2.2.2 script_tape_size script_tape_bytes u8 hu8) dX4_readDoor_135 (by decide) rfl (Nat.le_of_ble_eq_true rfl) 6 6 rfl rfl [6, 7, 8] rfl (by decide) rfl rfl rfl rfl ?_
          refine g_aload_n (pc := 138) C dX4_readDoor_138 rfl 0 rfl ?_
          refine g_get (pc := 139) C fl_X4_35 dX4_readDoor_139 0 rfl rfl ?_
          refine g_iload_n (pc := 142) C dX4_readDoor_142 rfl 2 rfl ?_
          refine g_ishr (pc := 143) C dX4_readDoor_143 ?_
          refine g_iconst (pc := 144) (v := 1) C dX4_readDoor_144 (by decide) ?_
          refine g_iand (pc := 145) C dX4_readDoor_145 ?_
          refine g_if_ne (pc := 146) (tgt := 177) C dX4_readDoor_146 (by decide) h (fun h => ?_) (fun h => ?_)
          · cases h
            exact hret _ _ _ dX4_readDoor_177 rfl
          · refine g_aload_n (pc := 149) C dX4_readDoor_149 rfl 0 rfl ?_
            refine g_get (pc := 150) C fl_X4_27 dX4_readDoor_150 0 rfl rfl ?_
            refine g_bipush (pc := 153) (v := 7) C dX4_readDoor_153 (by decide) ?_
            refine g_iload_n (pc := 155) C dX4_readDoor_155 rfl 1 rfl ?_
            obtain ⟨u9, hu9, h⟩ := bs h
            refine g_callV (pc := 156) (st := []) (st1 := []) (ws' := (W_X4_readDoor E o_t r_t_script a_t r_t_script r_script_tape r_script_tape a_script_tape t_lines t_told g7 g2 t_ones t_others t_values script_end u8.1 u8.2 u9 script_tape_size script_tape_bytes)) C mv_X7_fail mi_X7_fail ml_X4_67 (c_X7_fail X.2.1 E r_t_script r_script_tape script_end u8.1 u8.2 u1.2.2.2 (7 : Int32) script_place u9 hu9) dX4_readDoor_156 (by decide) rfl (Nat.le_of_ble_eq_true rfl) 6 6 rfl rfl [6] rfl (by decide) rfl rfl rfl rfl ?_
            refine g_goto (pc := 159) (tgt := 177) C dX4_readDoor_159 (by decide) ?_
            cases h
            exact hret _ _ _ dX4_readDoor_177 rfl
        refine g_icmp_ne (pc := 122) (tgt := 129) C dX4_readDoor_122 (by decide) h (fun h => ?_) (fun h => ?_)
        · refine g_iconst (pc := 129) (v := 2) C dX4_readDoor_129 (by decide) ?_
          exact hj130 _ h
        · refine g_iconst (pc := 125) (v := 1) C dX4_readDoor_125 (by decide) ?_
          refine g_goto (pc := 126) (tgt := 130) C dX4_readDoor_126 (by decide) ?_
          exact hj130 _ h
      refine g_icmp_eq (pc := 90) (tgt := 105) C dX4_readDoor_90 (by decide) h (fun h => ?_) (fun h => ?_)
      · refine g_sub [2, 1, 0] rfl ?_
        exact hj105 _ h
      · refine g_aload_n (pc := 93) C dX4_readDoor_93 rfl 2 rfl ?_
        refine g_get (pc := 94) C fl_X4_27 dX4_readDoor_94 0 rfl rfl ?_
        refine g_get (pc := 97) C fl_X4_54 dX4_readDoor_97 6 rfl rfl ?_
        refine g_bipush (pc := 100) (v := 63) C dX4_readDoor_100 (by decide) ?_
        refine g_icmp_ne (pc := 102) (tgt := 162) C dX4_readDoor_102 (by decide) h (fun h => ?_) (fun h => ?_)
        · refine g_aload_n (pc := 162) C dX4_readDoor_162 rfl 2 rfl ?_
          refine g_get (pc := 163) C fl_X4_27 dX4_readDoor_163 0 rfl rfl ?_
          refine g_iconst (pc := 166) (v := 1) C dX4_readDoor_166 (by decide) ?_
          refine g_aload_n (pc := 167) C dX4_readDoor_167 rfl 2 rfl ?_
          refine g_get (pc := 168) C fl_X4_27 dX4_readDoor_168 0 rfl rfl ?_
          refine g_get (pc := 171) C fl_X4_64 dX4_readDoor_171 6 rfl rfl ?_
          obtain ⟨u10, hu10, h⟩ := bs h
          refine g_callV (pc := 174) (st := []) (st1 := []) (ws' := (W_X4_readDoor E o_t r_t_script a_t r_t_script r_script_tape r_script_tape a_script_tape t_lines t_told t_sorts g2 t_ones t_others t_values script_end u4.2.1 u4.2.2 u10 script_tape_size script_tape_bytes)) C mv_X7_fail mi_X7_fail ml_X4_67 (c_X7_fail X.2.1 E r_t_script r_script_tape script_end u4.2.1 u4.2.2 u1.2.2.2 (1 : Int32) u4.2.1 u10 hu10) dX4_readDoor_174 (by decide) rfl (Nat.le_of_ble_eq_true rfl) 6 6 rfl rfl [6] rfl (by decide) rfl rfl rfl rfl ?_
          cases h
          exact hret _ _ _ dX4_readDoor_177 rfl
        · refine g_sub [2, 1, 0] rfl ?_
          exact hj105 _ h
    · refine g_aload_n (pc := 52) C dX4_readDoor_52 rfl 2 rfl ?_
      refine g_get (pc := 53) C fl_X4_9 dX4_readDoor_53 0 rfl rfl ?_
      refine g_aload_n (pc := 56) C dX4_readDoor_56 rfl 2 rfl ?_
      refine g_get (pc := 57) C fl_X4_31 dX4_readDoor_57 0 rfl rfl ?_
      refine g_iconst (pc := 60) (v := 0) C dX4_readDoor_60 (by decide) ?_
      refine g_iast (pc := 61) C dX4_readDoor_61 1 rfl h (fun g11 h => ?_)
      refine g_ws (ws' := (W_X4_readDoor E o_t r_t_script a_t r_t_script r_script_tape r_script_tape a_script_tape t_lines t_told g11 g2 t_ones t_others t_values script_end u4.2.1 u4.2.2 u1.2.2.2 script_tape_size script_tape_bytes)) rfl ?_
      refine g_aload_n (pc := 62) C dX4_readDoor_62 rfl 2 rfl ?_
      obtain ⟨u12, hu12, h⟩ := bs h
      refine g_callV (pc := 63) (st := []) (st1 := []) (ws' := (W_X4_readDoor E o_t r_t_script a_t r_t_script r_script_tape r_script_tape a_script_tape t_lines t_told g11 g2 u12.1 u12.2.1 u12.2.2.1 script_end u12.2.2.2.1 u12.2.2.2.2.1 u12.2.2.2.2.2 script_tape_size script_tape_bytes)) C mv_X4_readRooms mi_X4_readRooms ml_X4_88 (c_X4_readRooms X.2.1 E o_t r_t_script a_t r_script_tape a_script_tape t_lines t_told t_ones t_others t_values script_end u4.2.1 u4.2.2 u1.2.2.2 script_tape_size script_tape_bytes u12 hu12) dX4_readDoor_63 (by decide) rfl (Nat.le_of_ble_eq_true rfl) 0 4 rfl rfl [0, 3, 4, 5, 6, 7, 8] rfl (by decide) rfl rfl rfl rfl ?_
      refine g_aload_n (pc := 66) C dX4_readDoor_66 rfl 2 rfl ?_
      refine g_dup (pc := 67) C dX4_readDoor_67 rfl ?_
      refine g_get (pc := 68) C fl_X4_35 dX4_readDoor_68 0 rfl rfl ?_
      refine g_iconst (pc := 71) (v := 1) C dX4_readDoor_71 (by decide) ?_
      refine g_iload_n (pc := 72) C dX4_readDoor_72 rfl 0 rfl ?_
      refine g_ishl (pc := 73) C dX4_readDoor_73 ?_
      refine g_ior (pc := 74) C dX4_readDoor_74 ?_
      refine g_nm h (fun v13 h => ?_)
      refine g_put (pc := 75) (ws' := (W_X4_readDoor E o_t r_t_script a_t r_t_script r_script_tape r_script_tape a_script_tape t_lines v13 g11 g2 u12.1 u12.2.1 u12.2.2.1 script_end u12.2.2.2.1 u12.2.2.2.2.1 u12.2.2.2.2.2 script_tape_size script_tape_bytes)) C .int fl_X4_35 dX4_readDoor_75 0 rfl (by decide +kernel) rfl rfl (Nat.le_of_ble_eq_true rfl) rfl ?_
      refine g_goto (pc := 78) (tgt := 177) C dX4_readDoor_78 (by decide) ?_
      cases h
      exact hret _ _ _ dX4_readDoor_177 rfl
  · cases h
    exact hret _ _ _ dX4_readDoor_39 rfl
abbrev W_X4_readLine (E : GE) (O_t : Nat) (r_t_script : Nat) (a_t : Nat → Nat) (O_script : Nat) (r_script_tape : Nat) (O_script_tape : Nat) (a_script_tape : Nat → Nat) (t_lines : Int32) (t_told : Int32) (t_sorts : (Nat → Int32)) (t_numbers : (Nat → Int32)) (t_ones : (Nat → Int32)) (t_others : (Nat → Int32)) (t_values : (Nat → Int32)) (script_end : Int32) (script_place : Int32) (script_sign : Int32) (script_fault : Int32) (script_tape_size : Int32) (script_tape_bytes : (Nat → Int32)) : va_W := [(O_t, ob_X4 r_t_script a_t t_lines t_told), (a_t 1, .inl (E.2.1, 16, .inl t_sorts)), (a_t 2, .inl (E.2.1, 16, .inl t_numbers)), (a_t 3, .inl (E.2.1, 16, .inl t_ones)), (a_t 4, .inl (E.2.1, 16, .inl t_others)), (a_t 5, .inl (E.2.1, 16, .inl t_values)), (O_script, ob_X7 r_script_tape script_end script_place script_sign script_fault), (O_script_tape, ob_X8 a_script_tape script_tape_size), (a_script_tape 0, .inl (E.2.1, 260, .inl script_tape_bytes))]
def f_X4_readLine (t_lines : Int32) (t_told : Int32) (t_sorts : (Nat → Int32)) (t_numbers : (Nat → Int32)) (t_ones : (Nat → Int32)) (t_others : (Nat → Int32)) (t_values : (Nat → Int32)) (script_end : Int32) (script_place : Int32) (script_sign : Int32) (script_fault : Int32) (script_tape_size : Int32) (script_tape_bytes : (Nat → Int32)) : Option (Int32 × Int32 × (Nat → Int32) × (Nat → Int32) × (Nat → Int32) × (Nat → Int32) × (Nat → Int32) × Int32 × Int32 × Int32) := (f_X11_isWithin script_sign (97 : Int32) (102 : Int32)).bind fun u1 => jn (fun s2 : Unit => if t_lines < (16 : Int32) then (if u1 = 0 then ((f_X4_readDoor t_lines t_told t_sorts t_numbers t_ones t_others t_values script_end script_place script_sign script_fault script_tape_size script_tape_bytes).bind fun u3 => nm (t_lines + (1 : Int32)) fun v4 => some (v4, u3.1, u3.2.1, u3.2.2.1, u3.2.2.2.1, u3.2.2.2.2.1, u3.2.2.2.2.2.1, u3.2.2.2.2.2.2.1, u3.2.2.2.2.2.2.2.1, u3.2.2.2.2.2.2.2.2)) else (f_X4_readKind t_lines t_sorts t_numbers t_values script_end script_place script_sign script_fault script_tape_size script_tape_bytes).bind fun u5 => nm (t_lines + (1 : Int32)) fun v6 => some (v6, t_told, u5.1, u5.2.1, t_ones, t_others, u5.2.2.1, u5.2.2.2.1, u5.2.2.2.2.1, u5.2.2.2.2.2)) else (f_X7_fail script_fault (4 : Int32) script_place).bind fun u7 => some (t_lines, t_told, t_sorts, t_numbers, t_ones, t_others, t_values, script_place, script_sign, u7)) fun j47 => if u1 = 0 then ((f_X7_isDigit script_sign).bind fun u8 => if u8 = 0 then ((f_X7_fail script_fault (1 : Int32) script_place).bind fun u9 => some (t_lines, t_told, t_sorts, t_numbers, t_ones, t_others, t_values, script_place, script_sign, u9)) else j47 ()) else j47 ()
theorem dX4_readLine_0 : decode cX4_readLine 0 = .ok (.aload_n 0, 1) := by decide +kernel
theorem dX4_readLine_1 : decode cX4_readLine 1 = .ok (.getfield 27, 3) := by decide +kernel
theorem dX4_readLine_4 : decode cX4_readLine 4 = .ok (.getfield 54, 3) := by decide +kernel
theorem dX4_readLine_7 : decode cX4_readLine 7 = .ok (.bipush 97, 2) := by decide +kernel
theorem dX4_readLine_9 : decode cX4_readLine 9 = .ok (.bipush 102, 2) := by decide +kernel
theorem dX4_readLine_11 : decode cX4_readLine 11 = .ok (.invokestatic 57, 3) := by decide +kernel
theorem dX4_readLine_14 : decode cX4_readLine 14 = .ok (.istore_n 1, 1) := by decide +kernel
theorem dX4_readLine_15 : decode cX4_readLine 15 = .ok (.iload_n 1, 1) := by decide +kernel
theorem dX4_readLine_16 : decode cX4_readLine 16 = .ok (.ifCond .ne 31, 3) := by decide +kernel
theorem dX4_readLine_19 : decode cX4_readLine 19 = .ok (.aload_n 0, 1) := by decide +kernel
theorem dX4_readLine_20 : decode cX4_readLine 20 = .ok (.getfield 27, 3) := by decide +kernel
theorem dX4_readLine_23 : decode cX4_readLine 23 = .ok (.invokevirtual 61, 3) := by decide +kernel
theorem dX4_readLine_26 : decode cX4_readLine 26 = .ok (.ifCond .ne 21, 3) := by decide +kernel
theorem dX4_readLine_29 : decode cX4_readLine 29 = .ok (.aload_n 0, 1) := by decide +kernel
theorem dX4_readLine_30 : decode cX4_readLine 30 = .ok (.getfield 27, 3) := by decide +kernel
theorem dX4_readLine_33 : decode cX4_readLine 33 = .ok (.iconst 1, 1) := by decide +kernel
theorem dX4_readLine_34 : decode cX4_readLine 34 = .ok (.aload_n 0, 1) := by decide +kernel
theorem dX4_readLine_35 : decode cX4_readLine 35 = .ok (.getfield 27, 3) := by decide +kernel
theorem dX4_readLine_38 : decode cX4_readLine 38 = .ok (.getfield 64, 3) := by decide +kernel
theorem dX4_readLine_41 : decode cX4_readLine 41 = .ok (.invokevirtual 67, 3) := by decide +kernel
theorem dX4_readLine_44 : decode cX4_readLine 44 = .ok (.goto 55, 3) := by decide +kernel
theorem dX4_readLine_47 : decode cX4_readLine 47 = .ok (.aload_n 0, 1) := by decide +kernel
theorem dX4_readLine_48 : decode cX4_readLine 48 = .ok (.getfield 31, 3) := by decide +kernel
theorem dX4_readLine_51 : decode cX4_readLine 51 = .ok (.bipush 16, 2) := by decide +kernel
theorem dX4_readLine_53 : decode cX4_readLine 53 = .ok (.if_icmp .lt 21, 3) := by decide +kernel
theorem dX4_readLine_56 : decode cX4_readLine 56 = .ok (.aload_n 0, 1) := by decide +kernel
theorem dX4_readLine_57 : decode cX4_readLine 57 = .ok (.getfield 27, 3) := by decide +kernel
theorem dX4_readLine_60 : decode cX4_readLine 60 = .ok (.iconst 4, 1) := by decide +kernel
theorem dX4_readLine_61 : decode cX4_readLine 61 = .ok (.aload_n 0, 1) := by decide +kernel
theorem dX4_readLine_62 : decode cX4_readLine 62 = .ok (.getfield 27, 3) := by decide +kernel
theorem dX4_readLine_65 : decode cX4_readLine 65 = .ok (.getfield 64, 3) := by decide +kernel
theorem dX4_readLine_68 : decode cX4_readLine 68 = .ok (.invokevirtual 67, 3) := by decide +kernel
theorem dX4_readLine_71 : decode cX4_readLine 71 = .ok (.goto 28, 3) := by decide +kernel
theorem dX4_readLine_74 : decode cX4_readLine 74 = .ok (.iload_n 1, 1) := by decide +kernel
theorem dX4_readLine_75 : decode cX4_readLine 75 = .ok (.ifCond .eq 10, 3) := by decide +kernel
theorem dX4_readLine_78 : decode cX4_readLine 78 = .ok (.aload_n 0, 1) := by decide +kernel
theorem dX4_readLine_79 : decode cX4_readLine 79 = .ok (.invokevirtual 71, 3) := by decide +kernel
theorem dX4_readLine_82 : decode cX4_readLine 82 = .ok (.goto 7, 3) := by decide +kernel
theorem dX4_readLine_85 : decode cX4_readLine 85 = .ok (.aload_n 0, 1) := by decide +kernel
theorem dX4_readLine_86 : decode cX4_readLine 86 = .ok (.invokevirtual 74, 3) := by decide +kernel
theorem dX4_readLine_89 : decode cX4_readLine 89 = .ok (.aload_n 0, 1) := by decide +kernel
theorem dX4_readLine_90 : decode cX4_readLine 90 = .ok (.dup, 1) := by decide +kernel
theorem dX4_readLine_91 : decode cX4_readLine 91 = .ok (.getfield 31, 3) := by decide +kernel
theorem dX4_readLine_94 : decode cX4_readLine 94 = .ok (.iconst 1, 1) := by decide +kernel
theorem dX4_readLine_95 : decode cX4_readLine 95 = .ok (.iadd, 1) := by decide +kernel
theorem dX4_readLine_96 : decode cX4_readLine 96 = .ok (.putfield 31, 3) := by decide +kernel
theorem dX4_readLine_99 : decode cX4_readLine 99 = .ok (.return_, 1) := by decide +kernel
set_option maxHeartbeats 4000000 in
set_option maxRecDepth 100000 in
theorem c_X4_readLine (l : Launch) (E : GE) (o_t : Nat) (r_t_script : Nat) (a_t : Nat → Nat) (r_script_tape : Nat) (a_script_tape : Nat → Nat) (t_lines : Int32) (t_told : Int32) (t_sorts : (Nat → Int32)) (t_numbers : (Nat → Int32)) (t_ones : (Nat → Int32)) (t_others : (Nat → Int32)) (t_values : (Nat → Int32)) (script_end : Int32) (script_place : Int32) (script_sign : Int32) (script_fault : Int32) (script_tape_size : Int32) (script_tape_bytes : (Nat → Int32)) (r : Int32 × Int32 × (Nat → Int32) × (Nat → Int32) × (Nat → Int32) × (Nat → Int32) × (Nat → Int32) × Int32 × Int32 × Int32) (h : f_X4_readLine t_lines t_told t_sorts t_numbers t_ones t_others t_values script_end script_place script_sign script_fault script_tape_size script_tape_bytes = some r) : Cn l E yX4_readLine cX4_readLine 2 none 5 0 0 [.ref o_t] (W_X4_readLine E o_t r_t_script a_t r_t_script r_script_tape r_script_tape a_script_tape t_lines t_told t_sorts t_numbers t_ones t_others t_values script_end script_place script_sign script_fault script_tape_size script_tape_bytes) (fun w => w = (W_X4_readLine E o_t r_t_script a_t r_t_script r_script_tape r_script_tape a_script_tape r.1 r.2.1 r.2.2.1 r.2.2.2.1 r.2.2.2.2.1 r.2.2.2.2.2.1 r.2.2.2.2.2.2.1 script_end r.2.2.2.2.2.2.2.1 r.2.2.2.2.2.2.2.2.1 r.2.2.2.2.2.2.2.2.2 script_tape_size script_tape_bytes)) none := by
  refine Cn.ofV (by decide +kernel) (Nat.le_of_ble_eq_true rfl) (fun X hX hR C hret => ?_)
  subst hX
  show Gx X E 0 0 (W_X4_readLine E o_t r_t_script a_t r_t_script r_script_tape r_script_tape a_script_tape t_lines t_told t_sorts t_numbers t_ones t_others t_values script_end script_place script_sign script_fault script_tape_size script_tape_bytes) 0 [(0, .ref o_t)] []
  unfold f_X4_readLine at h
  refine g_aload_n (pc := 0) C dX4_readLine_0 rfl 0 rfl ?_
  refine g_get (pc := 1) C fl_X4_27 dX4_readLine_1 0 rfl rfl ?_
  refine g_get (pc := 4) C fl_X4_54 dX4_readLine_4 6 rfl rfl ?_
  refine g_bipush (pc := 7) (v := 97) C dX4_readLine_7 (by decide) ?_
  refine g_bipush (pc := 9) (v := 102) C dX4_readLine_9 (by decide) ?_
  obtain ⟨u1, hu1, h⟩ := bs h
  refine g_callSN (pc := 11) (st := []) (st1 := [.int u1]) (ws' := (W_X4_readLine E o_t r_t_script a_t r_t_script r_script_tape r_script_tape a_script_tape t_lines t_told t_sorts t_numbers t_ones t_others t_values script_end script_place script_sign script_fault script_tape_size script_tape_bytes)) C mv_X11_isWithin ms_X11_isWithin mn_X4_57 (c_X11_isWithin X.2.1 E script_sign (97 : Int32) (102 : Int32) u1 hu1) dX4_readLine_11 (by decide) rfl (Nat.le_of_ble_eq_true rfl) [] rfl (by decide) rfl rfl rfl rfl ?_
  refine g_istore_n (pc := 14) (lv' := [(1, .int u1), (0, .ref o_t)]) C dX4_readLine_14 rfl (by decide) rfl ?_
  refine g_iload_n (pc := 15) C dX4_readLine_15 rfl 0 rfl ?_
  refine g_jn (fun s2 : Unit => Gx X E 0 0 (W_X4_readLine E o_t r_t_script a_t r_t_script r_script_tape r_script_tape a_script_tape t_lines t_told t_sorts t_numbers t_ones t_others t_values script_end script_place script_sign script_fault script_tape_size script_tape_bytes) 47 [(0, .ref o_t), (1, .int u1)] []) h (fun s2 h => ?_) (fun j47 hj47 h => ?_)
  · refine g_aload_n (pc := 47) C dX4_readLine_47 rfl 0 rfl ?_
    refine g_get (pc := 48) C fl_X4_31 dX4_readLine_48 0 rfl rfl ?_
    refine g_bipush (pc := 51) (v := 16) C dX4_readLine_51 (by decide) ?_
    refine g_icmp_lt (pc := 53) (tgt := 74) C dX4_readLine_53 (by decide) h (fun h => ?_) (fun h => ?_)
    · refine g_iload_n (pc := 74) C dX4_readLine_74 rfl 1 rfl ?_
      refine g_if_eq (pc := 75) (tgt := 85) C dX4_readLine_75 (by decide) h (fun h => ?_) (fun h => ?_)
      · refine g_aload_n (pc := 85) C dX4_readLine_85 rfl 0 rfl ?_
        obtain ⟨u3, hu3, h⟩ := bs h
        refine g_callV (pc := 86) (st := []) (st1 := []) (ws' := (W_X4_readLine E o_t r_t_script a_t r_t_script r_script_tape r_script_tape a_script_tape t_lines u3.1 u3.2.1 u3.2.2.1 u3.2.2.2.1 u3.2.2.2.2.1 u3.2.2.2.2.2.1 script_end u3.2.2.2.2.2.2.1 u3.2.2.2.2.2.2.2.1 u3.2.2.2.2.2.2.2.2 script_tape_size script_tape_bytes)) C mv_X4_readDoor mi_X4_readDoor ml_X4_74 (c_X4_readDoor X.2.1 E o_t r_t_script a_t r_script_tape a_script_tape t_lines t_told t_sorts t_numbers t_ones t_others t_values script_end script_place script_sign script_fault script_tape_size script_tape_bytes u3 hu3) dX4_readLine_86 (by decide) rfl (Nat.le_of_ble_eq_true rfl) 0 4 rfl rfl [0, 1, 2, 3, 4, 5, 6, 7, 8] rfl (by decide) rfl rfl rfl rfl ?_
        refine g_aload_n (pc := 89) C dX4_readLine_89 rfl 0 rfl ?_
        refine g_dup (pc := 90) C dX4_readLine_90 rfl ?_
        refine g_get (pc := 91) C fl_X4_31 dX4_readLine_91 0 rfl rfl ?_
        refine g_iconst (pc := 94) (v := 1) C dX4_readLine_94 (by decide) ?_
        refine g_iadd (pc := 95) C dX4_readLine_95 ?_
        refine g_nm h (fun v4 h => ?_)
        refine g_put (pc := 96) (ws' := (W_X4_readLine E o_t r_t_script a_t r_t_script r_script_tape r_script_tape a_script_tape v4 u3.1 u3.2.1 u3.2.2.1 u3.2.2.2.1 u3.2.2.2.2.1 u3.2.2.2.2.2.1 script_end u3.2.2.2.2.2.2.1 u3.2.2.2.2.2.2.2.1 u3.2.2.2.2.2.2.2.2 script_tape_size script_tape_bytes)) C .int fl_X4_31 dX4_readLine_96 0 rfl (by decide +kernel) rfl rfl (Nat.le_of_ble_eq_true rfl) rfl ?_
        cases h
        exact hret _ _ _ dX4_readLine_99 rfl
      · refine g_aload_n (pc := 78) C dX4_readLine_78 rfl 0 rfl ?_
        obtain ⟨u5, hu5, h⟩ := bs h
        refine g_callV (pc := 79) (st := []) (st1 := []) (ws' := (W_X4_readLine E o_t r_t_script a_t r_t_script r_script_tape r_script_tape a_script_tape t_lines t_told u5.1 u5.2.1 t_ones t_others u5.2.2.1 script_end u5.2.2.2.1 u5.2.2.2.2.1 u5.2.2.2.2.2 script_tape_size script_tape_bytes)) C mv_X4_readKind mi_X4_readKind ml_X4_71 (c_X4_readKind X.2.1 E o_t r_t_script a_t r_script_tape a_script_tape t_lines t_told t_sorts t_numbers t_values script_end script_place script_sign script_fault script_tape_size script_tape_bytes u5 hu5) dX4_readLine_79 (by decide) rfl (Nat.le_of_ble_eq_true rfl) 0 4 rfl rfl [0, 1, 2, 5, 6, 7, 8] rfl (by decide) rfl rfl rfl rfl ?_
        refine g_goto (pc := 82) (tgt := 89) C dX4_readLine_82 (by decide) ?_
        refine g_aload_n (pc := 89) C dX4_readLine_89 rfl 0 rfl ?_
        refine g_dup (pc := 90) C dX4_readLine_90 rfl ?_
        refine g_get (pc := 91) C fl_X4_31 dX4_readLine_91 0 rfl rfl ?_
        refine g_iconst (pc := 94) (v := 1) C dX4_readLine_94 (by decide) ?_
        refine g_iadd (pc := 95) C dX4_readLine_95 ?_
        refine g_nm h (fun v6 h => ?_)
        refine g_put (pc := 96) (ws' := (W_X4_readLine E o_t r_t_script a_t r_t_script r_script_tape r_script_tape a_script_tape v6 t_told u5.1 u5.2.1 t_ones t_others u5.2.2.1 script_end u5.2.2.2.1 u5.2.2.2.2.1 u5.2.2.2.2.2 script_tape_size script_tape_bytes)) C .int fl_X4_31 dX4_readLine_96 0 rfl (by decide +kernel) rfl rfl (Nat.le_of_ble_eq_true rfl) rfl ?_
        cases h
        exact hret _ _ _ dX4_readLine_99 rfl
    · refine g_aload_n (pc := 56) C dX4_readLine_56 rfl 0 rfl ?_
      refine g_get (pc := 57) C fl_X4_27 dX4_readLine_57 0 rfl rfl ?_
      refine g_iconst (pc := 60) (v := 4) C dX4_readLine_60 (by decide) ?_
      refine g_aload_n (pc := 61) C dX4_readLine_61 rfl 0 rfl ?_
      refine g_get (pc := 62) C fl_X4_27 dX4_readLine_62 0 rfl rfl ?_
      refine g_get (pc := 65) C fl_X4_64 dX4_readLine_65 6 rfl rfl ?_
      obtain ⟨u7, hu7, h⟩ := bs h
      refine g_callV (pc := 68) (st := []) (st1 := []) (ws' := (W_X4_readLine E o_t r_t_script a_t r_t_script r_script_tape r_script_tape a_script_tape t_lines t_told t_sorts t_numbers t_ones t_others t_values script_end script_place script_sign u7 script_tape_size script_tape_bytes)) C mv_X7_fail mi_X7_fail ml_X4_67 (c_X7_fail X.2.1 E r_t_script r_script_tape script_end script_place script_sign script_fault (4 : Int32) script_place u7 hu7) dX4_readLine_68 (by decide) rfl (Nat.le_of_ble_eq_true rfl) 6 6 rfl rfl [6] rfl (by decide) rfl rfl rfl rfl ?_
      refine g_goto (pc := 71) (tgt := 99) C dX4_readLine_71 (by decide) ?_
      cases h
      exact hret _ _ _ dX4_readLine_99 rfl
  refine g_if_ne (pc := 16) (tgt := 47) C dX4_readLine_16 (by decide) h (fun h => ?_) (fun h => ?_)
  · refine g_sub [1, 0] rfl ?_
    exact hj47 _ h
  · refine g_aload_n (pc := 19) C dX4_readLine_19 rfl 1 rfl ?_
    refine g_get (pc := 20) C fl_X4_27 dX4_readLine_20 0 rfl rfl ?_
    obtain ⟨u8, hu8, h⟩ := bs h
    refine g_callV (pc := 23) (st := []) (st1 := [.int u8]) (ws' := (W_X4_readLine E o_t r_t_script a_t r_t_script r_script_tape r_script_tape a_script_tape t_lines t_told t_sorts t_numbers t_ones t_others t_values script_end script_place script_sign script_fault script_tape_size script_tape_bytes)) C mv_X7_isDigit mi_X7_isDigit ml_X4_61 (c_X7_isDigit X.2.1 E r_t_script r_script_tape script_end script_place script_sign script_fault u8 hu8) dX4_readLine_23 (by decide) rfl (Nat.le_of_ble_eq_true rfl) 6 6 rfl rfl [6] rfl (by decide) rfl rfl rfl rfl ?_
    refine g_if_ne (pc := 26) (tgt := 47) C dX4_readLine_26 (by decide) h (fun h => ?_) (fun h => ?_)
    · refine g_sub [1, 0] rfl ?_
      exact hj47 _ h
    · refine g_aload_n (pc := 29) C dX4_readLine_29 rfl 1 rfl ?_
      refine g_get (pc := 30) C fl_X4_27 dX4_readLine_30 0 rfl rfl ?_
      refine g_iconst (pc := 33) (v := 1) C dX4_readLine_33 (by decide) ?_
      refine g_aload_n (pc := 34) C dX4_readLine_34 rfl 1 rfl ?_
      refine g_get (pc := 35) C fl_X4_27 dX4_readLine_35 0 rfl rfl ?_
      refine g_get (pc := 38) C fl_X4_64 dX4_readLine_38 6 rfl rfl ?_
      obtain ⟨u9, hu9, h⟩ := bs h
      refine g_callV (pc := 41) (st := []) (st1 := []) (ws' := (W_X4_readLine E o_t r_t_script a_t r_t_script r_script_tape r_script_tape a_script_tape t_lines t_told t_sorts t_numbers t_ones t_others t_values script_end script_place script_sign u9 script_tape_size script_tape_bytes)) C mv_X7_fail mi_X7_fail ml_X4_67 (c_X7_fail X.2.1 E r_t_script r_script_tape script_end script_place script_sign script_fault (1 : Int32) script_place u9 hu9) dX4_readLine_41 (by decide) rfl (Nat.le_of_ble_eq_true rfl) 6 6 rfl rfl [6] rfl (by decide) rfl rfl rfl rfl ?_
      refine g_goto (pc := 44) (tgt := 99) C dX4_readLine_44 (by decide) ?_
      cases h
      exact hret _ _ _ dX4_readLine_99 rfl
abbrev W_X4_read (E : GE) (O_t : Nat) (r_t_script : Nat) (a_t : Nat → Nat) (O_script : Nat) (r_script_tape : Nat) (O_script_tape : Nat) (a_script_tape : Nat → Nat) (t_lines : Int32) (t_told : Int32) (t_sorts : (Nat → Int32)) (t_numbers : (Nat → Int32)) (t_ones : (Nat → Int32)) (t_others : (Nat → Int32)) (t_values : (Nat → Int32)) (script_end : Int32) (script_place : Int32) (script_sign : Int32) (script_fault : Int32) (script_tape_size : Int32) (script_tape_bytes : (Nat → Int32)) : va_W := [(O_t, ob_X4 r_t_script a_t t_lines t_told), (a_t 1, .inl (E.2.1, 16, .inl t_sorts)), (a_t 2, .inl (E.2.1, 16, .inl t_numbers)), (a_t 3, .inl (E.2.1, 16, .inl t_ones)), (a_t 4, .inl (E.2.1, 16, .inl t_others)), (a_t 5, .inl (E.2.1, 16, .inl t_values)), (O_script, ob_X7 r_script_tape script_end script_place script_sign script_fault), (O_script_tape, ob_X8 a_script_tape script_tape_size), (a_script_tape 0, .inl (E.2.1, 260, .inl script_tape_bytes))]
def L_X4_read_12 (script_end : Int32) (script_tape_size : Int32) (script_tape_bytes : (Nat → Int32)) : Nat → Int32 × Int32 × Int32 × (Nat → Int32) × (Nat → Int32) × (Nat → Int32) × (Nat → Int32) × (Nat → Int32) × Int32 × Int32 × Int32 → Option (Int32 × Int32 × (Nat → Int32) × (Nat → Int32) × (Nat → Int32) × (Nat → Int32) × (Nat → Int32) × Int32 × Int32 × Int32) := lp fun go s => if (16 : Int32) < s.1 then (some (s.2.1, s.2.2.1, s.2.2.2.1, s.2.2.2.2.1, s.2.2.2.2.2.1, s.2.2.2.2.2.2.1, s.2.2.2.2.2.2.2.1, s.2.2.2.2.2.2.2.2.1, s.2.2.2.2.2.2.2.2.2.1, s.2.2.2.2.2.2.2.2.2.2)) else (f_X7_isSound s.2.2.2.2.2.2.2.2.2.2).bind fun u1 => if u1 = 0 then (some (s.2.1, s.2.2.1, s.2.2.2.1, s.2.2.2.2.1, s.2.2.2.2.2.1, s.2.2.2.2.2.2.1, s.2.2.2.2.2.2.2.1, s.2.2.2.2.2.2.2.2.1, s.2.2.2.2.2.2.2.2.2.1, s.2.2.2.2.2.2.2.2.2.2)) else (f_X4_readLine s.2.1 s.2.2.1 s.2.2.2.1 s.2.2.2.2.1 s.2.2.2.2.2.1 s.2.2.2.2.2.2.1 s.2.2.2.2.2.2.2.1 script_end s.2.2.2.2.2.2.2.2.1 s.2.2.2.2.2.2.2.2.2.1 s.2.2.2.2.2.2.2.2.2.2 script_tape_size script_tape_bytes).bind fun u2 => (f_X7_isSound u2.2.2.2.2.2.2.2.2.2).bind fun u3 => if u3 = 0 then (some (u2.1, u2.2.1, u2.2.2.1, u2.2.2.2.1, u2.2.2.2.2.1, u2.2.2.2.2.2.1, u2.2.2.2.2.2.2.1, u2.2.2.2.2.2.2.2.1, u2.2.2.2.2.2.2.2.2.1, u2.2.2.2.2.2.2.2.2.2)) else (f_X7_isAtEnd script_end u2.2.2.2.2.2.2.2.1).bind fun u4 => if u4 = 0 then ((f_X7_want script_end u2.2.2.2.2.2.2.2.1 u2.2.2.2.2.2.2.2.2.1 u2.2.2.2.2.2.2.2.2.2 script_tape_size script_tape_bytes (59 : Int32)).bind fun u5 => nm (s.1 + (1 : Int32)) fun v6 => go (v6, u2.1, u2.2.1, u2.2.2.1, u2.2.2.2.1, u2.2.2.2.2.1, u2.2.2.2.2.2.1, u2.2.2.2.2.2.2.1, u5.1, u5.2.1, u5.2.2)) else some (u2.1, u2.2.1, u2.2.2.1, u2.2.2.2.1, u2.2.2.2.2.1, u2.2.2.2.2.2.1, u2.2.2.2.2.2.2.1, u2.2.2.2.2.2.2.2.1, u2.2.2.2.2.2.2.2.2.1, u2.2.2.2.2.2.2.2.2.2)
def f_X4_read (t_lines : Int32) (t_told : Int32) (t_sorts : (Nat → Int32)) (t_numbers : (Nat → Int32)) (t_ones : (Nat → Int32)) (t_others : (Nat → Int32)) (t_values : (Nat → Int32)) (script_end : Int32) (script_place : Int32) (script_sign : Int32) (script_fault : Int32) (script_tape_size : Int32) (script_tape_bytes : (Nat → Int32)) (x1 : Int32) : Option (Int32 × Int32 × (Nat → Int32) × (Nat → Int32) × (Nat → Int32) × (Nat → Int32) × (Nat → Int32) × Int32 × Int32 × Int32) := L_X4_read_12 script_end script_tape_size script_tape_bytes fu ((0 : Int32), (0 : Int32), x1, t_sorts, t_numbers, t_ones, t_others, t_values, script_place, script_sign, script_fault)
theorem dX4_read_0 : decode cX4_read 0 = .ok (.aload_n 0, 1) := by decide +kernel
theorem dX4_read_1 : decode cX4_read 1 = .ok (.iconst 0, 1) := by decide +kernel
theorem dX4_read_2 : decode cX4_read 2 = .ok (.putfield 31, 3) := by decide +kernel
theorem dX4_read_5 : decode cX4_read 5 = .ok (.aload_n 0, 1) := by decide +kernel
theorem dX4_read_6 : decode cX4_read 6 = .ok (.iload_n 1, 1) := by decide +kernel
theorem dX4_read_7 : decode cX4_read 7 = .ok (.putfield 35, 3) := by decide +kernel
theorem dX4_read_10 : decode cX4_read 10 = .ok (.iconst 0, 1) := by decide +kernel
theorem dX4_read_11 : decode cX4_read 11 = .ok (.istore_n 2, 1) := by decide +kernel
theorem dX4_read_12 : decode cX4_read 12 = .ok (.iload_n 2, 1) := by decide +kernel
theorem dX4_read_13 : decode cX4_read 13 = .ok (.bipush 16, 2) := by decide +kernel
theorem dX4_read_15 : decode cX4_read 15 = .ok (.if_icmp .gt 53, 3) := by decide +kernel
theorem dX4_read_18 : decode cX4_read 18 = .ok (.aload_n 0, 1) := by decide +kernel
theorem dX4_read_19 : decode cX4_read 19 = .ok (.getfield 27, 3) := by decide +kernel
theorem dX4_read_22 : decode cX4_read 22 = .ok (.invokevirtual 38, 3) := by decide +kernel
theorem dX4_read_25 : decode cX4_read 25 = .ok (.ifCond .eq 43, 3) := by decide +kernel
theorem dX4_read_28 : decode cX4_read 28 = .ok (.aload_n 0, 1) := by decide +kernel
theorem dX4_read_29 : decode cX4_read 29 = .ok (.invokevirtual 44, 3) := by decide +kernel
theorem dX4_read_32 : decode cX4_read 32 = .ok (.aload_n 0, 1) := by decide +kernel
theorem dX4_read_33 : decode cX4_read 33 = .ok (.getfield 27, 3) := by decide +kernel
theorem dX4_read_36 : decode cX4_read 36 = .ok (.invokevirtual 38, 3) := by decide +kernel
theorem dX4_read_39 : decode cX4_read 39 = .ok (.ifCond .eq 13, 3) := by decide +kernel
theorem dX4_read_42 : decode cX4_read 42 = .ok (.aload_n 0, 1) := by decide +kernel
theorem dX4_read_43 : decode cX4_read 43 = .ok (.getfield 27, 3) := by decide +kernel
theorem dX4_read_46 : decode cX4_read 46 = .ok (.invokevirtual 47, 3) := by decide +kernel
theorem dX4_read_49 : decode cX4_read 49 = .ok (.ifCond .eq 4, 3) := by decide +kernel
theorem dX4_read_52 : decode cX4_read 52 = .ok (.return_, 1) := by decide +kernel
theorem dX4_read_53 : decode cX4_read 53 = .ok (.aload_n 0, 1) := by decide +kernel
theorem dX4_read_54 : decode cX4_read 54 = .ok (.getfield 27, 3) := by decide +kernel
theorem dX4_read_57 : decode cX4_read 57 = .ok (.bipush 59, 2) := by decide +kernel
theorem dX4_read_59 : decode cX4_read 59 = .ok (.invokevirtual 50, 3) := by decide +kernel
theorem dX4_read_62 : decode cX4_read 62 = .ok (.iinc 2 1, 3) := by decide +kernel
theorem dX4_read_65 : decode cX4_read 65 = .ok (.goto (-53), 3) := by decide +kernel
theorem dX4_read_68 : decode cX4_read 68 = .ok (.return_, 1) := by decide +kernel
set_option maxHeartbeats 4000000 in
set_option maxRecDepth 100000 in
theorem kL_X4_read_12 {X : GC} {E : GE} (C : Cx X E cX4_read RX4 6 3) (o_t : Nat) (r_t_script : Nat) (a_t : Nat → Nat) (r_script_tape : Nat) (a_script_tape : Nat → Nat) (script_end : Int32) (script_tape_size : Int32) (script_tape_bytes : (Nat → Int32)) {r : Int32 × Int32 × (Nat → Int32) × (Nat → Int32) × (Nat → Int32) × (Nat → Int32) × (Nat → Int32) × Int32 × Int32 × Int32} (hret : RtV X E cX4_read 0 0 (fun w => w = (W_X4_read E o_t r_t_script a_t r_t_script r_script_tape r_script_tape a_script_tape r.1 r.2.1 r.2.2.1 r.2.2.2.1 r.2.2.2.2.1 r.2.2.2.2.2.1 r.2.2.2.2.2.2.1 script_end r.2.2.2.2.2.2.2.1 r.2.2.2.2.2.2.2.2.1 r.2.2.2.2.2.2.2.2.2 script_tape_size script_tape_bytes))) : ∀ (n : Nat) (s : Int32 × Int32 × Int32 × (Nat → Int32) × (Nat → Int32) × (Nat → Int32) × (Nat → Int32) × (Nat → Int32) × Int32 × Int32 × Int32), L_X4_read_12 script_end script_tape_size script_tape_bytes n s = some r → Gx X E 0 0 (W_X4_read E o_t r_t_script a_t r_t_script r_script_tape r_script_tape a_script_tape s.2.1 s.2.2.1 s.2.2.2.1 s.2.2.2.2.1 s.2.2.2.2.2.1 s.2.2.2.2.2.2.1 s.2.2.2.2.2.2.2.1 script_end s.2.2.2.2.2.2.2.2.1 s.2.2.2.2.2.2.2.2.2.1 s.2.2.2.2.2.2.2.2.2.2 script_tape_size script_tape_bytes) 12 [(0, .ref o_t), (2, .int s.1)] [] := by
  unfold L_X4_read_12
  refine lp_ind _ (fun go ih s h => ?_)
  refine g_iload_n (pc := 12) C dX4_read_12 rfl 1 rfl ?_
  refine g_bipush (pc := 13) (v := 16) C dX4_read_13 (by decide) ?_
  refine g_icmp_gt (pc := 15) (tgt := 68) C dX4_read_15 (by decide) h (fun h => ?_) (fun h => ?_)
  · cases h
    exact hret _ _ _ dX4_read_68 rfl
  · refine g_aload_n (pc := 18) C dX4_read_18 rfl 0 rfl ?_
    refine g_get (pc := 19) C fl_X4_27 dX4_read_19 0 rfl rfl ?_
    obtain ⟨u1, hu1, h⟩ := bs h
    refine g_callV (pc := 22) (st := []) (st1 := [.int u1]) (ws' := (W_X4_read E o_t r_t_script a_t r_t_script r_script_tape r_script_tape a_script_tape s.2.1 s.2.2.1 s.2.2.2.1 s.2.2.2.2.1 s.2.2.2.2.2.1 s.2.2.2.2.2.2.1 s.2.2.2.2.2.2.2.1 script_end s.2.2.2.2.2.2.2.2.1 s.2.2.2.2.2.2.2.2.2.1 s.2.2.2.2.2.2.2.2.2.2 script_tape_size script_tape_bytes)) C mv_X7_isSound mi_X7_isSound ml_X4_38 (c_X7_isSound X.2.1 E r_t_script r_script_tape script_end s.2.2.2.2.2.2.2.2.1 s.2.2.2.2.2.2.2.2.2.1 s.2.2.2.2.2.2.2.2.2.2 u1 hu1) dX4_read_22 (by decide) rfl (Nat.le_of_ble_eq_true rfl) 6 6 rfl rfl [6] rfl (by decide) rfl rfl rfl rfl ?_
    refine g_if_eq (pc := 25) (tgt := 68) C dX4_read_25 (by decide) h (fun h => ?_) (fun h => ?_)
    · cases h
      exact hret _ _ _ dX4_read_68 rfl
    · refine g_aload_n (pc := 28) C dX4_read_28 rfl 0 rfl ?_
      obtain ⟨u2, hu2, h⟩ := bs h
      refine g_callV (pc := 29) (st := []) (st1 := []) (ws' := (W_X4_read E o_t r_t_script a_t r_t_script r_script_tape r_script_tape a_script_tape u2.1 u2.2.1 u2.2.2.1 u2.2.2.2.1 u2.2.2.2.2.1 u2.2.2.2.2.2.1 u2.2.2.2.2.2.2.1 script_end u2.2.2.2.2.2.2.2.1 u2.2.2.2.2.2.2.2.2.1 u2.2.2.2.2.2.2.2.2.2 script_tape_size script_tape_bytes)) C mv_X4_readLine mi_X4_readLine ml_X4_44 (c_X4_readLine X.2.1 E o_t r_t_script a_t r_script_tape a_script_tape s.2.1 s.2.2.1 s.2.2.2.1 s.2.2.2.2.1 s.2.2.2.2.2.1 s.2.2.2.2.2.2.1 s.2.2.2.2.2.2.2.1 script_end s.2.2.2.2.2.2.2.2.1 s.2.2.2.2.2.2.2.2.2.1 s.2.2.2.2.2.2.2.2.2.2 script_tape_size script_tape_bytes u2 hu2) dX4_read_29 (by decide) rfl (Nat.le_of_ble_eq_true rfl) 0 4 rfl rfl [0, 1, 2, 3, 4, 5, 6, 7, 8] rfl (by decide) rfl rfl rfl rfl ?_
      refine g_aload_n (pc := 32) C dX4_read_32 rfl 0 rfl ?_
      refine g_get (pc := 33) C fl_X4_27 dX4_read_33 0 rfl rfl ?_
      obtain ⟨u3, hu3, h⟩ := bs h
      refine g_callV (pc := 36) (st := []) (st1 := [.int u3]) (ws' := (W_X4_read E o_t r_t_script a_t r_t_script r_script_tape r_script_tape a_script_tape u2.1 u2.2.1 u2.2.2.1 u2.2.2.2.1 u2.2.2.2.2.1 u2.2.2.2.2.2.1 u2.2.2.2.2.2.2.1 script_end u2.2.2.2.2.2.2.2.1 u2.2.2.2.2.2.2.2.2.1 u2.2.2.2.2.2.2.2.2.2 script_tape_size script_tape_bytes)) C mv_X7_isSound mi_X7_isSound ml_X4_38 (c_X7_isSound X.2.1 E r_t_script r_script_tape script_end u2.2.2.2.2.2.2.2.1 u2.2.2.2.2.2.2.2.2.1 u2.2.2.2.2.2.2.2.2.2 u3 hu3) dX4_read_36 (by decide) rfl (Nat.le_of_ble_eq_true rfl) 6 6 rfl rfl [6] rfl (by decide) rfl rfl rfl rfl ?_
      refine g_if_eq (pc := 39) (tgt := 52) C dX4_read_39 (by decide) h (fun h => ?_) (fun h => ?_)
      · cases h
        exact hret _ _ _ dX4_read_52 rfl
      · refine g_aload_n (pc := 42) C dX4_read_42 rfl 0 rfl ?_
        refine g_get (pc := 43) C fl_X4_27 dX4_read_43 0 rfl rfl ?_
        obtain ⟨u4, hu4, h⟩ := bs h
        refine g_callV (pc := 46) (st := []) (st1 := [.int u4]) (ws' := (W_X4_read E o_t r_t_script a_t r_t_script r_script_tape r_script_tape a_script_tape u2.1 u2.2.1 u2.2.2.1 u2.2.2.2.1 u2.2.2.2.2.1 u2.2.2.2.2.2.1 u2.2.2.2.2.2.2.1 script_end u2.2.2.2.2.2.2.2.1 u2.2.2.2.2.2.2.2.2.1 u2.2.2.2.2.2.2.2.2.2 script_tape_size script_tape_bytes)) C mv_X7_isAtEnd mi_X7_isAtEnd ml_X4_47 (c_X7_isAtEnd X.2.1 E r_t_script r_script_tape script_end u2.2.2.2.2.2.2.2.1 u2.2.2.2.2.2.2.2.2.1 u2.2.2.2.2.2.2.2.2.2 u4 hu4) dX4_read_46 (by decide) rfl (Nat.le_of_ble_eq_true rfl) 6 6 rfl rfl [6] rfl (by decide) rfl rfl rfl rfl ?_
        refine g_if_eq (pc := 49) (tgt := 53) C dX4_read_49 (by decide) h (fun h => ?_) (fun h => ?_)
        · refine g_aload_n (pc := 53) C dX4_read_53 rfl 0 rfl ?_
          refine g_get (pc := 54) C fl_X4_27 dX4_read_54 0 rfl rfl ?_
          refine g_bipush (pc := 57) (v := 59) C dX4_read_57 (by decide) ?_
          obtain ⟨u5, hu5, h⟩ := bs h
          refine g_callV (pc := 59) (st := []) (st1 := []) (ws' := (W_X4_read E o_t r_t_script a_t r_t_script r_script_tape r_script_tape a_script_tape u2.1 u2.2.1 u2.2.2.1 u2.2.2.2.1 u2.2.2.2.2.1 u2.2.2.2.2.2.1 u2.2.2.2.2.2.2.1 script_end u5.1 u5.2.1 u5.2.2 script_tape_size script_tape_bytes)) C mv_X7_want mi_X7_want ml_X4_50 (c_X7_want X.2.1 E r_t_script r_script_tape a_script_tape script_end u2.2.2.2.2.2.2.2.1 u2.2.2.2.2.2.2.2.2.1 u2.2.2.2.2.2.2.2.2.2 script_tape_size script_tape_bytes (59 : Int32) u5 hu5) dX4_read_59 (by decide) rfl (Nat.le_of_ble_eq_true rfl) 6 6 rfl rfl [6, 7, 8] rfl (by decide) rfl rfl rfl rfl ?_
          refine g_iincn (pc := 62) (j := 1) (d := 1) (lv' := fun v6 => [(2, .int v6), (0, .ref o_t)]) C dX4_read_62 rfl (by decide) (by decide) (fun _ => rfl) h (fun v6 h => ?_)
          refine g_goto (pc := 65) (tgt := 12) C dX4_read_65 (by decide) ?_
          refine g_sub [1, 0] rfl ?_
          exact ih _ h
        · cases h
          exact hret _ _ _ dX4_read_52 rfl
set_option maxHeartbeats 4000000 in
set_option maxRecDepth 100000 in
theorem c_X4_read (l : Launch) (E : GE) (o_t : Nat) (r_t_script : Nat) (a_t : Nat → Nat) (r_script_tape : Nat) (a_script_tape : Nat → Nat) (t_lines : Int32) (t_told : Int32) (t_sorts : (Nat → Int32)) (t_numbers : (Nat → Int32)) (t_ones : (Nat → Int32)) (t_others : (Nat → Int32)) (t_values : (Nat → Int32)) (script_end : Int32) (script_place : Int32) (script_sign : Int32) (script_fault : Int32) (script_tape_size : Int32) (script_tape_bytes : (Nat → Int32)) (x1 : Int32) (r : Int32 × Int32 × (Nat → Int32) × (Nat → Int32) × (Nat → Int32) × (Nat → Int32) × (Nat → Int32) × Int32 × Int32 × Int32) (h : f_X4_read t_lines t_told t_sorts t_numbers t_ones t_others t_values script_end script_place script_sign script_fault script_tape_size script_tape_bytes x1 = some r) : Cn l E yX4_read cX4_read 3 none 6 0 0 [.ref o_t, .int x1] (W_X4_read E o_t r_t_script a_t r_t_script r_script_tape r_script_tape a_script_tape t_lines t_told t_sorts t_numbers t_ones t_others t_values script_end script_place script_sign script_fault script_tape_size script_tape_bytes) (fun w => w = (W_X4_read E o_t r_t_script a_t r_t_script r_script_tape r_script_tape a_script_tape r.1 r.2.1 r.2.2.1 r.2.2.2.1 r.2.2.2.2.1 r.2.2.2.2.2.1 r.2.2.2.2.2.2.1 script_end r.2.2.2.2.2.2.2.1 r.2.2.2.2.2.2.2.2.1 r.2.2.2.2.2.2.2.2.2 script_tape_size script_tape_bytes)) none := by
  refine Cn.ofV (by decide +kernel) (Nat.le_of_ble_eq_true rfl) (fun X hX hR C hret => ?_)
  subst hX
  show Gx X E 0 0 (W_X4_read E o_t r_t_script a_t r_t_script r_script_tape r_script_tape a_script_tape t_lines t_told t_sorts t_numbers t_ones t_others t_values script_end script_place script_sign script_fault script_tape_size script_tape_bytes) 0 [(0, .ref o_t), (1, .int x1)] []
  unfold f_X4_read at h
  refine g_aload_n (pc := 0) C dX4_read_0 rfl 0 rfl ?_
  refine g_iconst (pc := 1) (v := 0) C dX4_read_1 (by decide) ?_
  refine g_put (pc := 2) (ws' := (W_X4_read E o_t r_t_script a_t r_t_script r_script_tape r_script_tape a_script_tape (0 : Int32) t_told t_sorts t_numbers t_ones t_others t_values script_end script_place script_sign script_fault script_tape_size script_tape_bytes)) C .int fl_X4_31 dX4_read_2 0 rfl (by decide +kernel) rfl rfl (Nat.le_of_ble_eq_true rfl) rfl ?_
  refine g_aload_n (pc := 5) C dX4_read_5 rfl 0 rfl ?_
  refine g_iload_n (pc := 6) C dX4_read_6 rfl 1 rfl ?_
  refine g_put (pc := 7) (ws' := (W_X4_read E o_t r_t_script a_t r_t_script r_script_tape r_script_tape a_script_tape (0 : Int32) x1 t_sorts t_numbers t_ones t_others t_values script_end script_place script_sign script_fault script_tape_size script_tape_bytes)) C .int fl_X4_35 dX4_read_7 0 rfl (by decide +kernel) rfl rfl (Nat.le_of_ble_eq_true rfl) rfl ?_
  refine g_iconst (pc := 10) (v := 0) C dX4_read_10 (by decide) ?_
  refine g_istore_n (pc := 11) (lv' := [(2, .int (0 : Int32)), (0, .ref o_t), (1, .int x1)]) C dX4_read_11 rfl (by decide) rfl ?_
  refine g_sub [1, 0] rfl ?_
  refine kL_X4_read_12 C o_t r_t_script a_t r_script_tape a_script_tape script_end script_tape_size script_tape_bytes hret  _ _ h
