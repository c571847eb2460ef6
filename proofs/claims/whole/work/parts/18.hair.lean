def rkH : Nat → Nat
  | 0 => 20
  | d + 1 => rkH d + 3
theorem rkH_ge : ∀ d, 20 ≤ rkH d := by
  intro d
  induction d with
  | zero => exact Nat.le_refl _
  | succ d ih => exact Nat.le_trans ih (Nat.le_add_right _ _)
abbrev W_X1_readPins (E : GE) (O_t : Nat) (r_t_script : Nat) (a_t : Nat → Nat) (O_script : Nat) (r_script_tape : Nat) (O_script_tape : Nat) (a_script_tape : Nat → Nat) (t_pins : (Nat → Int32)) (t_ahead : (Nat → Int32)) (script_end : Int32) (script_place : Int32) (script_sign : Int32) (script_fault : Int32) (script_tape_size : Int32) (script_tape_bytes : (Nat → Int32)) : va_W := [(O_t, ob_X1 r_t_script a_t), (a_t 1, .inl (E.2.1, 6, .inl t_pins)), (a_t 2, .inl (E.2.1, 12, .inl t_ahead)), (O_script, ob_X7 r_script_tape script_end script_place script_sign script_fault), (O_script_tape, ob_X8 a_script_tape script_tape_size), (a_script_tape 0, .inl (E.2.1, 260, .inl script_tape_bytes))]
abbrev W_X1_readGroup (E : GE) (O_t : Nat) (r_t_script : Nat) (a_t : Nat → Nat) (O_script : Nat) (r_script_tape : Nat) (O_script_tape : Nat) (a_script_tape : Nat → Nat) (t_pins : (Nat → Int32)) (t_ahead : (Nat → Int32)) (script_end : Int32) (script_place : Int32) (script_sign : Int32) (script_fault : Int32) (script_tape_size : Int32) (script_tape_bytes : (Nat → Int32)) : va_W := [(O_t, ob_X1 r_t_script a_t), (a_t 1, .inl (E.2.1, 6, .inl t_pins)), (a_t 2, .inl (E.2.1, 12, .inl t_ahead)), (O_script, ob_X7 r_script_tape script_end script_place script_sign script_fault), (O_script_tape, ob_X8 a_script_tape script_tape_size), (a_script_tape 0, .inl (E.2.1, 260, .inl script_tape_bytes))]
def L_X1_readGroup_68 (rp : (Nat → Int32) → (Nat → Int32) → Int32 → Int32 → Int32 → Int32 → Int32 → (Nat → Int32) → Int32 → Option ((Nat → Int32) × (Nat → Int32) × Int32 × Int32 × Int32)) (t_ahead : (Nat → Int32)) (script_end : Int32) (script_place : Int32) (script_sign : Int32) (script_fault : Int32) (script_tape_size : Int32) (script_tape_bytes : (Nat → Int32)) (x1 : Int32) (x2 : Int32) : Nat → Int32 × (Nat → Int32) → Option ((Nat → Int32) × (Nat → Int32) × Int32 × Int32 × Int32) := lp fun go s => if (6 : Int32) ≤ s.1 then (some (s.2, t_ahead, script_place, script_sign, script_fault)) else (f_X7_isSound script_fault).bind fun u7 => if u7 = 0 then (some (s.2, t_ahead, script_place, script_sign, script_fault)) else rd s.2 6 s.1 fun v8 => rd s.2 6 s.1 fun v9 => rd t_ahead 12 ((x1 * (6 : Int32)) + s.1) fun v10 => wr s.2 6 s.1 (v8 + ((x2 - (1 : Int32)) * (v9 - v10))) fun g11 => nm (s.1 + (1 : Int32)) fun v12 => go (v12, g11)
def f_X1_readGroup (rp : (Nat → Int32) → (Nat → Int32) → Int32 → Int32 → Int32 → Int32 → Int32 → (Nat → Int32) → Int32 → Option ((Nat → Int32) × (Nat → Int32) × Int32 × Int32 × Int32)) (t_pins : (Nat → Int32)) (t_ahead : (Nat → Int32)) (script_end : Int32) (script_place : Int32) (script_sign : Int32) (script_fault : Int32) (script_tape_size : Int32) (script_tape_bytes : (Nat → Int32)) (x1 : Int32) (x2 : Int32) : Option ((Nat → Int32) × (Nat → Int32) × Int32 × Int32 × Int32) := jn (fun s1 : Unit => (f_X7_fail script_fault (5 : Int32) script_place).bind fun u2 => some (t_pins, t_ahead, script_place, script_sign, u2)) fun j9 => if x1 < 0 then (j9 ()) else if x1 < (2 : Int32) then ((f_X7_step script_end script_place script_sign script_tape_size script_tape_bytes).bind fun u3 => cpy t_pins 6 t_ahead 12 (0 : Int32) (x1 * (6 : Int32)) (6 : Int32) fun g4 => (rp t_pins g4 script_end u3.1 u3.2 script_fault script_tape_size script_tape_bytes (x1 + (1 : Int32))).bind fun u5 => (f_X7_want script_end u5.2.2.1 u5.2.2.2.1 u5.2.2.2.2 script_tape_size script_tape_bytes (41 : Int32)).bind fun u6 => L_X1_readGroup_68 rp u5.2.1 script_end u6.1 u6.2.1 u6.2.2 script_tape_size script_tape_bytes x1 x2 fu ((0 : Int32), u5.1)) else j9 ()
theorem dX1_readGroup_0 : decode cX1_readGroup 0 = .ok (.iload_n 1, 1) := by decide +kernel
theorem dX1_readGroup_1 : decode cX1_readGroup 1 = .ok (.ifCond .lt 8, 3) := by decide +kernel
theorem dX1_readGroup_4 : decode cX1_readGroup 4 = .ok (.iload_n 1, 1) := by decide +kernel
theorem dX1_readGroup_5 : decode cX1_readGroup 5 = .ok (.iconst 2, 1) := by decide +kernel
theorem dX1_readGroup_6 : decode cX1_readGroup 6 = .ok (.if_icmp .lt 19, 3) := by decide +kernel
theorem dX1_readGroup_9 : decode cX1_readGroup 9 = .ok (.aload_n 0, 1) := by decide +kernel
theorem dX1_readGroup_10 : decode cX1_readGroup 10 = .ok (.getfield 18, 3) := by decide +kernel
theorem dX1_readGroup_13 : decode cX1_readGroup 13 = .ok (.iconst 5, 1) := by decide +kernel
theorem dX1_readGroup_14 : decode cX1_readGroup 14 = .ok (.aload_n 0, 1) := by decide +kernel
theorem dX1_readGroup_15 : decode cX1_readGroup 15 = .ok (.getfield 18, 3) := by decide +kernel
theorem dX1_readGroup_18 : decode cX1_readGroup 18 = .ok (.getfield 52, 3) := by decide +kernel
theorem dX1_readGroup_21 : decode cX1_readGroup 21 = .ok (.invokevirtual 66, 3) := by decide +kernel
theorem dX1_readGroup_24 : decode cX1_readGroup 24 = .ok (.return_, 1) := by decide +kernel
theorem dX1_readGroup_25 : decode cX1_readGroup 25 = .ok (.aload_n 0, 1) := by decide +kernel
theorem dX1_readGroup_26 : decode cX1_readGroup 26 = .ok (.getfield 18, 3) := by decide +kernel
theorem dX1_readGroup_29 : decode cX1_readGroup 29 = .ok (.invokevirtual 59, 3) := by decide +kernel
theorem dX1_readGroup_32 : decode cX1_readGroup 32 = .ok (.aload_n 0, 1) := by decide +kernel
theorem dX1_readGroup_33 : decode cX1_readGroup 33 = .ok (.getfield 9, 3) := by decide +kernel
theorem dX1_readGroup_36 : decode cX1_readGroup 36 = .ok (.iconst 0, 1) := by decide +kernel
theorem dX1_readGroup_37 : decode cX1_readGroup 37 = .ok (.aload_n 0, 1) := by decide +kernel
theorem dX1_readGroup_38 : decode cX1_readGroup 38 = .ok (.getfield 15, 3) := by decide +kernel
theorem dX1_readGroup_41 : decode cX1_readGroup 41 = .ok (.iload_n 1, 1) := by decide +kernel
theorem dX1_readGroup_42 : decode cX1_readGroup 42 = .ok (.bipush 6, 2) := by decide +kernel
theorem dX1_readGroup_44 : decode cX1_readGroup 44 = .ok (.imul, 1) := by decide +kernel
theorem dX1_readGroup_45 : decode cX1_readGroup 45 = .ok (.bipush 6, 2) := by decide +kernel
theorem dX1_readGroup_47 : decode cX1_readGroup 47 = .ok (.invokestatic 73, 3) := by decide +kernel
theorem dX1_readGroup_50 : decode cX1_readGroup 50 = .ok (.aload_n 0, 1) := by decide +kernel
theorem dX1_readGroup_51 : decode cX1_readGroup 51 = .ok (.iload_n 1, 1) := by decide +kernel
theorem dX1_readGroup_52 : decode cX1_readGroup 52 = .ok (.iconst 1, 1) := by decide +kernel
theorem dX1_readGroup_53 : decode cX1_readGroup 53 = .ok (.iadd, 1) := by decide +kernel
theorem dX1_readGroup_54 : decode cX1_readGroup 54 = .ok (.invokevirtual 28, 3) := by decide +kernel
theorem dX1_readGroup_57 : decode cX1_readGroup 57 = .ok (.aload_n 0, 1) := by decide +kernel
theorem dX1_readGroup_58 : decode cX1_readGroup 58 = .ok (.getfield 18, 3) := by decide +kernel
theorem dX1_readGroup_61 : decode cX1_readGroup 61 = .ok (.bipush 41, 2) := by decide +kernel
theorem dX1_readGroup_63 : decode cX1_readGroup 63 = .ok (.invokevirtual 79, 3) := by decide +kernel
theorem dX1_readGroup_66 : decode cX1_readGroup 66 = .ok (.iconst 0, 1) := by decide +kernel
theorem dX1_readGroup_67 : decode cX1_readGroup 67 = .ok (.istore_n 3, 1) := by decide +kernel
theorem dX1_readGroup_68 : decode cX1_readGroup 68 = .ok (.iload_n 3, 1) := by decide +kernel
theorem dX1_readGroup_69 : decode cX1_readGroup 69 = .ok (.bipush 6, 2) := by decide +kernel
theorem dX1_readGroup_71 : decode cX1_readGroup 71 = .ok (.if_icmp .ge 50, 3) := by decide +kernel
theorem dX1_readGroup_74 : decode cX1_readGroup 74 = .ok (.aload_n 0, 1) := by decide +kernel
theorem dX1_readGroup_75 : decode cX1_readGroup 75 = .ok (.getfield 18, 3) := by decide +kernel
theorem dX1_readGroup_78 : decode cX1_readGroup 78 = .ok (.invokevirtual 32, 3) := by decide +kernel
theorem dX1_readGroup_81 : decode cX1_readGroup 81 = .ok (.ifCond .eq 40, 3) := by decide +kernel
theorem dX1_readGroup_84 : decode cX1_readGroup 84 = .ok (.aload_n 0, 1) := by decide +kernel
theorem dX1_readGroup_85 : decode cX1_readGroup 85 = .ok (.getfield 9, 3) := by decide +kernel
theorem dX1_readGroup_88 : decode cX1_readGroup 88 = .ok (.iload_n 3, 1) := by decide +kernel
theorem dX1_readGroup_89 : decode cX1_readGroup 89 = .ok (.dup2, 1) := by decide +kernel
theorem dX1_readGroup_90 : decode cX1_readGroup 90 = .ok (.iaload, 1) := by decide +kernel
theorem dX1_readGroup_91 : decode cX1_readGroup 91 = .ok (.iload_n 2, 1) := by decide +kernel
theorem dX1_readGroup_92 : decode cX1_readGroup 92 = .ok (.iconst 1, 1) := by decide +kernel
theorem dX1_readGroup_93 : decode cX1_readGroup 93 = .ok (.isub, 1) := by decide +kernel
theorem dX1_readGroup_94 : decode cX1_readGroup 94 = .ok (.aload_n 0, 1) := by decide +kernel
theorem dX1_readGroup_95 : decode cX1_readGroup 95 = .ok (.getfield 9, 3) := by decide +kernel
theorem dX1_readGroup_98 : decode cX1_readGroup 98 = .ok (.iload_n 3, 1) := by decide +kernel
theorem dX1_readGroup_99 : decode cX1_readGroup 99 = .ok (.iaload, 1) := by decide +kernel
theorem dX1_readGroup_100 : decode cX1_readGroup 100 = .ok (.aload_n 0, 1) := by decide +kernel
theorem dX1_readGroup_101 : decode cX1_readGroup 101 = .ok (.getfield 15, 3) := by decide +kernel
theorem dX1_readGroup_104 : decode cX1_readGroup 104 = .ok (.iload_n 1, 1) := by decide +kernel
theorem dX1_readGroup_105 : decode cX1_readGroup 105 = .ok (.bipush 6, 2) := by decide +kernel
theorem dX1_readGroup_107 : decode cX1_readGroup 107 = .ok (.imul, 1) := by decide +kernel
theorem dX1_readGroup_108 : decode cX1_readGroup 108 = .ok (.iload_n 3, 1) := by decide +kernel
theorem dX1_readGroup_109 : decode cX1_readGroup 109 = .ok (.iadd, 1) := by decide +kernel
theorem dX1_readGroup_110 : decode cX1_readGroup 110 = .ok (.iaload, 1) := by decide +kernel
theorem dX1_readGroup_111 : decode cX1_readGroup 111 = .ok (.isub, 1) := by decide +kernel
theorem dX1_readGroup_112 : decode cX1_readGroup 112 = .ok (.imul, 1) := by decide +kernel
theorem dX1_readGroup_113 : decode cX1_readGroup 113 = .ok (.iadd, 1) := by decide +kernel
theorem dX1_readGroup_114 : decode cX1_readGroup 114 = .ok (.iastore, 1) := by decide +kernel
theorem dX1_readGroup_115 : decode cX1_readGroup 115 = .ok (.iinc 3 1, 3) := by decide +kernel
theorem dX1_readGroup_118 : decode cX1_readGroup 118 = .ok (.goto (-50), 3) := by decide +kernel
theorem dX1_readGroup_121 : decode cX1_readGroup 121 = .ok (.return_, 1) := by decide +kernel
set_option maxHeartbeats 4000000 in
set_option maxRecDepth 100000 in
theorem kL_X1_readGroup_68 {X : GC} {E : GE} (q : Nat) (hq : 20 ≤ q) (rp : (Nat → Int32) → (Nat → Int32) → Int32 → Int32 → Int32 → Int32 → Int32 → (Nat → Int32) → Int32 → Option ((Nat → Int32) × (Nat → Int32) × Int32 × Int32 × Int32)) (hrp : ∀ (o_t : Nat) (r_t_script : Nat) (a_t : Nat → Nat) (r_script_tape : Nat) (a_script_tape : Nat → Nat) (t_pins : (Nat → Int32)) (t_ahead : (Nat → Int32)) (script_end : Int32) (script_place : Int32) (script_sign : Int32) (script_fault : Int32) (script_tape_size : Int32) (script_tape_bytes : (Nat → Int32)) (x1 : Int32) (r : (Nat → Int32) × (Nat → Int32) × Int32 × Int32 × Int32), rp t_pins t_ahead script_end script_place script_sign script_fault script_tape_size script_tape_bytes x1 = some r → Cn X.2.1 E yX1_readPins cX1_readPins 3 none q 0 0 [.ref o_t, .int x1] (W_X1_readPins E o_t r_t_script a_t r_t_script r_script_tape r_script_tape a_script_tape t_pins t_ahead script_end script_place script_sign script_fault script_tape_size script_tape_bytes) (fun w => w = (W_X1_readPins E o_t r_t_script a_t r_t_script r_script_tape r_script_tape a_script_tape r.1 r.2.1 script_end r.2.2.1 r.2.2.2.1 r.2.2.2.2 script_tape_size script_tape_bytes)) none) (C : Cx X E cX1_readGroup RX1 (q + 1) 4) (o_t : Nat) (r_t_script : Nat) (a_t : Nat → Nat) (r_script_tape : Nat) (a_script_tape : Nat → Nat) (t_ahead : (Nat → Int32)) (script_end : Int32) (script_place : Int32) (script_sign : Int32) (script_fault : Int32) (script_tape_size : Int32) (script_tape_bytes : (Nat → Int32)) (x1 : Int32) (x2 : Int32) {r : (Nat → Int32) × (Nat → Int32) × Int32 × Int32 × Int32} (hret : RtV X E cX1_readGroup 0 0 (fun w => w = (W_X1_readGroup E o_t r_t_script a_t r_t_script r_script_tape r_script_tape a_script_tape r.1 r.2.1 script_end r.2.2.1 r.2.2.2.1 r.2.2.2.2 script_tape_size script_tape_bytes))) : ∀ (n : Nat) (s : Int32 × (Nat → Int32)), L_X1_readGroup_68 rp t_ahead script_end script_place script_sign script_fault script_tape_size script_tape_bytes x1 x2 n s = some r → Gx X E 0 0 (W_X1_readGroup E o_t r_t_script a_t r_t_script r_script_tape r_script_tape a_script_tape s.2 t_ahead script_end script_place script_sign script_fault script_tape_size script_tape_bytes) 68 [(0, .ref o_t), (1, .int x1), (2, .int x2), (3, .int s.1)] [] := by
  unfold L_X1_readGroup_68
  refine lp_ind _ (fun go ih s h => ?_)
  refine g_iload_n (pc := 68) C dX1_readGroup_68 rfl 3 rfl ?_
  refine g_bipush (pc := 69) (v := 6) C dX1_readGroup_69 (by decide) ?_
  refine g_icmp_ge (pc := 71) (tgt := 121) C dX1_readGroup_71 (by decide) h (fun h => ?_) (fun h => ?_)
  · cases h
    exact hret _ _ _ dX1_readGroup_121 rfl
  · refine g_aload_n (pc := 74) C dX1_readGroup_74 rfl 0 rfl ?_
    refine g_get (pc := 75) C fl_X1_18 dX1_readGroup_75 0 rfl rfl ?_
    obtain ⟨u7, hu7, h⟩ := bs h
    refine g_callV (pc := 78) (st := []) (st1 := [.int u7]) (ws' := (W_X1_readGroup E o_t r_t_script a_t r_t_script r_script_tape r_script_tape a_script_tape s.2 t_ahead script_end script_place script_sign script_fault script_tape_size script_tape_bytes)) C mv_X7_isSound mi_X7_isSound ml_X1_32 (c_X7_isSound X.2.1 E r_t_script r_script_tape script_end script_place script_sign script_fault u7 hu7) dX1_readGroup_78 ⟨by omega, by decide⟩ rfl (Nat.le_of_ble_eq_true rfl) 3 6 rfl rfl [3] rfl (by decide) rfl rfl rfl rfl ?_
    refine g_if_eq (pc := 81) (tgt := 121) C dX1_readGroup_81 (by decide) h (fun h => ?_) (fun h => ?_)
    · cases h
      exact hret _ _ _ dX1_readGroup_121 rfl
    · refine g_aload_n (pc := 84) C dX1_readGroup_84 rfl 0 rfl ?_
      refine g_get (pc := 85) C fl_X1_9 dX1_readGroup_85 0 rfl rfl ?_
      refine g_iload_n (pc := 88) C dX1_readGroup_88 rfl 3 rfl ?_
      refine g_dup2 (pc := 89) C dX1_readGroup_89 rfl rfl ?_
      refine g_iald (pc := 90) C dX1_readGroup_90 1 rfl h (fun v8 h => ?_)
      refine g_iload_n (pc := 91) C dX1_readGroup_91 rfl 2 rfl ?_
      refine g_iconst (pc := 92) (v := 1) C dX1_readGroup_92 (by decide) ?_
      refine g_isub (pc := 93) C dX1_readGroup_93 ?_
      refine g_aload_n (pc := 94) C dX1_readGroup_94 rfl 0 rfl ?_
      refine g_get (pc := 95) C fl_X1_9 dX1_readGroup_95 0 rfl rfl ?_
      refine g_iload_n (pc := 98) C dX1_readGroup_98 rfl 3 rfl ?_
      refine g_iald (pc := 99) C dX1_readGroup_99 1 rfl h (fun v9 h => ?_)
      refine g_aload_n (pc := 100) C dX1_readGroup_100 rfl 0 rfl ?_
      refine g_get (pc := 101) C fl_X1_15 dX1_readGroup_101 0 rfl rfl ?_
      refine g_iload_n (pc := 104) C dX1_readGroup_104 rfl 1 rfl ?_
      refine g_bipush (pc := 105) (v := 6) C dX1_readGroup_105 (by decide) ?_
      refine g_imul (pc := 107) C dX1_readGroup_107 ?_
      refine g_iload_n (pc := 108) C dX1_readGroup_108 rfl 3 rfl ?_
      refine g_iadd (pc := 109) C dX1_readGroup_109 ?_
      refine g_iald (pc := 110) C dX1_readGroup_110 2 rfl h (fun v10 h => ?_)
      refine g_isub (pc := 111) C dX1_readGroup_111 ?_
      refine g_imul (pc := 112) C dX1_readGroup_112 ?_
      refine g_iadd (pc := 113) C dX1_readGroup_113 ?_
      refine g_iast (pc := 114) C dX1_readGroup_114 1 rfl h (fun g11 h => ?_)
      refine g_ws (ws' := (W_X1_readGroup E o_t r_t_script a_t r_t_script r_script_tape r_script_tape a_script_tape g11 t_ahead script_end script_place script_sign script_fault script_tape_size script_tape_bytes)) rfl ?_
      refine g_iincn (pc := 115) (j := 3) (d := 1) (lv' := fun v12 => [(3, .int v12), (0, .ref o_t), (1, .int x1), (2, .int x2)]) C dX1_readGroup_115 rfl (by decide) (by decide) (fun _ => rfl) h (fun v12 h => ?_)
      refine g_goto (pc := 118) (tgt := 68) C dX1_readGroup_118 (by decide) ?_
      refine g_sub [1, 2, 3, 0] rfl ?_
      exact ih _ h
set_option maxHeartbeats 4000000 in
set_option maxRecDepth 100000 in
theorem c_X1_readGroup (l : Launch) (E : GE) (q : Nat) (hq : 20 ≤ q) (rp : (Nat → Int32) → (Nat → Int32) → Int32 → Int32 → Int32 → Int32 → Int32 → (Nat → Int32) → Int32 → Option ((Nat → Int32) × (Nat → Int32) × Int32 × Int32 × Int32)) (hrp : ∀ (o_t : Nat) (r_t_script : Nat) (a_t : Nat → Nat) (r_script_tape : Nat) (a_script_tape : Nat → Nat) (t_pins : (Nat → Int32)) (t_ahead : (Nat → Int32)) (script_end : Int32) (script_place : Int32) (script_sign : Int32) (script_fault : Int32) (script_tape_size : Int32) (script_tape_bytes : (Nat → Int32)) (x1 : Int32) (r : (Nat → Int32) × (Nat → Int32) × Int32 × Int32 × Int32), rp t_pins t_ahead script_end script_place script_sign script_fault script_tape_size script_tape_bytes x1 = some r → Cn l E yX1_readPins cX1_readPins 3 none q 0 0 [.ref o_t, .int x1] (W_X1_readPins E o_t r_t_script a_t r_t_script r_script_tape r_script_tape a_script_tape t_pins t_ahead script_end script_place script_sign script_fault script_tape_size script_tape_bytes) (fun w => w = (W_X1_readPins E o_t r_t_script a_t r_t_script r_script_tape r_script_tape a_script_tape r.1 r.2.1 script_end r.2.2.1 r.2.2.2.1 r.2.2.2.2 script_tape_size script_tape_bytes)) none) (o_t : Nat) (r_t_script : Nat) (a_t : Nat → Nat) (r_script_tape : Nat) (a_script_tape : Nat → Nat) (t_pins : (Nat → Int32)) (t_ahead : (Nat → Int32)) (script_end : Int32) (script_place : Int32) (script_sign : Int32) (script_fault : Int32) (script_tape_size : Int32) (script_tape_bytes : (Nat → Int32)) (x1 : Int32) (x2 : Int32) (r : (Nat → Int32) × (Nat → Int32) × Int32 × Int32 × Int32) (h : f_X1_readGroup rp t_pins t_ahead script_end script_place script_sign script_fault script_tape_size script_tape_bytes x1 x2 = some r) : Cn l E yX1_readGroup cX1_readGroup 4 none (q + 1) 0 0 [.ref o_t, .int x1, .int x2] (W_X1_readGroup E o_t r_t_script a_t r_t_script r_script_tape r_script_tape a_script_tape t_pins t_ahead script_end script_place script_sign script_fault script_tape_size script_tape_bytes) (fun w => w = (W_X1_readGroup E o_t r_t_script a_t r_t_script r_script_tape r_script_tape a_script_tape r.1 r.2.1 script_end r.2.2.1 r.2.2.2.1 r.2.2.2.2 script_tape_size script_tape_bytes)) none := by
  refine Cn.ofV (by decide +kernel) (Nat.le_of_ble_eq_true rfl) (fun X hX hR C hret => ?_)
  subst hX
  show Gx X E 0 0 (W_X1_readGroup E o_t r_t_script a_t r_t_script r_script_tape r_script_tape a_script_tape t_pins t_ahead script_end script_place script_sign script_fault script_tape_size script_tape_bytes) 0 [(0, .ref o_t), (1, .int x1), (2, .int x2)] []
  unfold f_X1_readGroup at h
  refine g_iload_n (pc := 0) C dX1_readGroup_0 rfl 1 rfl ?_
  refine g_jn (fun s1 : Unit => Gx X E 0 0 (W_X1_readGroup E o_t r_t_script a_t r_t_script r_script_tape r_script_tape a_script_tape t_pins t_ahead script_end script_place script_sign script_fault script_tape_size script_tape_bytes) 9 [(0, .ref o_t)] []) h (fun s1 h => ?_) (fun j9 hj9 h => ?_)
  · refine g_aload_n (pc := 9) C dX1_readGroup_9 rfl 0 rfl ?_
    refine g_get (pc := 10) C fl_X1_18 dX1_readGroup_10 0 rfl rfl ?_
    refine g_iconst (pc := 13) (v := 5) C dX1_readGroup_13 (by decide) ?_
    refine g_aload_n (pc := 14) C dX1_readGroup_14 rfl 0 rfl ?_
    refine g_get (pc := 15) C fl_X1_18 dX1_readGroup_15 0 rfl rfl ?_
    refine g_get (pc := 18) C fl_X1_52 dX1_readGroup_18 3 rfl rfl ?_
    obtain ⟨u2, hu2, h⟩ := bs h
    refine g_callV (pc := 21) (st := []) (st1 := []) (ws' := (W_X1_readGroup E o_t r_t_script a_t r_t_script r_script_tape r_script_tape a_script_tape t_pins t_ahead script_end script_place script_sign u2 script_tape_size script_tape_bytes)) C mv_X7_fail mi_X7_fail ml_X1_66 (c_X7_fail X.2.1 E r_t_script r_script_tape script_end script_place script_sign script_fault (5 : Int32) script_place u2 hu2) dX1_readGroup_21 ⟨by omega, by decide⟩ rfl (Nat.le_of_ble_eq_true rfl) 3 6 rfl rfl [3] rfl (by decide) rfl rfl rfl rfl ?_
    cases h
    exact hret _ _ _ dX1_readGroup_24 rfl
  refine g_if_lt (pc := 1) (tgt := 9) C dX1_readGroup_1 (by decide) h (fun h => ?_) (fun h => ?_)
  · refine g_sub [0] rfl ?_
    exact hj9 _ h
  · refine g_iload_n (pc := 4) C dX1_readGroup_4 rfl 1 rfl ?_
    refine g_iconst (pc := 5) (v := 2) C dX1_readGroup_5 (by decide) ?_
    refine g_icmp_lt (pc := 6) (tgt := 25) C dX1_readGroup_6 (by decide) h (fun h => ?_) (fun h => ?_)
    · refine g_aload_n (pc := 25) C dX1_readGroup_25 rfl 0 rfl ?_
      refine g_get (pc := 26) C fl_X1_18 dX1_readGroup_26 0 rfl rfl ?_
      obtain ⟨u3, hu3, h⟩ := bs h
      refine g_callV (pc := 29) (st := []) (st1 := []) (ws' := (W_X1_readGroup E o_t r_t_script a_t r_t_script r_script_tape r_script_tape a_script_tape t_pins t_ahead script_end u3.1 u3.2 script_fault script_tape_size script_tape_bytes)) C mv_X7_step mi_X7_step ml_X1_59 (c_X7_step X.2.1 E r_t_script r_script_tape a_script_tape script_end script_place script_sign script_fault script_tape_size script_tape_bytes u3 hu3) dX1_readGroup_29 ⟨by omega, by decide⟩ rfl (Nat.le_of_ble_eq_true rfl) 3 6 rfl rfl [3, 4, 5] rfl (by decide) rfl rfl rfl rfl ?_
      refine g_aload_n (pc := 32) C dX1_readGroup_32 rfl 0 rfl ?_
      refine g_get (pc := 33) C fl_X1_9 dX1_readGroup_33 0 rfl rfl ?_
      refine g_iconst (pc := 36) (v := 0) C dX1_readGroup_36 (by decide) ?_
      refine g_aload_n (pc := 37) C dX1_readGroup_37 rfl 0 rfl ?_
      refine g_get (pc := 38) C fl_X1_15 dX1_readGroup_38 0 rfl rfl ?_
      refine g_iload_n (pc := 41) C dX1_readGroup_41 rfl 1 rfl ?_
      refine g_bipush (pc := 42) (v := 6) C dX1_readGroup_42 (by decide) ?_
      refine g_imul (pc := 44) C dX1_readGroup_44 ?_
      refine g_bipush (pc := 45) (v := 6) C dX1_readGroup_45 (by decide) ?_
      refine g_copy (pc := 47) C ml_X1_73 mnat_copy ms_copy mini_System (Nat.le_of_ble_eq_true rfl) dX1_readGroup_47 1 2 rfl rfl h (fun g4 h => ?_)
      refine g_ws (ws' := (W_X1_readGroup E o_t r_t_script a_t r_t_script r_script_tape r_script_tape a_script_tape t_pins g4 script_end u3.1 u3.2 script_fault script_tape_size script_tape_bytes)) rfl ?_
      refine g_aload_n (pc := 50) C dX1_readGroup_50 rfl 0 rfl ?_
      refine g_iload_n (pc := 51) C dX1_readGroup_51 rfl 1 rfl ?_
      refine g_iconst (pc := 52) (v := 1) C dX1_readGroup_52 (by decide) ?_
      refine g_iadd (pc := 53) C dX1_readGroup_53 ?_
      obtain ⟨u5, hu5, h⟩ := bs h
      refine g_callV (pc := 54) (st := []) (st1 := []) (ws' := (W_X1_readGroup E o_t r_t_script a_t r_t_script r_script_tape r_script_tape a_script_tape u5.1 u5.2.1 script_end u5.2.2.1 u5.2.2.2.1 u5.2.2.2.2 script_tape_size script_tape_bytes)) C mv_X1_readPins mi_X1_readPins ml_X1_28 (hrp o_t r_t_script a_t r_script_tape a_script_tape t_pins g4 script_end u3.1 u3.2 script_fault script_tape_size script_tape_bytes (x1 + (1 : Int32)) u5 hu5) dX1_readGroup_54 ⟨by omega, by decide⟩ rfl (Nat.le_of_ble_eq_true rfl) 0 1 rfl rfl [0, 1, 2, 3, 4, 5] rfl (by decide) rfl rfl rfl rfl ?_
      refine g_aload_n (pc := 57) C dX1_readGroup_57 rfl 0 rfl ?_
      refine g_get (pc := 58) C fl_X1_18 dX1_readGroup_58 0 rfl rfl ?_
      refine g_bipush (pc := 61) (v := 41) C dX1_readGroup_61 (by decide) ?_
      obtain ⟨u6, hu6, h⟩ := bs h
      refine g_callV (pc := 63) (st := []) (st1 := []) (ws' := (W_X1_readGroup E o_t r_t_script a_t r_t_script r_script_tape r_script_tape a_script_tape u5.1 u5.2.1 script_end u6.1 u6.2.1 u6.2.2 script_tape_size script_tape_bytes)) C mv_X7_want mi_X7_want ml_X1_79 (c_X7_want X.2.1 E r_t_script r_script_tape a_script_tape script_end u5.2.2.1 u5.2.2.2.1 u5.2.2.2.2 script_tape_size script_tape_bytes (41 : Int32) u6 hu6) dX1_readGroup_63 ⟨by omega, by decide⟩ rfl (Nat.le_of_ble_eq_true rfl) 3 6 rfl rfl [3, 4, 5] rfl (by decide) rfl rfl rfl rfl ?_
      refine g_iconst (pc := 66) (v := 0) C dX1_readGroup_66 (by decide) ?_
      refine g_istore_n (pc := 67) (lv' := [(3, .int (0 : Int32)), (0, .ref o_t), (1, .int x1), (2, .int x2)]) C dX1_readGroup_67 rfl (by decide) rfl ?_
      refine g_sub [1, 2, 3, 0] rfl ?_
      refine kL_X1_readGroup_68 q hq rp hrp C o_t r_t_script a_t r_script_tape a_script_tape u5.2.1 script_end u6.1 u6.2.1 u6.2.2 script_tape_size script_tape_bytes x1 x2 hret  _ _ h
    · refine g_sub [0] rfl ?_
      exact hj9 _ h
abbrev W_X1_readItem (E : GE) (O_t : Nat) (r_t_script : Nat) (a_t : Nat → Nat) (O_script : Nat) (r_script_tape : Nat) (O_script_tape : Nat) (a_script_tape : Nat → Nat) (t_pins : (Nat → Int32)) (t_ahead : (Nat → Int32)) (script_end : Int32) (script_place : Int32) (script_sign : Int32) (script_fault : Int32) (script_tape_size : Int32) (script_tape_bytes : (Nat → Int32)) : va_W := [(O_t, ob_X1 r_t_script a_t), (a_t 1, .inl (E.2.1, 6, .inl t_pins)), (a_t 2, .inl (E.2.1, 12, .inl t_ahead)), (O_script, ob_X7 r_script_tape script_end script_place script_sign script_fault), (O_script_tape, ob_X8 a_script_tape script_tape_size), (a_script_tape 0, .inl (E.2.1, 260, .inl script_tape_bytes))]
def f_X1_readItem (rp : (Nat → Int32) → (Nat → Int32) → Int32 → Int32 → Int32 → Int32 → Int32 → (Nat → Int32) → Int32 → Option ((Nat → Int32) × (Nat → Int32) × Int32 × Int32 × Int32)) (t_pins : (Nat → Int32)) (t_ahead : (Nat → Int32)) (script_end : Int32) (script_place : Int32) (script_sign : Int32) (script_fault : Int32) (script_tape_size : Int32) (script_tape_bytes : (Nat → Int32)) (x1 : Int32) : Option ((Nat → Int32) × (Nat → Int32) × Int32 × Int32 × Int32) := (f_X11_isWithin script_sign (50 : Int32) (57 : Int32)).bind fun u1 => jn (fun s2 : Int32 × Int32 × Int32 => (f_X11_isWithin s2.2.2 (97 : Int32) (102 : Int32)).bind fun u3 => jn (fun s4 : (Nat → Int32) × (Nat → Int32) × Int32 × Int32 × Int32 => (f_X1_pinsSoFar s4.1).bind fun u5 => if u5 ≤ (60 : Int32) then (some (s4.1, s4.2.1, s4.2.2.1, s4.2.2.2.1, s4.2.2.2.2)) else (f_X7_fail s4.2.2.2.2 (6 : Int32) script_place).bind fun u6 => some (s4.1, s4.2.1, s4.2.2.1, s4.2.2.2.1, u6)) fun j127 => if u3 = 0 then (if s2.2.2 = (40 : Int32) then ((f_X1_readGroup rp t_pins t_ahead script_end s2.2.1 s2.2.2 script_fault script_tape_size script_tape_bytes x1 s2.1).bind fun u8 => j127 (u8.1, u8.2.1, u8.2.2.1, u8.2.2.2.1, u8.2.2.2.2)) else (f_X7_fail script_fault (1 : Int32) s2.2.1).bind fun u7 => j127 (t_pins, t_ahead, s2.2.1, s2.2.2, u7)) else nm (s2.2.2 - (97 : Int32)) fun v9 => rd t_pins 6 v9 fun v10 => wr t_pins 6 v9 (v10 + s2.1) fun g11 => (f_X7_step script_end s2.2.1 s2.2.2 script_tape_size script_tape_bytes).bind fun u12 => j127 (g11, t_ahead, u12.1, u12.2, script_fault)) fun j45 => if u1 = 0 then (j45 ((1 : Int32), script_place, script_sign)) else nm (script_sign - (48 : Int32)) fun v13 => (f_X7_step script_end script_place script_sign script_tape_size script_tape_bytes).bind fun u14 => j45 (v13, u14.1, u14.2)
theorem dX1_readItem_0 : decode cX1_readItem 0 = .ok (.aload_n 0, 1) := by decide +kernel
theorem dX1_readItem_1 : decode cX1_readItem 1 = .ok (.getfield 18, 3) := by decide +kernel
theorem dX1_readItem_4 : decode cX1_readItem 4 = .ok (.getfield 52, 3) := by decide +kernel
theorem dX1_readItem_7 : decode cX1_readItem 7 = .ok (.istore_n 2, 1) := by decide +kernel
theorem dX1_readItem_8 : decode cX1_readItem 8 = .ok (.iconst 1, 1) := by decide +kernel
theorem dX1_readItem_9 : decode cX1_readItem 9 = .ok (.istore_n 3, 1) := by decide +kernel
theorem dX1_readItem_10 : decode cX1_readItem 10 = .ok (.aload_n 0, 1) := by decide +kernel
theorem dX1_readItem_11 : decode cX1_readItem 11 = .ok (.getfield 18, 3) := by decide +kernel
theorem dX1_readItem_14 : decode cX1_readItem 14 = .ok (.getfield 48, 3) := by decide +kernel
theorem dX1_readItem_17 : decode cX1_readItem 17 = .ok (.bipush 50, 2) := by decide +kernel
theorem dX1_readItem_19 : decode cX1_readItem 19 = .ok (.bipush 57, 2) := by decide +kernel
theorem dX1_readItem_21 : decode cX1_readItem 21 = .ok (.invokestatic 55, 3) := by decide +kernel
theorem dX1_readItem_24 : decode cX1_readItem 24 = .ok (.ifCond .eq 21, 3) := by decide +kernel
theorem dX1_readItem_27 : decode cX1_readItem 27 = .ok (.aload_n 0, 1) := by decide +kernel
theorem dX1_readItem_28 : decode cX1_readItem 28 = .ok (.getfield 18, 3) := by decide +kernel
theorem dX1_readItem_31 : decode cX1_readItem 31 = .ok (.getfield 48, 3) := by decide +kernel
theorem dX1_readItem_34 : decode cX1_readItem 34 = .ok (.bipush 48, 2) := by decide +kernel
theorem dX1_readItem_36 : decode cX1_readItem 36 = .ok (.isub, 1) := by decide +kernel
theorem dX1_readItem_37 : decode cX1_readItem 37 = .ok (.istore_n 3, 1) := by decide +kernel
theorem dX1_readItem_38 : decode cX1_readItem 38 = .ok (.aload_n 0, 1) := by decide +kernel
theorem dX1_readItem_39 : decode cX1_readItem 39 = .ok (.getfield 18, 3) := by decide +kernel
theorem dX1_readItem_42 : decode cX1_readItem 42 = .ok (.invokevirtual 59, 3) := by decide +kernel
theorem dX1_readItem_45 : decode cX1_readItem 45 = .ok (.aload_n 0, 1) := by decide +kernel
theorem dX1_readItem_46 : decode cX1_readItem 46 = .ok (.getfield 18, 3) := by decide +kernel
theorem dX1_readItem_49 : decode cX1_readItem 49 = .ok (.getfield 48, 3) := by decide +kernel
theorem dX1_readItem_52 : decode cX1_readItem 52 = .ok (.bipush 97, 2) := by decide +kernel
theorem dX1_readItem_54 : decode cX1_readItem 54 = .ok (.bipush 102, 2) := by decide +kernel
theorem dX1_readItem_56 : decode cX1_readItem 56 = .ok (.invokestatic 55, 3) := by decide +kernel
theorem dX1_readItem_59 : decode cX1_readItem 59 = .ok (.ifCond .eq 32, 3) := by decide +kernel
theorem dX1_readItem_62 : decode cX1_readItem 62 = .ok (.aload_n 0, 1) := by decide +kernel
theorem dX1_readItem_63 : decode cX1_readItem 63 = .ok (.getfield 9, 3) := by decide +kernel
theorem dX1_readItem_66 : decode cX1_readItem 66 = .ok (.aload_n 0, 1) := by decide +kernel
theorem dX1_readItem_67 : decode cX1_readItem 67 = .ok (.getfield 18, 3) := by decide +kernel
theorem dX1_readItem_70 : decode cX1_readItem 70 = .ok (.getfield 48, 3) := by decide +kernel
theorem dX1_readItem_73 : decode cX1_readItem 73 = .ok (.bipush 97, 2) := by decide +kernel
theorem dX1_readItem_75 : decode cX1_readItem 75 = .ok (.isub, 1) := by decide +kernel
theorem dX1_readItem_76 : decode cX1_readItem 76 = .ok (.dup2, 1) := by decide +kernel
theorem dX1_readItem_77 : decode cX1_readItem 77 = .ok (.iaload, 1) := by decide +kernel
theorem dX1_readItem_78 : decode cX1_readItem 78 = .ok (.iload_n 3, 1) := by decide +kernel
theorem dX1_readItem_79 : decode cX1_readItem 79 = .ok (.iadd, 1) := by decide +kernel
theorem dX1_readItem_80 : decode cX1_readItem 80 = .ok (.iastore, 1) := by decide +kernel
theorem dX1_readItem_81 : decode cX1_readItem 81 = .ok (.aload_n 0, 1) := by decide +kernel
theorem dX1_readItem_82 : decode cX1_readItem 82 = .ok (.getfield 18, 3) := by decide +kernel
theorem dX1_readItem_85 : decode cX1_readItem 85 = .ok (.invokevirtual 59, 3) := by decide +kernel
theorem dX1_readItem_88 : decode cX1_readItem 88 = .ok (.goto 39, 3) := by decide +kernel
theorem dX1_readItem_91 : decode cX1_readItem 91 = .ok (.aload_n 0, 1) := by decide +kernel
theorem dX1_readItem_92 : decode cX1_readItem 92 = .ok (.getfield 18, 3) := by decide +kernel
theorem dX1_readItem_95 : decode cX1_readItem 95 = .ok (.getfield 48, 3) := by decide +kernel
theorem dX1_readItem_98 : decode cX1_readItem 98 = .ok (.bipush 40, 2) := by decide +kernel
theorem dX1_readItem_100 : decode cX1_readItem 100 = .ok (.if_icmp .ne 12, 3) := by decide +kernel
theorem dX1_readItem_103 : decode cX1_readItem 103 = .ok (.aload_n 0, 1) := by decide +kernel
theorem dX1_readItem_104 : decode cX1_readItem 104 = .ok (.iload_n 1, 1) := by decide +kernel
theorem dX1_readItem_105 : decode cX1_readItem 105 = .ok (.iload_n 3, 1) := by decide +kernel
theorem dX1_readItem_106 : decode cX1_readItem 106 = .ok (.invokevirtual 62, 3) := by decide +kernel
theorem dX1_readItem_109 : decode cX1_readItem 109 = .ok (.goto 18, 3) := by decide +kernel
theorem dX1_readItem_112 : decode cX1_readItem 112 = .ok (.aload_n 0, 1) := by decide +kernel
theorem dX1_readItem_113 : decode cX1_readItem 113 = .ok (.getfield 18, 3) := by decide +kernel
theorem dX1_readItem_116 : decode cX1_readItem 116 = .ok (.iconst 1, 1) := by decide +kernel
theorem dX1_readItem_117 : decode cX1_readItem 117 = .ok (.aload_n 0, 1) := by decide +kernel
theorem dX1_readItem_118 : decode cX1_readItem 118 = .ok (.getfield 18, 3) := by decide +kernel
theorem dX1_readItem_121 : decode cX1_readItem 121 = .ok (.getfield 52, 3) := by decide +kernel
theorem dX1_readItem_124 : decode cX1_readItem 124 = .ok (.invokevirtual 66, 3) := by decide +kernel
theorem dX1_readItem_127 : decode cX1_readItem 127 = .ok (.aload_n 0, 1) := by decide +kernel
theorem dX1_readItem_128 : decode cX1_readItem 128 = .ok (.invokevirtual 69, 3) := by decide +kernel
theorem dX1_readItem_131 : decode cX1_readItem 131 = .ok (.bipush 60, 2) := by decide +kernel
theorem dX1_readItem_133 : decode cX1_readItem 133 = .ok (.if_icmp .le 13, 3) := by decide +kernel
theorem dX1_readItem_136 : decode cX1_readItem 136 = .ok (.aload_n 0, 1) := by decide +kernel
theorem dX1_readItem_137 : decode cX1_readItem 137 = .ok (.getfield 18, 3) := by decide +kernel
theorem dX1_readItem_140 : decode cX1_readItem 140 = .ok (.bipush 6, 2) := by decide +kernel
theorem dX1_readItem_142 : decode cX1_readItem 142 = .ok (.iload_n 2, 1) := by decide +kernel
theorem dX1_readItem_143 : decode cX1_readItem 143 = .ok (.invokevirtual 66, 3) := by decide +kernel
theorem dX1_readItem_146 : decode cX1_readItem 146 = .ok (.return_, 1) := by decide +kernel
set_option maxHeartbeats 4000000 in
set_option maxRecDepth 100000 in
theorem c_X1_readItem (l : Launch) (E : GE) (q : Nat) (hq : 20 ≤ q) (rp : (Nat → Int32) → (Nat → Int32) → Int32 → Int32 → Int32 → Int32 → Int32 → (Nat → Int32) → Int32 → Option ((Nat → Int32) × (Nat → Int32) × Int32 × Int32 × Int32)) (hrp : ∀ (o_t : Nat) (r_t_script : Nat) (a_t : Nat → Nat) (r_script_tape : Nat) (a_script_tape : Nat → Nat) (t_pins : (Nat → Int32)) (t_ahead : (Nat → Int32)) (script_end : Int32) (script_place : Int32) (script_sign : Int32) (script_fault : Int32) (script_tape_size : Int32) (script_tape_bytes : (Nat → Int32)) (x1 : Int32) (r : (Nat → Int32) × (Nat → Int32) × Int32 × Int32 × Int32), rp t_pins t_ahead script_end script_place script_sign script_fault script_tape_size script_tape_bytes x1 = some r → Cn l E yX1_readPins cX1_readPins 3 none q 0 0 [.ref o_t, .int x1] (W_X1_readPins E o_t r_t_script a_t r_t_script r_script_tape r_script_tape a_script_tape t_pins t_ahead script_end script_place script_sign script_fault script_tape_size script_tape_bytes) (fun w => w = (W_X1_readPins E o_t r_t_script a_t r_t_script r_script_tape r_script_tape a_script_tape r.1 r.2.1 script_end r.2.2.1 r.2.2.2.1 r.2.2.2.2 script_tape_size script_tape_bytes)) none) (o_t : Nat) (r_t_script : Nat) (a_t : Nat → Nat) (r_script_tape : Nat) (a_script_tape : Nat → Nat) (t_pins : (Nat → Int32)) (t_ahead : (Nat → Int32)) (script_end : Int32) (script_place : Int32) (script_sign : Int32) (script_fault : Int32) (script_tape_size : Int32) (script_tape_bytes : (Nat → Int32)) (x1 : Int32) (r : (Nat → Int32) × (Nat → Int32) × Int32 × Int32 × Int32) (h : f_X1_readItem rp t_pins t_ahead script_end script_place script_sign script_fault script_tape_size script_tape_bytes x1 = some r) : Cn l E yX1_readItem cX1_readItem 4 none (q + 2) 0 0 [.ref o_t, .int x1] (W_X1_readItem E o_t r_t_script a_t r_t_script r_script_tape r_script_tape a_script_tape t_pins t_ahead script_end script_place script_sign script_fault script_tape_size script_tape_bytes) (fun w => w = (W_X1_readItem E o_t r_t_script a_t r_t_script r_script_tape r_script_tape a_script_tape r.1 r.2.1 script_end r.2.2.1 r.2.2.2.1 r.2.2.2.2 script_tape_size script_tape_bytes)) none := by
  refine Cn.ofV (by decide +kernel) (Nat.le_of_ble_eq_true rfl) (fun X hX hR C hret => ?_)
  subst hX
  show Gx X E 0 0 (W_X1_readItem E o_t r_t_script a_t r_t_script r_script_tape r_script_tape a_script_tape t_pins t_ahead script_end script_place script_sign script_fault script_tape_size script_tape_bytes) 0 [(0, .ref o_t), (1, .int x1)] []
  unfold f_X1_readItem at h
  refine g_aload_n (pc := 0) C dX1_readItem_0 rfl 0 rfl ?_
  refine g_get (pc := 1) C fl_X1_18 dX1_readItem_1 0 rfl rfl ?_
  refine g_get (pc := 4) C fl_X1_52 dX1_readItem_4 3 rfl rfl ?_
  refine g_istore_n (pc := 7) (lv' := [(2, .int script_place), (0, .ref o_t), (1, .int x1)]) C dX1_readItem_7 rfl (by decide) rfl ?_
  refine g_iconst (pc := 8) (v := 1) C dX1_readItem_8 (by decide) ?_
  refine g_istore_n (pc := 9) (lv' := [(3, .int (1 : Int32)), (2, .int script_place), (0, .ref o_t), (1, .int x1)]) C dX1_readItem_9 rfl (by decide) rfl ?_
  refine g_aload_n (pc := 10) C dX1_readItem_10 rfl 2 rfl ?_
  refine g_get (pc := 11) C fl_X1_18 dX1_readItem_11 0 rfl rfl ?_
  refine g_get (pc := 14) C fl_X1_48 dX1_readItem_14 3 rfl rfl ?_
  refine g_bipush (pc := 17) (v := 50) C dX1_readItem_17 (by decide) ?_
  refine g_bipush (pc := 19) (v := 57) C dX1_readItem_19 (by decide) ?_
  obtain ⟨u1, hu1, h⟩ := bs h
  refine g_callSN (pc := 21) (st := []) (st1 := [.int u1]) (ws' := (W_X1_readItem E o_t r_t_script a_t r_t_script r_script_tape r_script_tape a_script_tape t_pins t_ahead script_end script_place script_sign script_fault script_tape_size script_tape_bytes)) C mv_X11_isWithin ms_X11_isWithin mn_X1_55 (c_X11_isWithin X.2.1 E script_sign (50 : Int32) (57 : Int32) u1 hu1) dX1_readItem_21 ⟨by omega, by decide⟩ rfl (Nat.le_of_ble_eq_true rfl) [] rfl (by decide) rfl rfl rfl rfl ?_
  refine g_jn (fun s2 : Int32 × Int32 × Int32 => Gx X E 0 0 (W_X1_readItem E o_t r_t_script a_t r_t_script r_script_tape r_script_tape a_script_tape t_pins t_ahead script_end s2.2.1 s2.2.2 script_fault script_tape_size script_tape_bytes) 45 [(0, .ref o_t), (1, .int x1), (2, .int script_place), (3, .int s2.1)] []) h (fun s2 h => ?_) (fun j45 hj45 h => ?_)
  · refine g_aload_n (pc := 45) C dX1_readItem_45 rfl 0 rfl ?_
    refine g_get (pc := 46) C fl_X1_18 dX1_readItem_46 0 rfl rfl ?_
    refine g_get (pc := 49) C fl_X1_48 dX1_readItem_49 3 rfl rfl ?_
    refine g_bipush (pc := 52) (v := 97) C dX1_readItem_52 (by decide) ?_
    refine g_bipush (pc := 54) (v := 102) C dX1_readItem_54 (by decide) ?_
    obtain ⟨u3, hu3, h⟩ := bs h
    refine g_callSN (pc := 56) (st := []) (st1 := [.int u3]) (ws' := (W_X1_readItem E o_t r_t_script a_t r_t_script r_script_tape r_script_tape a_script_tape t_pins t_ahead script_end s2.2.1 s2.2.2 script_fault script_tape_size script_tape_bytes)) C mv_X11_isWithin ms_X11_isWithin mn_X1_55 (c_X11_isWithin X.2.1 E s2.2.2 (97 : Int32) (102 : Int32) u3 hu3) dX1_readItem_56 ⟨by omega, by decide⟩ rfl (Nat.le_of_ble_eq_true rfl) [] rfl (by decide) rfl rfl rfl rfl ?_
    refine g_jn (fun s4 : (Nat → Int32) × (Nat → Int32) × Int32 × Int32 × Int32 => Gx X E 0 0 (W_X1_readItem E o_t r_t_script a_t r_t_script r_script_tape r_script_tape a_script_tape s4.1 s4.2.1 script_end s4.2.2.1 s4.2.2.2.1 s4.2.2.2.2 script_tape_size script_tape_bytes) 127 [(0, .ref o_t), (2, .int script_place)] []) h (fun s4 h => ?_) (fun j127 hj127 h => ?_)
    · refine g_aload_n (pc := 127) C dX1_readItem_127 rfl 0 rfl ?_
      obtain ⟨u5, hu5, h⟩ := bs h
      refine g_callV (pc := 128) (st := []) (st1 := [.int u5]) (ws' := (W_X1_readItem E o_t r_t_script a_t r_t_script r_script_tape r_script_tape a_script_tape s4.1 s4.2.1 script_end s4.2.2.1 s4.2.2.2.1 s4.2.2.2.2 script_tape_size script_tape_bytes)) C mv_X1_pinsSoFar mi_X1_pinsSoFar ml_X1_69 (c_X1_pinsSoFar X.2.1 E o_t r_t_script a_t s4.1 u5 hu5) dX1_readItem_128 ⟨by omega, by decide⟩ rfl (Nat.le_of_ble_eq_true rfl) 0 1 rfl rfl [0, 1] rfl (by decide) rfl rfl rfl rfl ?_
      refine g_bipush (pc := 131) (v := 60) C dX1_readItem_131 (by decide) ?_
      refine g_icmp_le (pc := 133) (tgt := 146) C dX1_readItem_133 (by decide) h (fun h => ?_) (fun h => ?_)
      · cases h
        exact hret _ _ _ dX1_readItem_146 rfl
      · refine g_aload_n (pc := 136) C dX1_readItem_136 rfl 0 rfl ?_
        refine g_get (pc := 137) C fl_X1_18 dX1_readItem_137 0 rfl rfl ?_
        refine g_bipush (pc := 140) (v := 6) C dX1_readItem_140 (by decide) ?_
        refine g_iload_n (pc := 142) C dX1_readItem_142 rfl 1 rfl ?_
        obtain ⟨u6, hu6, h⟩ := bs h
        refine g_callV (pc := 143) (st := []) (st1 := []) (ws' := (W_X1_readItem E o_t r_t_script a_t r_t_script r_script_tape r_script_tape a_script_tape s4.1 s4.2.1 script_end s4.2.2.1 s4.2.2.2.1 u6 script_tape_size script_tape_bytes)) C mv_X7_fail mi_X7_fail ml_X1_66 (c_X7_fail X.2.1 E r_t_script r_script_tape script_end s4.2.2.1 s4.2.2.2.1 s4.2.2.2.2 (6 : Int32) script_place u6 hu6) dX1_readItem_143 ⟨by omega, by decide⟩ rfl (Nat.le_of_ble_eq_true rfl) 3 6 rfl rfl [3] rfl (by decide) rfl rfl rfl rfl ?_
        cases h
        exact hret _ _ _ dX1_readItem_146 rfl
    refine g_if_eq (pc := 59) (tgt := 91) C dX1_readItem_59 (by decide) h (fun h => ?_) (fun h => ?_)
    · refine g_aload_n (pc := 91) C dX1_readItem_91 rfl 0 rfl ?_
      refine g_get (pc := 92) C fl_X1_18 dX1_readItem_92 0 rfl rfl ?_
      refine g_get (pc := 95) C fl_X1_48 dX1_readItem_95 3 rfl rfl ?_
      refine g_bipush (pc := 98) (v := 40) C dX1_readItem_98 (by decide) ?_
      refine g_icmp_ne (pc := 100) (tgt := 112) C dX1_readItem_100 (by decide) h (fun h => ?_) (fun h => ?_)
      · refine g_aload_n (pc := 112) C dX1_readItem_112 rfl 0 rfl ?_
        refine g_get (pc := 113) C fl_X1_18 dX1_readItem_113 0 rfl rfl ?_
        refine g_iconst (pc := 116) (v := 1) C dX1_readItem_116 (by decide) ?_
        refine g_aload_n (pc := 117) C dX1_readItem_117 rfl 0 rfl ?_
        refine g_get (pc := 118) C fl_X1_18 dX1_readItem_118 0 rfl rfl ?_
        refine g_get (pc := 121) C fl_X1_52 dX1_readItem_121 3 rfl rfl ?_
        obtain ⟨u7, hu7, h⟩ := bs h
        refine g_callV (pc := 124) (st := []) (st1 := []) (ws' := (W_X1_readItem E o_t r_t_script a_t r_t_script r_script_tape r_script_tape a_script_tape t_pins t_ahead script_end s2.2.1 s2.2.2 u7 script_tape_size script_tape_bytes)) C mv_X7_fail mi_X7_fail ml_X1_66 (c_X7_fail X.2.1 E r_t_script r_script_tape script_end s2.2.1 s2.2.2 script_fault (1 : Int32) s2.2.1 u7 hu7) dX1_readItem_124 ⟨by omega, by decide⟩ rfl (Nat.le_of_ble_eq_true rfl) 3 6 rfl rfl [3] rfl (by decide) rfl rfl rfl rfl ?_
        refine g_sub [0, 2] rfl ?_
        exact hj127 _ h
      · refine g_aload_n (pc := 103) C dX1_readItem_103 rfl 0 rfl ?_
        refine g_iload_n (pc := 104) C dX1_readItem_104 rfl 1 rfl ?_
        refine g_iload_n (pc := 105) C dX1_readItem_105 rfl 3 rfl ?_
        obtain ⟨u8, hu8, h⟩ := bs h
        refine g_callV (pc := 106) (st := []) (st1 := []) (ws' := (W_X1_readItem E o_t r_t_script a_t r_t_script r_script_tape r_script_tape a_script_tape u8.1 u8.2.1 script_end u8.2.2.1 u8.2.2.2.1 u8.2.2.2.2 script_tape_size script_tape_bytes)) C mv_X1_readGroup mi_X1_readGroup ml_X1_62 (c_X1_readGroup X.2.1 E q hq rp hrp o_t r_t_script a_t r_script_tape a_script_tape t_pins t_ahead script_end s2.2.1 s2.2.2 script_fault script_tape_size script_tape_bytes x1 s2.1 u8 hu8) dX1_readItem_106 ⟨by omega, by decide⟩ rfl (Nat.le_of_ble_eq_true rfl) 0 1 rfl rfl [0, 1, 2, 3, 4, 5] rfl (by decide) rfl rfl rfl rfl ?_
        refine g_goto (pc := 109) (tgt := 127) C dX1_readItem_109 (by decide) ?_
        refine g_sub [0, 2] rfl ?_
        exact hj127 _ h
    · refine g_aload_n (pc := 62) C dX1_readItem_62 rfl 0 rfl ?_
      refine g_get (pc := 63) C fl_X1_9 dX1_readItem_63 0 rfl rfl ?_
      refine g_aload_n (pc := 66) C dX1_readItem_66 rfl 0 rfl ?_
      refine g_get (pc := 67) C fl_X1_18 dX1_readItem_67 0 rfl rfl ?_
      refine g_get (pc := 70) C fl_X1_48 dX1_readItem_70 3 rfl rfl ?_
      refine g_bipush (pc := 73) (v := 97) C dX1_readItem_73 (by decide) ?_
      refine g_isub (pc := 75) C dX1_readItem_75 ?_
      refine g_nm h (fun v9 h => ?_)
      refine g_dup2 (pc := 76) C dX1_readItem_76 rfl rfl ?_
      refine g_iald (pc := 77) C dX1_readItem_77 1 rfl h (fun v10 h => ?_)
      refine g_iload_n (pc := 78) C dX1_readItem_78 rfl 3 rfl ?_
      refine g_iadd (pc := 79) C dX1_readItem_79 ?_
      refine g_iast (pc := 80) C dX1_readItem_80 1 rfl h (fun g11 h => ?_)
      refine g_ws (ws' := (W_X1_readItem E o_t r_t_script a_t r_t_script r_script_tape r_script_tape a_script_tape g11 t_ahead script_end s2.2.1 s2.2.2 script_fault script_tape_size script_tape_bytes)) rfl ?_
      refine g_aload_n (pc := 81) C dX1_readItem_81 rfl 0 rfl ?_
      refine g_get (pc := 82) C fl_X1_18 dX1_readItem_82 0 rfl rfl ?_
      obtain ⟨u12, hu12, h⟩ := bs h
      refine g_callV (pc := 85) (st := []) (st1 := []) (ws' := (W_X1_readItem E o_t r_t_script a_t r_t_script r_script_tape r_script_tape a_script_tape g11 t_ahead script_end u12.1 u12.2 script_fault script_tape_size script_tape_bytes)) C mv_X7_step mi_X7_step ml_X1_59 (c_X7_step X.2.1 E r_t_script r_script_tape a_script_tape script_end s2.2.1 s2.2.2 script_fault script_tape_size script_tape_bytes u12 hu12) dX1_readItem_85 ⟨by omega, by decide⟩ rfl (Nat.le_of_ble_eq_true rfl) 3 6 rfl rfl [3, 4, 5] rfl (by decide) rfl rfl rfl rfl ?_
      refine g_goto (pc := 88) (tgt := 127) C dX1_readItem_88 (by decide) ?_
      refine g_sub [0, 2] rfl ?_
      exact hj127 _ h
  refine g_if_eq (pc := 24) (tgt := 45) C dX1_readItem_24 (by decide) h (fun h => ?_) (fun h => ?_)
  · refine g_sub [2, 3, 1, 0] rfl ?_
    exact hj45 _ h
  · refine g_aload_n (pc := 27) C dX1_readItem_27 rfl 2 rfl ?_
    refine g_get (pc := 28) C fl_X1_18 dX1_readItem_28 0 rfl rfl ?_
    refine g_get (pc := 31) C fl_X1_48 dX1_readItem_31 3 rfl rfl ?_
    refine g_bipush (pc := 34) (v := 48) C dX1_readItem_34 (by decide) ?_
    refine g_isub (pc := 36) C dX1_readItem_36 ?_
    refine g_nm h (fun v13 h => ?_)
    refine g_istore_n (pc := 37) (lv' := [(3, .int v13), (2, .int script_place), (0, .ref o_t), (1, .int x1)]) C dX1_readItem_37 rfl (by decide) rfl ?_
    refine g_aload_n (pc := 38) C dX1_readItem_38 rfl 2 rfl ?_
    refine g_get (pc := 39) C fl_X1_18 dX1_readItem_39 0 rfl rfl ?_
    obtain ⟨u14, hu14, h⟩ := bs h
    refine g_callV (pc := 42) (st := []) (st1 := []) (ws' := (W_X1_readItem E o_t r_t_script a_t r_t_script r_script_tape r_script_tape a_script_tape t_pins t_ahead script_end u14.1 u14.2 script_fault script_tape_size script_tape_bytes)) C mv_X7_step mi_X7_step ml_X1_59 (c_X7_step X.2.1 E r_t_script r_script_tape a_script_tape script_end script_place script_sign script_fault script_tape_size script_tape_bytes u14 hu14) dX1_readItem_42 ⟨by omega, by decide⟩ rfl (Nat.le_of_ble_eq_true rfl) 3 6 rfl rfl [3, 4, 5] rfl (by decide) rfl rfl rfl rfl ?_
    refine g_sub [2, 3, 1, 0] rfl ?_
    exact hj45 _ h
def L_X1_readPins_2 (rp : (Nat → Int32) → (Nat → Int32) → Int32 → Int32 → Int32 → Int32 → Int32 → (Nat → Int32) → Int32 → Option ((Nat → Int32) × (Nat → Int32) × Int32 × Int32 × Int32)) (script_end : Int32) (script_tape_size : Int32) (script_tape_bytes : (Nat → Int32)) (x1 : Int32) : Nat → Int32 × (Nat → Int32) × (Nat → Int32) × Int32 × Int32 × Int32 → Option ((Nat → Int32) × (Nat → Int32) × Int32 × Int32 × Int32) := lp fun go s => if (60 : Int32) < s.1 then (some (s.2.1, s.2.2.1, s.2.2.2.1, s.2.2.2.2.1, s.2.2.2.2.2)) else (f_X7_isSound s.2.2.2.2.2).bind fun u1 => if u1 = 0 then (some (s.2.1, s.2.2.1, s.2.2.2.1, s.2.2.2.2.1, s.2.2.2.2.2)) else jn (fun s2 : Unit => (f_X1_readItem rp s.2.1 s.2.2.1 script_end s.2.2.2.1 s.2.2.2.2.1 s.2.2.2.2.2 script_tape_size script_tape_bytes x1).bind fun u3 => nm (s.1 + (1 : Int32)) fun v4 => go (v4, u3.1, u3.2.1, u3.2.2.1, u3.2.2.2.1, u3.2.2.2.2)) fun j31 => if s.1 ≤ 0 then (j31 ()) else (f_X1_endsHere script_end s.2.2.2.1 s.2.2.2.2.1 x1).bind fun u5 => if u5 = 0 then (j31 ()) else some (s.2.1, s.2.2.1, s.2.2.2.1, s.2.2.2.2.1, s.2.2.2.2.2)
def F_X1_readPins (rp : (Nat → Int32) → (Nat → Int32) → Int32 → Int32 → Int32 → Int32 → Int32 → (Nat → Int32) → Int32 → Option ((Nat → Int32) × (Nat → Int32) × Int32 × Int32 × Int32)) (t_pins : (Nat → Int32)) (t_ahead : (Nat → Int32)) (script_end : Int32) (script_place : Int32) (script_sign : Int32) (script_fault : Int32) (script_tape_size : Int32) (script_tape_bytes : (Nat → Int32)) (x1 : Int32) : Option ((Nat → Int32) × (Nat → Int32) × Int32 × Int32 × Int32) := L_X1_readPins_2 rp script_end script_tape_size script_tape_bytes x1 fu ((0 : Int32), t_pins, t_ahead, script_place, script_sign, script_fault)
theorem dX1_readPins_0 : decode cX1_readPins 0 = .ok (.iconst 0, 1) := by decide +kernel
theorem dX1_readPins_1 : decode cX1_readPins 1 = .ok (.istore_n 2, 1) := by decide +kernel
theorem dX1_readPins_2 : decode cX1_readPins 2 = .ok (.iload_n 2, 1) := by decide +kernel
theorem dX1_readPins_3 : decode cX1_readPins 3 = .ok (.bipush 60, 2) := by decide +kernel
theorem dX1_readPins_5 : decode cX1_readPins 5 = .ok (.if_icmp .gt 37, 3) := by decide +kernel
theorem dX1_readPins_8 : decode cX1_readPins 8 = .ok (.aload_n 0, 1) := by decide +kernel
theorem dX1_readPins_9 : decode cX1_readPins 9 = .ok (.getfield 18, 3) := by decide +kernel
theorem dX1_readPins_12 : decode cX1_readPins 12 = .ok (.invokevirtual 32, 3) := by decide +kernel
theorem dX1_readPins_15 : decode cX1_readPins 15 = .ok (.ifCond .eq 27, 3) := by decide +kernel
theorem dX1_readPins_18 : decode cX1_readPins 18 = .ok (.iload_n 2, 1) := by decide +kernel
theorem dX1_readPins_19 : decode cX1_readPins 19 = .ok (.ifCond .le 12, 3) := by decide +kernel
theorem dX1_readPins_22 : decode cX1_readPins 22 = .ok (.aload_n 0, 1) := by decide +kernel
theorem dX1_readPins_23 : decode cX1_readPins 23 = .ok (.iload_n 1, 1) := by decide +kernel
theorem dX1_readPins_24 : decode cX1_readPins 24 = .ok (.invokevirtual 38, 3) := by decide +kernel
theorem dX1_readPins_27 : decode cX1_readPins 27 = .ok (.ifCond .eq 4, 3) := by decide +kernel
theorem dX1_readPins_30 : decode cX1_readPins 30 = .ok (.return_, 1) := by decide +kernel
theorem dX1_readPins_31 : decode cX1_readPins 31 = .ok (.aload_n 0, 1) := by decide +kernel
theorem dX1_readPins_32 : decode cX1_readPins 32 = .ok (.iload_n 1, 1) := by decide +kernel
theorem dX1_readPins_33 : decode cX1_readPins 33 = .ok (.invokevirtual 42, 3) := by decide +kernel
theorem dX1_readPins_36 : decode cX1_readPins 36 = .ok (.iinc 2 1, 3) := by decide +kernel
theorem dX1_readPins_39 : decode cX1_readPins 39 = .ok (.goto (-37), 3) := by decide +kernel
theorem dX1_readPins_42 : decode cX1_readPins 42 = .ok (.return_, 1) := by decide +kernel
set_option maxHeartbeats 4000000 in
set_option maxRecDepth 100000 in
theorem kL_X1_readPins_2 {X : GC} {E : GE} (q : Nat) (hq : 20 ≤ q) (rp : (Nat → Int32) → (Nat → Int32) → Int32 → Int32 → Int32 → Int32 → Int32 → (Nat → Int32) → Int32 → Option ((Nat → Int32) × (Nat → Int32) × Int32 × Int32 × Int32)) (hrp : ∀ (o_t : Nat) (r_t_script : Nat) (a_t : Nat → Nat) (r_script_tape : Nat) (a_script_tape : Nat → Nat) (t_pins : (Nat → Int32)) (t_ahead : (Nat → Int32)) (script_end : Int32) (script_place : Int32) (script_sign : Int32) (script_fault : Int32) (script_tape_size : Int32) (script_tape_bytes : (Nat → Int32)) (x1 : Int32) (r : (Nat → Int32) × (Nat → Int32) × Int32 × Int32 × Int32), rp t_pins t_ahead script_end script_place script_sign script_fault script_tape_size script_tape_bytes x1 = some r → Cn X.2.1 E yX1_readPins cX1_readPins 3 none q 0 0 [.ref o_t, .int x1] (W_X1_readPins E o_t r_t_script a_t r_t_script r_script_tape r_script_tape a_script_tape t_pins t_ahead script_end script_place script_sign script_fault script_tape_size script_tape_bytes) (fun w => w = (W_X1_readPins E o_t r_t_script a_t r_t_script r_script_tape r_script_tape a_script_tape r.1 r.2.1 script_end r.2.2.1 r.2.2.2.1 r.2.2.2.2 script_tape_size script_tape_bytes)) none) (C : Cx X E cX1_readPins RX1 (q + 3) 3) (o_t : Nat) (r_t_script : Nat) (a_t : Nat → Nat) (r_script_tape : Nat) (a_script_tape : Nat → Nat) (script_end : Int32) (script_tape_size : Int32) (script_tape_bytes : (Nat → Int32)) (x1 : Int32) {r : (Nat → Int32) × (Nat → Int32) × Int32 × Int32 × Int32} (hret : RtV X E cX1_readPins 0 0 (fun w => w = (W_X1_readPins E o_t r_t_script a_t r_t_script r_script_tape r_script_tape a_script_tape r.1 r.2.1 script_end r.2.2.1 r.2.2.2.1 r.2.2.2.2 script_tape_size script_tape_bytes))) : ∀ (n : Nat) (s : Int32 × (Nat → Int32) × (Nat → Int32) × Int32 × Int32 × Int32), L_X1_readPins_2 rp script_end script_tape_size script_tape_bytes x1 n s = some r → Gx X E 0 0 (W_X1_readPins E o_t r_t_script a_t r_t_script r_script_tape r_script_tape a_script_tape s.2.1 s.2.2.1 script_end s.2.2.2.1 s.2.2.2.2.1 s.2.2.2.2.2 script_tape_size script_tape_bytes) 2 [(0, .ref o_t), (1, .int x1), (2, .int s.1)] [] := by
  unfold L_X1_readPins_2
  refine lp_ind _ (fun go ih s h => ?_)
  refine g_iload_n (pc := 2) C dX1_readPins_2 rfl 2 rfl ?_
  refine g_bipush (pc := 3) (v := 60) C dX1_readPins_3 (by decide) ?_
  refine g_icmp_gt (pc := 5) (tgt := 42) C dX1_readPins_5 (by decide) h (fun h => ?_) (fun h => ?_)
  · cases h
    exact hret _ _ _ dX1_readPins_42 rfl
  · refine g_aload_n (pc := 8) C dX1_readPins_8 rfl 0 rfl ?_
    refine g_get (pc := 9) C fl_X1_18 dX1_readPins_9 0 rfl rfl ?_
    obtain ⟨u1, hu1, h⟩ := bs h
    refine g_callV (pc := 12) (st := []) (st1 := [.int u1]) (ws' := (W_X1_readPins E o_t r_t_script a_t r_t_script r_script_tape r_script_tape a_script_tape s.2.1 s.2.2.1 script_end s.2.2.2.1 s.2.2.2.2.1 s.2.2.2.2.2 script_tape_size script_tape_bytes)) C mv_X7_isSound mi_X7_isSound ml_X1_32 (c_X7_isSound X.2.1 E r_t_script r_script_tape script_end s.2.2.2.1 s.2.2.2.2.1 s.2.2.2.2.2 u1 hu1) dX1_readPins_12 ⟨by omega, by decide⟩ rfl (Nat.le_of_ble_eq_true rfl) 3 6 rfl rfl [3] rfl (by decide) rfl rfl rfl rfl ?_
    refine g_if_eq (pc := 15) (tgt := 42) C dX1_readPins_15 (by decide) h (fun h => ?_) (fun h => ?_)
    · cases h
      exact hret _ _ _ dX1_readPins_42 rfl
    · refine g_iload_n (pc := 18) C dX1_readPins_18 rfl 2 rfl ?_
      refine g_jn (fun s2 : Unit => Gx X E 0 0 (W_X1_readPins E o_t r_t_script a_t r_t_script r_script_tape r_script_tape a_script_tape s.2.1 s.2.2.1 script_end s.2.2.2.1 s.2.2.2.2.1 s.2.2.2.2.2 script_tape_size script_tape_bytes) 31 [(0, .ref o_t), (1, .int x1), (2, .int s.1)] []) h (fun s2 h => ?_) (fun j31 hj31 h => ?_)
      · refine g_aload_n (pc := 31) C dX1_readPins_31 rfl 0 rfl ?_
        refine g_iload_n (pc := 32) C dX1_readPins_32 rfl 1 rfl ?_
        obtain ⟨u3, hu3, h⟩ := bs h
        refine g_callV (pc := 33) (st := []) (st1 := []) (ws' := (W_X1_readPins E o_t r_t_script a_t r_t_script r_script_tape r_script_tape a_script_tape u3.1 u3.2.1 script_end u3.2.2.1 u3.2.2.2.1 u3.2.2.2.2 script_tape_size script_tape_bytes)) C mv_X1_readItem mi_X1_readItem ml_X1_42 (c_X1_readItem X.2.1 E q hq rp hrp o_t r_t_script a_t r_script_tape a_script_tape s.2.1 s.2.2.1 script_end s.2.2.2.1 s.2.2.2.2.1 s.2.2.2.2.2 script_tape_size script_tape_bytes x1 u3 hu3) dX1_readPins_33 ⟨by omega, by decide⟩ rfl (Nat.le_of_ble_eq_true rfl) 0 1 rfl rfl [0, 1, 2, 3, 4, 5] rfl (by decide) rfl rfl rfl rfl ?_
        refine g_iincn (pc := 36) (j := 2) (d := 1) (lv' := fun v4 => [(2, .int v4), (0, .ref o_t), (1, .int x1)]) C dX1_readPins_36 rfl (by decide) (by decide) (fun _ => rfl) h (fun v4 h => ?_)
        refine g_goto (pc := 39) (tgt := 2) C dX1_readPins_39 (by decide) ?_
        refine g_sub [1, 2, 0] rfl ?_
        exact ih _ h
      refine g_if_le (pc := 19) (tgt := 31) C dX1_readPins_19 (by decide) h (fun h => ?_) (fun h => ?_)
      · exact hj31 _ h
      · refine g_aload_n (pc := 22) C dX1_readPins_22 rfl 0 rfl ?_
        refine g_iload_n (pc := 23) C dX1_readPins_23 rfl 1 rfl ?_
        obtain ⟨u5, hu5, h⟩ := bs h
        refine g_callV (pc := 24) (st := []) (st1 := [.int u5]) (ws' := (W_X1_readPins E o_t r_t_script a_t r_t_script r_script_tape r_script_tape a_script_tape s.2.1 s.2.2.1 script_end s.2.2.2.1 s.2.2.2.2.1 s.2.2.2.2.2 script_tape_size script_tape_bytes)) C mv_X1_endsHere mi_X1_endsHere ml_X1_38 (c_X1_endsHere X.2.1 E o_t r_t_script a_t r_script_tape script_end s.2.2.2.1 s.2.2.2.2.1 s.2.2.2.2.2 x1 u5 hu5) dX1_readPins_24 ⟨by omega, by decide⟩ rfl (Nat.le_of_ble_eq_true rfl) 0 1 rfl rfl [0, 3] rfl (by decide) rfl rfl rfl rfl ?_
        refine g_if_eq (pc := 27) (tgt := 31) C dX1_readPins_27 (by decide) h (fun h => ?_) (fun h => ?_)
        · exact hj31 _ h
        · cases h
          exact hret _ _ _ dX1_readPins_30 rfl
set_option maxHeartbeats 4000000 in
set_option maxRecDepth 100000 in
theorem C_X1_readPins (l : Launch) (E : GE) (q : Nat) (hq : 20 ≤ q) (rp : (Nat → Int32) → (Nat → Int32) → Int32 → Int32 → Int32 → Int32 → Int32 → (Nat → Int32) → Int32 → Option ((Nat → Int32) × (Nat → Int32) × Int32 × Int32 × Int32)) (hrp : ∀ (o_t : Nat) (r_t_script : Nat) (a_t : Nat → Nat) (r_script_tape : Nat) (a_script_tape : Nat → Nat) (t_pins : (Nat → Int32)) (t_ahead : (Nat → Int32)) (script_end : Int32) (script_place : Int32) (script_sign : Int32) (script_fault : Int32) (script_tape_size : Int32) (script_tape_bytes : (Nat → Int32)) (x1 : Int32) (r : (Nat → Int32) × (Nat → Int32) × Int32 × Int32 × Int32), rp t_pins t_ahead script_end script_place script_sign script_fault script_tape_size script_tape_bytes x1 = some r → Cn l E yX1_readPins cX1_readPins 3 none q 0 0 [.ref o_t, .int x1] (W_X1_readPins E o_t r_t_script a_t r_t_script r_script_tape r_script_tape a_script_tape t_pins t_ahead script_end script_place script_sign script_fault script_tape_size script_tape_bytes) (fun w => w = (W_X1_readPins E o_t r_t_script a_t r_t_script r_script_tape r_script_tape a_script_tape r.1 r.2.1 script_end r.2.2.1 r.2.2.2.1 r.2.2.2.2 script_tape_size script_tape_bytes)) none) (o_t : Nat) (r_t_script : Nat) (a_t : Nat → Nat) (r_script_tape : Nat) (a_script_tape : Nat → Nat) (t_pins : (Nat → Int32)) (t_ahead : (Nat → Int32)) (script_end : Int32) (script_place : Int32) (script_sign : Int32) (script_fault : Int32) (script_tape_size : Int32) (script_tape_bytes : (Nat → Int32)) (x1 : Int32) (r : (Nat → Int32) × (Nat → Int32) × Int32 × Int32 × Int32) (h : F_X1_readPins rp t_pins t_ahead script_end script_place script_sign script_fault script_tape_size script_tape_bytes x1 = some r) : Cn l E yX1_readPins cX1_readPins 3 none (q + 3) 0 0 [.ref o_t, .int x1] (W_X1_readPins E o_t r_t_script a_t r_t_script r_script_tape r_script_tape a_script_tape t_pins t_ahead script_end script_place script_sign script_fault script_tape_size script_tape_bytes) (fun w => w = (W_X1_readPins E o_t r_t_script a_t r_t_script r_script_tape r_script_tape a_script_tape r.1 r.2.1 script_end r.2.2.1 r.2.2.2.1 r.2.2.2.2 script_tape_size script_tape_bytes)) none := by
  refine Cn.ofV (by decide +kernel) (Nat.le_of_ble_eq_true rfl) (fun X hX hR C hret => ?_)
  subst hX
  show Gx X E 0 0 (W_X1_readPins E o_t r_t_script a_t r_t_script r_script_tape r_script_tape a_script_tape t_pins t_ahead script_end script_place script_sign script_fault script_tape_size script_tape_bytes) 0 [(0, .ref o_t), (1, .int x1)] []
  unfold F_X1_readPins at h
  refine g_iconst (pc := 0) (v := 0) C dX1_readPins_0 (by decide) ?_
  refine g_istore_n (pc := 1) (lv' := [(2, .int (0 : Int32)), (0, .ref o_t), (1, .int x1)]) C dX1_readPins_1 rfl (by decide) rfl ?_
  refine g_sub [1, 2, 0] rfl ?_
  refine kL_X1_readPins_2 q hq rp hrp C o_t r_t_script a_t r_script_tape a_script_tape script_end script_tape_size script_tape_bytes x1 hret  _ _ h
def f_X1_readPins : Nat → (Nat → Int32) → (Nat → Int32) → Int32 → Int32 → Int32 → Int32 → Int32 → (Nat → Int32) → Int32 → Option ((Nat → Int32) × (Nat → Int32) × Int32 × Int32 × Int32)
  | 0 => fun _ _ _ _ _ _ _ _ _ => none
  | d + 1 => F_X1_readPins (f_X1_readPins d)
theorem c_X1_readPins (l : Launch) (E : GE) : ∀ d : Nat, ∀ (o_t : Nat) (r_t_script : Nat) (a_t : Nat → Nat) (r_script_tape : Nat) (a_script_tape : Nat → Nat) (t_pins : (Nat → Int32)) (t_ahead : (Nat → Int32)) (script_end : Int32) (script_place : Int32) (script_sign : Int32) (script_fault : Int32) (script_tape_size : Int32) (script_tape_bytes : (Nat → Int32)) (x1 : Int32) (r : (Nat → Int32) × (Nat → Int32) × Int32 × Int32 × Int32), f_X1_readPins d t_pins t_ahead script_end script_place script_sign script_fault script_tape_size script_tape_bytes x1 = some r → Cn l E yX1_readPins cX1_readPins 3 none (rkH d) 0 0 [.ref o_t, .int x1] (W_X1_readPins E o_t r_t_script a_t r_t_script r_script_tape r_script_tape a_script_tape t_pins t_ahead script_end script_place script_sign script_fault script_tape_size script_tape_bytes) (fun w => w = (W_X1_readPins E o_t r_t_script a_t r_t_script r_script_tape r_script_tape a_script_tape r.1 r.2.1 script_end r.2.2.1 r.2.2.2.1 r.2.2.2.2 script_tape_size script_tape_bytes)) none := by
  intro d
  induction d with
  | zero => intro _ _ _ _ _ _ _ _ _ _ _ _ _ _ r h; cases h
  | succ d ih => exact C_X1_readPins l E (rkH d) (rkH_ge d) (f_X1_readPins d) ih
abbrev W_X1_read (E : GE) (O_t : Nat) (r_t_script : Nat) (a_t : Nat → Nat) (O_script : Nat) (r_script_tape : Nat) (O_script_tape : Nat) (a_script_tape : Nat → Nat) (t_pins : (Nat → Int32)) (t_ahead : (Nat → Int32)) (script_end : Int32) (script_place : Int32) (script_sign : Int32) (script_fault : Int32) (script_tape_size : Int32) (script_tape_bytes : (Nat → Int32)) : va_W := [(O_t, ob_X1 r_t_script a_t), (a_t 1, .inl (E.2.1, 6, .inl t_pins)), (a_t 2, .inl (E.2.1, 12, .inl t_ahead)), (O_script, ob_X7 r_script_tape script_end script_place script_sign script_fault), (O_script_tape, ob_X8 a_script_tape script_tape_size), (a_script_tape 0, .inl (E.2.1, 260, .inl script_tape_bytes))]
def f_X1_read (t_pins : (Nat → Int32)) (t_ahead : (Nat → Int32)) (script_end : Int32) (script_place : Int32) (script_sign : Int32) (script_fault : Int32) (script_tape_size : Int32) (script_tape_bytes : (Nat → Int32)) : Option ((Nat → Int32) × (Nat → Int32) × Int32 × Int32 × Int32) := (f_J7_fill_53178 6 t_pins (0 : Int32)).bind fun u1 => (f_X1_readPins 4 u1 t_ahead script_end script_place script_sign script_fault script_tape_size script_tape_bytes (0 : Int32)).bind fun u2 => some (u2.1, u2.2.1, u2.2.2.1, u2.2.2.2.1, u2.2.2.2.2)
theorem dX1_read_0 : decode cX1_read 0 = .ok (.aload_n 0, 1) := by decide +kernel
theorem dX1_read_1 : decode cX1_read 1 = .ok (.getfield 9, 3) := by decide +kernel
theorem dX1_read_4 : decode cX1_read 4 = .ok (.iconst 0, 1) := by decide +kernel
theorem dX1_read_5 : decode cX1_read 5 = .ok (.invokestatic 22, 3) := by decide +kernel
theorem dX1_read_8 : decode cX1_read 8 = .ok (.aload_n 0, 1) := by decide +kernel
theorem dX1_read_9 : decode cX1_read 9 = .ok (.iconst 0, 1) := by decide +kernel
theorem dX1_read_10 : decode cX1_read 10 = .ok (.invokevirtual 28, 3) := by decide +kernel
theorem dX1_read_13 : decode cX1_read 13 = .ok (.return_, 1) := by decide +kernel
set_option maxHeartbeats 4000000 in
set_option maxRecDepth 100000 in
theorem c_X1_read (l : Launch) (E : GE) (o_t : Nat) (r_t_script : Nat) (a_t : Nat → Nat) (r_script_tape : Nat) (a_script_tape : Nat → Nat) (t_pins : (Nat → Int32)) (t_ahead : (Nat → Int32)) (script_end : Int32) (script_place : Int32) (script_sign : Int32) (script_fault : Int32) (script_tape_size : Int32) (script_tape_bytes : (Nat → Int32)) (r : (Nat → Int32) × (Nat → Int32) × Int32 × Int32 × Int32) (h : f_X1_read t_pins t_ahead script_end script_place script_sign script_fault script_tape_size script_tape_bytes = some r) : Cn l E yX1_read cX1_read 1 none 35 0 0 [.ref o_t] (W_X1_read E o_t r_t_script a_t r_t_script r_script_tape r_script_tape a_script_tape t_pins t_ahead script_end script_place script_sign script_fault script_tape_size script_tape_bytes) (fun w => w = (W_X1_read E o_t r_t_script a_t r_t_script r_script_tape r_script_tape a_script_tape r.1 r.2.1 script_end r.2.2.1 r.2.2.2.1 r.2.2.2.2 script_tape_size script_tape_bytes)) none := by
  refine Cn.ofV (by decide +kernel) (Nat.le_of_ble_eq_true rfl) (fun X hX hR C hret => ?_)
  subst hX
  show Gx X E 0 0 (W_X1_read E o_t r_t_script a_t r_t_script r_script_tape r_script_tape a_script_tape t_pins t_ahead script_end script_place script_sign script_fault script_tape_size script_tape_bytes) 0 [(0, .ref o_t)] []
  unfold f_X1_read at h
  refine g_aload_n (pc := 0) C dX1_read_0 rfl 0 rfl ?_
  refine g_get (pc := 1) C fl_X1_9 dX1_read_1 0 rfl rfl ?_
  refine g_iconst (pc := 4) (v := 0) C dX1_read_4 (by decide) ?_
  obtain ⟨u1, hu1, h⟩ := bs h
  refine g_callS (pc := 5) (st := []) (st1 := []) (ws' := (W_X1_read E o_t r_t_script a_t r_t_script r_script_tape r_script_tape a_script_tape u1 t_ahead script_end script_place script_sign script_fault script_tape_size script_tape_bytes)) C mv_J7_fill_53178 ms_J7_fill_53178 ml_X1_22 (c_J7_fill_53178 X.2.1 E (a_t 1) 6 t_pins (0 : Int32) u1 hu1) dX1_read_5 (by decide) rfl (Nat.le_of_ble_eq_true rfl) [1] rfl (by decide) rfl rfl rfl rfl ?_
  refine g_aload_n (pc := 8) C dX1_read_8 rfl 0 rfl ?_
  refine g_iconst (pc := 9) (v := 0) C dX1_read_9 (by decide) ?_
  obtain ⟨u2, hu2, h⟩ := bs h
  refine g_callV (pc := 10) (st := []) (st1 := []) (ws' := (W_X1_read E o_t r_t_script a_t r_t_script r_script_tape r_script_tape a_script_tape u2.1 u2.2.1 script_end u2.2.2.1 u2.2.2.2.1 u2.2.2.2.2 script_tape_size script_tape_bytes)) C mv_X1_readPins mi_X1_readPins ml_X1_28 (c_X1_readPins X.2.1 E 4 o_t r_t_script a_t r_script_tape a_script_tape u1 t_ahead script_end script_place script_sign script_fault script_tape_size script_tape_bytes (0 : Int32) u2 hu2) dX1_read_10 (by decide) rfl (Nat.le_of_ble_eq_true rfl) 0 1 rfl rfl [0, 1, 2, 3, 4, 5] rfl (by decide) rfl rfl rfl rfl ?_
  cases h
  exact hret _ _ _ dX1_read_13 rfl
