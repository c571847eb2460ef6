def rkH : Nat → Nat
  | 0 => 20
  | d + 1 => rkH d + 3
theorem rkH_ge : ∀ d, 20 ≤ rkH d := by
  intro d
  induction d with
  | zero => exact Nat.le_refl _
  | succ d ih => exact Nat.le_trans ih (Nat.le_add_right _ _)
abbrev W_X1_readPins (E : GE) (O_t : Nat) (r_t_script : Nat) (a_t : Nat → Nat) (O_script : Nat) (r_script_tape : Nat) (O_script_tape : Nat) (a_script_tape : Nat → Nat) (t_levels : (Nat → Int32)) (t_sums : (Nat → Int32)) (script_end : Int32) (script_place : Int32) (script_fault : Int32) (script_tape_size : Int32) (script_tape_bytes : (Nat → Int32)) : va_W := [(O_t, ob_X1 r_t_script a_t), (a_t 2, .inl (E.2.1, 18, .inl t_levels)), (a_t 3, .inl (E.2.1, 3, .inl t_sums)), (O_script, ob_X7 r_script_tape script_end script_place script_fault), (O_script_tape, ob_X8 a_script_tape script_tape_size), (a_script_tape 0, .inl (E.2.1, 260, .inl script_tape_bytes))]
abbrev W_X1_readGroup (E : GE) (O_t : Nat) (r_t_script : Nat) (a_t : Nat → Nat) (O_script : Nat) (r_script_tape : Nat) (O_script_tape : Nat) (a_script_tape : Nat → Nat) (t_levels : (Nat → Int32)) (t_sums : (Nat → Int32)) (script_end : Int32) (script_place : Int32) (script_fault : Int32) (script_tape_size : Int32) (script_tape_bytes : (Nat → Int32)) : va_W := [(O_t, ob_X1 r_t_script a_t), (a_t 2, .inl (E.2.1, 18, .inl t_levels)), (a_t 3, .inl (E.2.1, 3, .inl t_sums)), (O_script, ob_X7 r_script_tape script_end script_place script_fault), (O_script_tape, ob_X8 a_script_tape script_tape_size), (a_script_tape 0, .inl (E.2.1, 260, .inl script_tape_bytes))]
def L_X1_readGroup_52 (rp : (Nat → Int32) → (Nat → Int32) → Int32 → Int32 → Int32 → Int32 → (Nat → Int32) → Int32 → Option ((Nat → Int32) × (Nat → Int32) × Int32 × Int32)) (script_end : Int32) (script_place : Int32) (script_fault : Int32) (script_tape_size : Int32) (script_tape_bytes : (Nat → Int32)) (x1 : Int32) (x2 : Int32) : Nat → Int32 × (Nat → Int32) × (Nat → Int32) → Option ((Nat → Int32) × (Nat → Int32) × Int32 × Int32) := lp fun go s => if (6 : Int32) ≤ s.1 then (some (s.2.1, s.2.2, script_place, script_fault)) else (f_X7_isSound script_fault).bind fun u4 => if u4 = 0 then (some (s.2.1, s.2.2, script_place, script_fault)) else rd s.2.1 18 (((x1 + (1 : Int32)) * (6 : Int32)) + s.1) fun v5 => (f_X1_add s.2.1 s.2.2 x1 s.1 (x2 * v5)).bind fun u6 => nm (s.1 + (1 : Int32)) fun v7 => go (v7, u6.1, u6.2)
def f_X1_readGroup (rp : (Nat → Int32) → (Nat → Int32) → Int32 → Int32 → Int32 → Int32 → (Nat → Int32) → Int32 → Option ((Nat → Int32) × (Nat → Int32) × Int32 × Int32)) (t_levels : (Nat → Int32)) (t_sums : (Nat → Int32)) (script_end : Int32) (script_place : Int32) (script_fault : Int32) (script_tape_size : Int32) (script_tape_bytes : (Nat → Int32)) (x1 : Int32) (x2 : Int32) : Option ((Nat → Int32) × (Nat → Int32) × Int32 × Int32) := if x1 < (2 : Int32) then (nm (script_place + (1 : Int32)) fun v1 => (rp t_levels t_sums script_end v1 script_fault script_tape_size script_tape_bytes (x1 + (1 : Int32))).bind fun u2 => (f_X7_want script_end u2.2.2.1 u2.2.2.2 script_tape_size script_tape_bytes (41 : Int32)).bind fun u3 => L_X1_readGroup_52 rp script_end u3.1 u3.2 script_tape_size script_tape_bytes x1 x2 fu ((0 : Int32), u2.1, u2.2.1)) else (f_X7_fail script_fault (5 : Int32) script_place).bind fun u8 => some (t_levels, t_sums, script_place, u8)
theorem dX1_readGroup_0 : decode cX1_readGroup 0 = .ok (.iload_n 1, 1) := by decide +kernel
theorem dX1_readGroup_1 : decode cX1_readGroup 1 = .ok (.iconst 2, 1) := by decide +kernel
theorem dX1_readGroup_2 : decode cX1_readGroup 2 = .ok (.if_icmp .lt 19, 3) := by decide +kernel
theorem dX1_readGroup_5 : decode cX1_readGroup 5 = .ok (.aload_n 0, 1) := by decide +kernel
theorem dX1_readGroup_6 : decode cX1_readGroup 6 = .ok (.getfield 21, 3) := by decide +kernel
theorem dX1_readGroup_9 : decode cX1_readGroup 9 = .ok (.iconst 5, 1) := by decide +kernel
theorem dX1_readGroup_10 : decode cX1_readGroup 10 = .ok (.aload_n 0, 1) := by decide +kernel
theorem dX1_readGroup_11 : decode cX1_readGroup 11 = .ok (.getfield 21, 3) := by decide +kernel
theorem dX1_readGroup_14 : decode cX1_readGroup 14 = .ok (.getfield 61, 3) := by decide +kernel
theorem dX1_readGroup_17 : decode cX1_readGroup 17 = .ok (.invokevirtual 77, 3) := by decide +kernel
theorem dX1_readGroup_20 : decode cX1_readGroup 20 = .ok (.return_, 1) := by decide +kernel
theorem dX1_readGroup_21 : decode cX1_readGroup 21 = .ok (.aload_n 0, 1) := by decide +kernel
theorem dX1_readGroup_22 : decode cX1_readGroup 22 = .ok (.getfield 21, 3) := by decide +kernel
theorem dX1_readGroup_25 : decode cX1_readGroup 25 = .ok (.dup, 1) := by decide +kernel
theorem dX1_readGroup_26 : decode cX1_readGroup 26 = .ok (.getfield 61, 3) := by decide +kernel
theorem dX1_readGroup_29 : decode cX1_readGroup 29 = .ok (.iconst 1, 1) := by decide +kernel
theorem dX1_readGroup_30 : decode cX1_readGroup 30 = .ok (.iadd, 1) := by decide +kernel
theorem dX1_readGroup_31 : decode cX1_readGroup 31 = .ok (.putfield 61, 3) := by decide +kernel
theorem dX1_readGroup_34 : decode cX1_readGroup 34 = .ok (.aload_n 0, 1) := by decide +kernel
theorem dX1_readGroup_35 : decode cX1_readGroup 35 = .ok (.iload_n 1, 1) := by decide +kernel
theorem dX1_readGroup_36 : decode cX1_readGroup 36 = .ok (.iconst 1, 1) := by decide +kernel
theorem dX1_readGroup_37 : decode cX1_readGroup 37 = .ok (.iadd, 1) := by decide +kernel
theorem dX1_readGroup_38 : decode cX1_readGroup 38 = .ok (.invokevirtual 25, 3) := by decide +kernel
theorem dX1_readGroup_41 : decode cX1_readGroup 41 = .ok (.aload_n 0, 1) := by decide +kernel
theorem dX1_readGroup_42 : decode cX1_readGroup 42 = .ok (.getfield 21, 3) := by decide +kernel
theorem dX1_readGroup_45 : decode cX1_readGroup 45 = .ok (.bipush 41, 2) := by decide +kernel
theorem dX1_readGroup_47 : decode cX1_readGroup 47 = .ok (.invokevirtual 80, 3) := by decide +kernel
theorem dX1_readGroup_50 : decode cX1_readGroup 50 = .ok (.iconst 0, 1) := by decide +kernel
theorem dX1_readGroup_51 : decode cX1_readGroup 51 = .ok (.istore_n 3, 1) := by decide +kernel
theorem dX1_readGroup_52 : decode cX1_readGroup 52 = .ok (.iload_n 3, 1) := by decide +kernel
theorem dX1_readGroup_53 : decode cX1_readGroup 53 = .ok (.bipush 6, 2) := by decide +kernel
theorem dX1_readGroup_55 : decode cX1_readGroup 55 = .ok (.if_icmp .ge 40, 3) := by decide +kernel
theorem dX1_readGroup_58 : decode cX1_readGroup 58 = .ok (.aload_n 0, 1) := by decide +kernel
theorem dX1_readGroup_59 : decode cX1_readGroup 59 = .ok (.getfield 21, 3) := by decide +kernel
theorem dX1_readGroup_62 : decode cX1_readGroup 62 = .ok (.invokevirtual 41, 3) := by decide +kernel
theorem dX1_readGroup_65 : decode cX1_readGroup 65 = .ok (.ifCond .eq 30, 3) := by decide +kernel
theorem dX1_readGroup_68 : decode cX1_readGroup 68 = .ok (.aload_n 0, 1) := by decide +kernel
theorem dX1_readGroup_69 : decode cX1_readGroup 69 = .ok (.iload_n 1, 1) := by decide +kernel
theorem dX1_readGroup_70 : decode cX1_readGroup 70 = .ok (.iload_n 3, 1) := by decide +kernel
theorem dX1_readGroup_71 : decode cX1_readGroup 71 = .ok (.iload_n 2, 1) := by decide +kernel
theorem dX1_readGroup_72 : decode cX1_readGroup 72 = .ok (.aload_n 0, 1) := by decide +kernel
theorem dX1_readGroup_73 : decode cX1_readGroup 73 = .ok (.getfield 15, 3) := by decide +kernel
theorem dX1_readGroup_76 : decode cX1_readGroup 76 = .ok (.iload_n 1, 1) := by decide +kernel
theorem dX1_readGroup_77 : decode cX1_readGroup 77 = .ok (.iconst 1, 1) := by decide +kernel
theorem dX1_readGroup_78 : decode cX1_readGroup 78 = .ok (.iadd, 1) := by decide +kernel
theorem dX1_readGroup_79 : decode cX1_readGroup 79 = .ok (.bipush 6, 2) := by decide +kernel
theorem dX1_readGroup_81 : decode cX1_readGroup 81 = .ok (.imul, 1) := by decide +kernel
theorem dX1_readGroup_82 : decode cX1_readGroup 82 = .ok (.iload_n 3, 1) := by decide +kernel
theorem dX1_readGroup_83 : decode cX1_readGroup 83 = .ok (.iadd, 1) := by decide +kernel
theorem dX1_readGroup_84 : decode cX1_readGroup 84 = .ok (.iaload, 1) := by decide +kernel
theorem dX1_readGroup_85 : decode cX1_readGroup 85 = .ok (.imul, 1) := by decide +kernel
theorem dX1_readGroup_86 : decode cX1_readGroup 86 = .ok (.invokevirtual 69, 3) := by decide +kernel
theorem dX1_readGroup_89 : decode cX1_readGroup 89 = .ok (.iinc 3 1, 3) := by decide +kernel
theorem dX1_readGroup_92 : decode cX1_readGroup 92 = .ok (.goto (-40), 3) := by decide +kernel
theorem dX1_readGroup_95 : decode cX1_readGroup 95 = .ok (.return_, 1) := by decide +kernel
set_option maxHeartbeats 4000000 in
set_option maxRecDepth 100000 in
theorem kL_X1_readGroup_52 {X : GC} {E : GE} (q : Nat) (hq : 20 ≤ q) (rp : (Nat → Int32) → (Nat → Int32) → Int32 → Int32 → Int32 → Int32 → (Nat → Int32) → Int32 → Option ((Nat → Int32) × (Nat → Int32) × Int32 × Int32)) (hrp : ∀ (o_t : Nat) (r_t_script : Nat) (a_t : Nat → Nat) (r_script_tape : Nat) (a_script_tape : Nat → Nat) (t_levels : (Nat → Int32)) (t_sums : (Nat → Int32)) (script_end : Int32) (script_place : Int32) (script_fault : Int32) (script_tape_size : Int32) (script_tape_bytes : (Nat → Int32)) (x1 : Int32) (r : (Nat → Int32) × (Nat → Int32) × Int32 × Int32), rp t_levels t_sums script_end script_place script_fault script_tape_size script_tape_bytes x1 = some r → Cn X.2.1 E yX1_readPins cX1_readPins 3 none q 0 0 [.ref o_t, .int x1] (W_X1_readPins E o_t r_t_script a_t r_t_script r_script_tape r_script_tape a_script_tape t_levels t_sums script_end script_place script_fault script_tape_size script_tape_bytes) (fun w => w = (W_X1_readPins E o_t r_t_script a_t r_t_script r_script_tape r_script_tape a_script_tape r.1 r.2.1 script_end r.2.2.1 r.2.2.2 script_tape_size script_tape_bytes)) none) (C : Cx X E cX1_readGroup RX1 (q + 1) 4) (o_t : Nat) (r_t_script : Nat) (a_t : Nat → Nat) (r_script_tape : Nat) (a_script_tape : Nat → Nat) (script_end : Int32) (script_place : Int32) (script_fault : Int32) (script_tape_size : Int32) (script_tape_bytes : (Nat → Int32)) (x1 : Int32) (x2 : Int32) {r : (Nat → Int32) × (Nat → Int32) × Int32 × Int32} (hret : RtV X E cX1_readGroup 0 0 (fun w => w = (W_X1_readGroup E o_t r_t_script a_t r_t_script r_script_tape r_script_tape a_script_tape r.1 r.2.1 script_end r.2.2.1 r.2.2.2 script_tape_size script_tape_bytes))) : ∀ (n : Nat) (s : Int32 × (Nat → Int32) × (Nat → Int32)), L_X1_readGroup_52 rp script_end script_place script_fault script_tape_size script_tape_bytes x1 x2 n s = some r → Gx X E 0 0 (W_X1_readGroup E o_t r_t_script a_t r_t_script r_script_tape r_script_tape a_script_tape s.2.1 s.2.2 script_end script_place script_fault script_tape_size script_tape_bytes) 52 [(0, .ref o_t), (1, .int x1), (2, .int x2), (3, .int s.1)] [] := by
  unfold L_X1_readGroup_52
  refine lp_ind _ (fun go ih s h => ?_)
  refine g_iload_n (pc := 52) C dX1_readGroup_52 rfl 3 rfl ?_
  refine g_bipush (pc := 53) (v := 6) C dX1_readGroup_53 (by decide) ?_
  refine g_icmp_ge (pc := 55) (tgt := 95) C dX1_readGroup_55 (by decide) h (fun h => ?_) (fun h => ?_)
  · cases h
    exact hret _ _ _ dX1_readGroup_95 rfl
  · refine g_aload_n (pc := 58) C dX1_readGroup_58 rfl 0 rfl ?_
    refine g_get (pc := 59) C fl_X1_21 dX1_readGroup_59 0 rfl rfl ?_
    obtain ⟨u4, hu4, h⟩ := bs h
    refine g_callV (pc := 62) (st := []) (st1 := [.int u4]) (ws' := (W_X1_readGroup E o_t r_t_script a_t r_t_script r_script_tape r_script_tape a_script_tape s.2.1 s.2.2 script_end script_place script_fault script_tape_size script_tape_bytes)) C mv_X7_isSound mi_X7_isSound ml_X1_41 (c_X7_isSound X.2.1 E r_t_script r_script_tape script_end script_place script_fault u4 hu4) dX1_readGroup_62 ⟨by omega, by decide⟩ rfl (Nat.le_of_ble_eq_true rfl) 3 6 rfl rfl [3] rfl (by decide) rfl rfl rfl rfl ?_
    refine g_if_eq (pc := 65) (tgt := 95) C dX1_readGroup_65 (by decide) h (fun h => ?_) (fun h => ?_)
    · cases h
      exact hret _ _ _ dX1_readGroup_95 rfl
    · refine g_aload_n (pc := 68) C dX1_readGroup_68 rfl 0 rfl ?_
      refine g_iload_n (pc := 69) C dX1_readGroup_69 rfl 1 rfl ?_
      refine g_iload_n (pc := 70) C dX1_readGroup_70 rfl 3 rfl ?_
      refine g_iload_n (pc := 71) C dX1_readGroup_71 rfl 2 rfl ?_
      refine g_aload_n (pc := 72) C dX1_readGroup_72 rfl 0 rfl ?_
      refine g_get (pc := 73) C fl_X1_15 dX1_readGroup_73 0 rfl rfl ?_
      refine g_iload_n (pc := 76) C dX1_readGroup_76 rfl 1 rfl ?_
      refine g_iconst (pc := 77) (v := 1) C dX1_readGroup_77 (by decide) ?_
      refine g_iadd (pc := 78) C dX1_readGroup_78 ?_
      refine g_bipush (pc := 79) (v := 6) C dX1_readGroup_79 (by decide) ?_
      refine g_imul (pc := 81) C dX1_readGroup_81 ?_
      refine g_iload_n (pc := 82) C dX1_readGroup_82 rfl 3 rfl ?_
      refine g_iadd (pc := 83) C dX1_readGroup_83 ?_
      refine g_iald (pc := 84) C dX1_readGroup_84 1 rfl h (fun v5 h => ?_)
      refine g_imul (pc := 85) C dX1_readGroup_85 ?_
      obtain ⟨u6, hu6, h⟩ := bs h
      refine g_callV (pc := 86) (st := []) (st1 := []) (ws' := (W_X1_readGroup E o_t r_t_script a_t r_t_script r_script_tape r_script_tape a_script_tape u6.1 u6.2 script_end script_place script_fault script_tape_size script_tape_bytes)) C mv_X1_add mi_X1_add ml_X1_69 (c_X1_add X.2.1 E o_t r_t_script a_t s.2.1 s.2.2 x1 s.1 (x2 * v5) u6 hu6) dX1_readGroup_86 ⟨by omega, by decide⟩ rfl (Nat.le_of_ble_eq_true rfl) 0 1 rfl rfl [0, 1, 2] rfl (by decide) rfl rfl rfl rfl ?_
      refine g_iincn (pc := 89) (j := 3) (d := 1) (lv' := fun v7 => [(3, .int v7), (0, .ref o_t), (1, .int x1), (2, .int x2)]) C dX1_readGroup_89 rfl (by decide) (by decide) (fun _ => rfl) h (fun v7 h => ?_)
      refine g_goto (pc := 92) (tgt := 52) C dX1_readGroup_92 (by decide) ?_
      refine g_sub [1, 2, 3, 0] rfl ?_
      exact ih _ h
set_option maxHeartbeats 4000000 in
set_option maxRecDepth 100000 in
theorem c_X1_readGroup (l : Launch) (E : GE) (q : Nat) (hq : 20 ≤ q) (rp : (Nat → Int32) → (Nat → Int32) → Int32 → Int32 → Int32 → Int32 → (Nat → Int32) → Int32 → Option ((Nat → Int32) × (Nat → Int32) × Int32 × Int32)) (hrp : ∀ (o_t : Nat) (r_t_script : Nat) (a_t : Nat → Nat) (r_script_tape : Nat) (a_script_tape : Nat → Nat) (t_levels : (Nat → Int32)) (t_sums : (Nat → Int32)) (script_end : Int32) (script_place : Int32) (script_fault : Int32) (script_tape_size : Int32) (script_tape_bytes : (Nat → Int32)) (x1 : Int32) (r : (Nat → Int32) × (Nat → Int32) × Int32 × Int32), rp t_levels t_sums script_end script_place script_fault script_tape_size script_tape_bytes x1 = some r → Cn l E yX1_readPins cX1_readPins 3 none q 0 0 [.ref o_t, .int x1] (W_X1_readPins E o_t r_t_script a_t r_t_script r_script_tape r_script_tape a_script_tape t_levels t_sums script_end script_place script_fault script_tape_size script_tape_bytes) (fun w => w = (W_X1_readPins E o_t r_t_script a_t r_t_script r_script_tape r_script_tape a_script_tape r.1 r.2.1 script_end r.2.2.1 r.2.2.2 script_tape_size script_tape_bytes)) none) (o_t : Nat) (r_t_script : Nat) (a_t : Nat → Nat) (r_script_tape : Nat) (a_script_tape : Nat → Nat) (t_levels : (Nat → Int32)) (t_sums : (Nat → Int32)) (script_end : Int32) (script_place : Int32) (script_fault : Int32) (script_tape_size : Int32) (script_tape_bytes : (Nat → Int32)) (x1 : Int32) (x2 : Int32) (r : (Nat → Int32) × (Nat → Int32) × Int32 × Int32) (h : f_X1_readGroup rp t_levels t_sums script_end script_place script_fault script_tape_size script_tape_bytes x1 x2 = some r) : Cn l E yX1_readGroup cX1_readGroup 4 none (q + 1) 0 0 [.ref o_t, .int x1, .int x2] (W_X1_readGroup E o_t r_t_script a_t r_t_script r_script_tape r_script_tape a_script_tape t_levels t_sums script_end script_place script_fault script_tape_size script_tape_bytes) (fun w => w = (W_X1_readGroup E o_t r_t_script a_t r_t_script r_script_tape r_script_tape a_script_tape r.1 r.2.1 script_end r.2.2.1 r.2.2.2 script_tape_size script_tape_bytes)) none := by
  refine Cn.ofV (by decide +kernel) (Nat.le_of_ble_eq_true rfl) (fun X hX hR C hret => ?_)
  subst hX
  show Gx X E 0 0 (W_X1_readGroup E o_t r_t_script a_t r_t_script r_script_tape r_script_tape a_script_tape t_levels t_sums script_end script_place script_fault script_tape_size script_tape_bytes) 0 [(0, .ref o_t), (1, .int x1), (2, .int x2)] []
  unfold f_X1_readGroup at h
  refine g_iload_n (pc := 0) C dX1_readGroup_0 rfl 1 rfl ?_
  refine g_iconst (pc := 1) (v := 2) C dX1_readGroup_1 (by decide) ?_
  refine g_icmp_lt (pc := 2) (tgt := 21) C dX1_readGroup_2 (by decide) h (fun h => ?_) (fun h => ?_)
  · refine g_aload_n (pc := 21) C dX1_readGroup_21 rfl 0 rfl ?_
    refine g_get (pc := 22) C fl_X1_21 dX1_readGroup_22 0 rfl rfl ?_
    refine g_dup (pc := 25) C dX1_readGroup_25 rfl ?_
    refine g_get (pc := 26) C fl_X1_61 dX1_readGroup_26 3 rfl rfl ?_
    refine g_iconst (pc := 29) (v := 1) C dX1_readGroup_29 (by decide) ?_
    refine g_iadd (pc := 30) C dX1_readGroup_30 ?_
    refine g_nm h (fun v1 h => ?_)
    refine g_put (pc := 31) (ws' := (W_X1_readGroup E o_t r_t_script a_t r_t_script r_script_tape r_script_tape a_script_tape t_levels t_sums script_end v1 script_fault script_tape_size script_tape_bytes)) C .int fl_X1_61 dX1_readGroup_31 3 rfl (by decide +kernel) rfl rfl (Nat.le_of_ble_eq_true rfl) rfl ?_
    refine g_aload_n (pc := 34) C dX1_readGroup_34 rfl 0 rfl ?_
    refine g_iload_n (pc := 35) C dX1_readGroup_35 rfl 1 rfl ?_
    refine g_iconst (pc := 36) (v := 1) C dX1_readGroup_36 (by decide) ?_
    refine g_iadd (pc := 37) C dX1_readGroup_37 ?_
    obtain ⟨u2, hu2, h⟩ := bs h
    refine g_callV (pc := 38) (st := []) (st1 := []) (ws' := (W_X1_readGroup E o_t r_t_script a_t r_t_script r_script_tape r_script_tape a_script_tape u2.1 u2.2.1 script_end u2.2.2.1 u2.2.2.2 script_tape_size script_tape_bytes)) C mv_X1_readPins mi_X1_readPins ml_X1_25 (hrp o_t r_t_script a_t r_script_tape a_script_tape t_levels t_sums script_end v1 script_fault script_tape_size script_tape_bytes (x1 + (1 : Int32)) u2 hu2) dX1_readGroup_38 ⟨by omega, by decide⟩ rfl (Nat.le_of_ble_eq_true rfl) 0 1 rfl rfl [0, 1, 2, 3, 4, 5] rfl (by decide) rfl rfl rfl rfl ?_
    refine g_aload_n (pc := 41) C dX1_readGroup_41 rfl 0 rfl ?_
    refine g_get (pc := 42) C fl_X1_21 dX1_readGroup_42 0 rfl rfl ?_
    refine g_bipush (pc := 45) (v := 41) C dX1_readGroup_45 (by decide) ?_
    obtain ⟨u3, hu3, h⟩ := bs h
    refine g_callV (pc := 47) (st := []) (st1 := []) (ws' := (W_X1_readGroup E o_t r_t_script a_t r_t_script r_script_tape r_script_tape a_script_tape u2.1 u2.2.1 script_end u3.1 u3.2 script_tape_size script_tape_bytes)) C mv_X7_want mi_X7_want ml_X1_80 (c_X7_want X.2.1 E r_t_script r_script_tape a_script_tape script_end u2.2.2.1 u2.2.2.2 script_tape_size script_tape_bytes (41 : Int32) u3 hu3) dX1_readGroup_47 ⟨by omega, by decide⟩ rfl (Nat.le_of_ble_eq_true rfl) 3 6 rfl rfl [3, 4, 5] rfl (by decide) rfl rfl rfl rfl ?_
    refine g_iconst (pc := 50) (v := 0) C dX1_readGroup_50 (by decide) ?_
    refine g_istore_n (pc := 51) (lv' := [(3, .int (0 : Int32)), (0, .ref o_t), (1, .int x1), (2, .int x2)]) C dX1_readGroup_51 rfl (by decide) rfl ?_
    refine g_sub [1, 2, 3, 0] rfl ?_
    refine kL_X1_readGroup_52 q hq rp hrp C o_t r_t_script a_t r_script_tape a_script_tape script_end u3.1 u3.2 script_tape_size script_tape_bytes x1 x2 hret  _ _ h
  · refine g_aload_n (pc := 5) C dX1_readGroup_5 rfl 0 rfl ?_
    refine g_get (pc := 6) C fl_X1_21 dX1_readGroup_6 0 rfl rfl ?_
    refine g_iconst (pc := 9) (v := 5) C dX1_readGroup_9 (by decide) ?_
    refine g_aload_n (pc := 10) C dX1_readGroup_10 rfl 0 rfl ?_
    refine g_get (pc := 11) C fl_X1_21 dX1_readGroup_11 0 rfl rfl ?_
    refine g_get (pc := 14) C fl_X1_61 dX1_readGroup_14 3 rfl rfl ?_
    obtain ⟨u8, hu8, h⟩ := bs h
    refine g_callV (pc := 17) (st := []) (st1 := []) (ws' := (W_X1_readGroup E o_t r_t_script a_t r_t_script r_script_tape r_script_tape a_script_tape t_levels t_sums script_end script_place u8 script_tape_size script_tape_bytes)) C mv_X7_fail mi_X7_fail ml_X1_77 (c_X7_fail X.2.1 E r_t_script r_script_tape script_end script_place script_fault (5 : Int32) script_place u8 hu8) dX1_readGroup_17 ⟨by omega, by decide⟩ rfl (Nat.le_of_ble_eq_true rfl) 3 6 rfl rfl [3] rfl (by decide) rfl rfl rfl rfl ?_
    cases h
    exact hret _ _ _ dX1_readGroup_20 rfl
abbrev W_X1_readItem (E : GE) (O_t : Nat) (r_t_script : Nat) (a_t : Nat → Nat) (O_script : Nat) (r_script_tape : Nat) (O_script_tape : Nat) (a_script_tape : Nat → Nat) (t_levels : (Nat → Int32)) (t_sums : (Nat → Int32)) (script_end : Int32) (script_place : Int32) (script_fault : Int32) (script_tape_size : Int32) (script_tape_bytes : (Nat → Int32)) : va_W := [(O_t, ob_X1 r_t_script a_t), (a_t 2, .inl (E.2.1, 18, .inl t_levels)), (a_t 3, .inl (E.2.1, 3, .inl t_sums)), (O_script, ob_X7 r_script_tape script_end script_place script_fault), (O_script_tape, ob_X8 a_script_tape script_tape_size), (a_script_tape 0, .inl (E.2.1, 260, .inl script_tape_bytes))]
def f_X1_readItem (rp : (Nat → Int32) → (Nat → Int32) → Int32 → Int32 → Int32 → Int32 → (Nat → Int32) → Int32 → Option ((Nat → Int32) × (Nat → Int32) × Int32 × Int32)) (t_levels : (Nat → Int32)) (t_sums : (Nat → Int32)) (script_end : Int32) (script_place : Int32) (script_fault : Int32) (script_tape_size : Int32) (script_tape_bytes : (Nat → Int32)) (x1 : Int32) : Option ((Nat → Int32) × (Nat → Int32) × Int32 × Int32) := (f_X7_sign script_end script_place script_tape_size script_tape_bytes).bind fun u1 => (f_X11_isWithin u1 (50 : Int32) (57 : Int32)).bind fun u2 => jn (fun s3 : Int32 × Int32 => (f_X7_sign script_end s3.2 script_tape_size script_tape_bytes).bind fun u4 => (f_X11_isWithin u4 (97 : Int32) (102 : Int32)).bind fun u5 => jn (fun s6 : (Nat → Int32) × (Nat → Int32) × Int32 × Int32 => rd s6.2.1 3 x1 fun v7 => if v7 ≤ (60 : Int32) then (some (s6.1, s6.2.1, s6.2.2.1, s6.2.2.2)) else (f_X7_fail s6.2.2.2 (6 : Int32) script_place).bind fun u8 => some (s6.1, s6.2.1, s6.2.2.1, u8)) fun j136 => if u5 = 0 then ((f_X7_sign script_end s3.2 script_tape_size script_tape_bytes).bind fun u9 => if u9 = (40 : Int32) then ((f_X1_readGroup rp t_levels t_sums script_end s3.2 script_fault script_tape_size script_tape_bytes x1 s3.1).bind fun u11 => j136 (u11.1, u11.2.1, u11.2.2.1, u11.2.2.2)) else (f_X7_fail script_fault (1 : Int32) s3.2).bind fun u10 => j136 (t_levels, t_sums, s3.2, u10)) else (f_X7_sign script_end s3.2 script_tape_size script_tape_bytes).bind fun u12 => (f_X1_add t_levels t_sums x1 (u12 - (97 : Int32)) s3.1).bind fun u13 => nm (s3.2 + (1 : Int32)) fun v14 => j136 (u13.1, u13.2, v14, script_fault)) fun j51 => if u2 = 0 then (j51 ((1 : Int32), script_place)) else (f_X7_sign script_end script_place script_tape_size script_tape_bytes).bind fun u15 => nm (u15 - (48 : Int32)) fun v16 => nm (script_place + (1 : Int32)) fun v17 => j51 (v16, v17)
theorem dX1_readItem_0 : decode cX1_readItem 0 = .ok (.aload_n 0, 1) := by decide +kernel
theorem dX1_readItem_1 : decode cX1_readItem 1 = .ok (.getfield 21, 3) := by decide +kernel
theorem dX1_readItem_4 : decode cX1_readItem 4 = .ok (.getfield 61, 3) := by decide +kernel
theorem dX1_readItem_7 : decode cX1_readItem 7 = .ok (.istore_n 2, 1) := by decide +kernel
theorem dX1_readItem_8 : decode cX1_readItem 8 = .ok (.iconst 1, 1) := by decide +kernel
theorem dX1_readItem_9 : decode cX1_readItem 9 = .ok (.istore_n 3, 1) := by decide +kernel
theorem dX1_readItem_10 : decode cX1_readItem 10 = .ok (.aload_n 0, 1) := by decide +kernel
theorem dX1_readItem_11 : decode cX1_readItem 11 = .ok (.getfield 21, 3) := by decide +kernel
theorem dX1_readItem_14 : decode cX1_readItem 14 = .ok (.invokevirtual 57, 3) := by decide +kernel
theorem dX1_readItem_17 : decode cX1_readItem 17 = .ok (.bipush 50, 2) := by decide +kernel
theorem dX1_readItem_19 : decode cX1_readItem 19 = .ok (.bipush 57, 2) := by decide +kernel
theorem dX1_readItem_21 : decode cX1_readItem 21 = .ok (.invokestatic 65, 3) := by decide +kernel
theorem dX1_readItem_24 : decode cX1_readItem 24 = .ok (.ifCond .eq 27, 3) := by decide +kernel
theorem dX1_readItem_27 : decode cX1_readItem 27 = .ok (.aload_n 0, 1) := by decide +kernel
theorem dX1_readItem_28 : decode cX1_readItem 28 = .ok (.getfield 21, 3) := by decide +kernel
theorem dX1_readItem_31 : decode cX1_readItem 31 = .ok (.invokevirtual 57, 3) := by decide +kernel
theorem dX1_readItem_34 : decode cX1_readItem 34 = .ok (.bipush 48, 2) := by decide +kernel
theorem dX1_readItem_36 : decode cX1_readItem 36 = .ok (.isub, 1) := by decide +kernel
theorem dX1_readItem_37 : decode cX1_readItem 37 = .ok (.istore_n 3, 1) := by decide +kernel
theorem dX1_readItem_38 : decode cX1_readItem 38 = .ok (.aload_n 0, 1) := by decide +kernel
theorem dX1_readItem_39 : decode cX1_readItem 39 = .ok (.getfield 21, 3) := by decide +kernel
theorem dX1_readItem_42 : decode cX1_readItem 42 = .ok (.dup, 1) := by decide +kernel
theorem dX1_readItem_43 : decode cX1_readItem 43 = .ok (.getfield 61, 3) := by decide +kernel
theorem dX1_readItem_46 : decode cX1_readItem 46 = .ok (.iconst 1, 1) := by decide +kernel
theorem dX1_readItem_47 : decode cX1_readItem 47 = .ok (.iadd, 1) := by decide +kernel
theorem dX1_readItem_48 : decode cX1_readItem 48 = .ok (.putfield 61, 3) := by decide +kernel
theorem dX1_readItem_51 : decode cX1_readItem 51 = .ok (.aload_n 0, 1) := by decide +kernel
theorem dX1_readItem_52 : decode cX1_readItem 52 = .ok (.getfield 21, 3) := by decide +kernel
theorem dX1_readItem_55 : decode cX1_readItem 55 = .ok (.invokevirtual 57, 3) := by decide +kernel
theorem dX1_readItem_58 : decode cX1_readItem 58 = .ok (.bipush 97, 2) := by decide +kernel
theorem dX1_readItem_60 : decode cX1_readItem 60 = .ok (.bipush 102, 2) := by decide +kernel
theorem dX1_readItem_62 : decode cX1_readItem 62 = .ok (.invokestatic 65, 3) := by decide +kernel
theorem dX1_readItem_65 : decode cX1_readItem 65 = .ok (.ifCond .eq 35, 3) := by decide +kernel
theorem dX1_readItem_68 : decode cX1_readItem 68 = .ok (.aload_n 0, 1) := by decide +kernel
theorem dX1_readItem_69 : decode cX1_readItem 69 = .ok (.iload_n 1, 1) := by decide +kernel
theorem dX1_readItem_70 : decode cX1_readItem 70 = .ok (.aload_n 0, 1) := by decide +kernel
theorem dX1_readItem_71 : decode cX1_readItem 71 = .ok (.getfield 21, 3) := by decide +kernel
theorem dX1_readItem_74 : decode cX1_readItem 74 = .ok (.invokevirtual 57, 3) := by decide +kernel
theorem dX1_readItem_77 : decode cX1_readItem 77 = .ok (.bipush 97, 2) := by decide +kernel
theorem dX1_readItem_79 : decode cX1_readItem 79 = .ok (.isub, 1) := by decide +kernel
theorem dX1_readItem_80 : decode cX1_readItem 80 = .ok (.iload_n 3, 1) := by decide +kernel
theorem dX1_readItem_81 : decode cX1_readItem 81 = .ok (.invokevirtual 69, 3) := by decide +kernel
theorem dX1_readItem_84 : decode cX1_readItem 84 = .ok (.aload_n 0, 1) := by decide +kernel
theorem dX1_readItem_85 : decode cX1_readItem 85 = .ok (.getfield 21, 3) := by decide +kernel
theorem dX1_readItem_88 : decode cX1_readItem 88 = .ok (.dup, 1) := by decide +kernel
theorem dX1_readItem_89 : decode cX1_readItem 89 = .ok (.getfield 61, 3) := by decide +kernel
theorem dX1_readItem_92 : decode cX1_readItem 92 = .ok (.iconst 1, 1) := by decide +kernel
theorem dX1_readItem_93 : decode cX1_readItem 93 = .ok (.iadd, 1) := by decide +kernel
theorem dX1_readItem_94 : decode cX1_readItem 94 = .ok (.putfield 61, 3) := by decide +kernel
theorem dX1_readItem_97 : decode cX1_readItem 97 = .ok (.goto 39, 3) := by decide +kernel
theorem dX1_readItem_100 : decode cX1_readItem 100 = .ok (.aload_n 0, 1) := by decide +kernel
theorem dX1_readItem_101 : decode cX1_readItem 101 = .ok (.getfield 21, 3) := by decide +kernel
theorem dX1_readItem_104 : decode cX1_readItem 104 = .ok (.invokevirtual 57, 3) := by decide +kernel
theorem dX1_readItem_107 : decode cX1_readItem 107 = .ok (.bipush 40, 2) := by decide +kernel
theorem dX1_readItem_109 : decode cX1_readItem 109 = .ok (.if_icmp .ne 12, 3) := by decide +kernel
theorem dX1_readItem_112 : decode cX1_readItem 112 = .ok (.aload_n 0, 1) := by decide +kernel
theorem dX1_readItem_113 : decode cX1_readItem 113 = .ok (.iload_n 1, 1) := by decide +kernel
theorem dX1_readItem_114 : decode cX1_readItem 114 = .ok (.iload_n 3, 1) := by decide +kernel
theorem dX1_readItem_115 : decode cX1_readItem 115 = .ok (.invokevirtual 73, 3) := by decide +kernel
theorem dX1_readItem_118 : decode cX1_readItem 118 = .ok (.goto 18, 3) := by decide +kernel
theorem dX1_readItem_121 : decode cX1_readItem 121 = .ok (.aload_n 0, 1) := by decide +kernel
theorem dX1_readItem_122 : decode cX1_readItem 122 = .ok (.getfield 21, 3) := by decide +kernel
theorem dX1_readItem_125 : decode cX1_readItem 125 = .ok (.iconst 1, 1) := by decide +kernel
theorem dX1_readItem_126 : decode cX1_readItem 126 = .ok (.aload_n 0, 1) := by decide +kernel
theorem dX1_readItem_127 : decode cX1_readItem 127 = .ok (.getfield 21, 3) := by decide +kernel
theorem dX1_readItem_130 : decode cX1_readItem 130 = .ok (.getfield 61, 3) := by decide +kernel
theorem dX1_readItem_133 : decode cX1_readItem 133 = .ok (.invokevirtual 77, 3) := by decide +kernel
theorem dX1_readItem_136 : decode cX1_readItem 136 = .ok (.aload_n 0, 1) := by decide +kernel
theorem dX1_readItem_137 : decode cX1_readItem 137 = .ok (.getfield 18, 3) := by decide +kernel
theorem dX1_readItem_140 : decode cX1_readItem 140 = .ok (.iload_n 1, 1) := by decide +kernel
theorem dX1_readItem_141 : decode cX1_readItem 141 = .ok (.iaload, 1) := by decide +kernel
theorem dX1_readItem_142 : decode cX1_readItem 142 = .ok (.bipush 60, 2) := by decide +kernel
theorem dX1_readItem_144 : decode cX1_readItem 144 = .ok (.if_icmp .le 13, 3) := by decide +kernel
theorem dX1_readItem_147 : decode cX1_readItem 147 = .ok (.aload_n 0, 1) := by decide +kernel
theorem dX1_readItem_148 : decode cX1_readItem 148 = .ok (.getfield 21, 3) := by decide +kernel
theorem dX1_readItem_151 : decode cX1_readItem 151 = .ok (.bipush 6, 2) := by decide +kernel
theorem dX1_readItem_153 : decode cX1_readItem 153 = .ok (.iload_n 2, 1) := by decide +kernel
theorem dX1_readItem_154 : decode cX1_readItem 154 = .ok (.invokevirtual 77, 3) := by decide +kernel
theorem dX1_readItem_157 : decode cX1_readItem 157 = .ok (.return_, 1) := by decide +kernel
set_option maxHeartbeats 4000000 in
set_option maxRecDepth 100000 in
theorem c_X1_readItem (l : Launch) (E : GE) (q : Nat) (hq : 20 ≤ q) (rp : (Nat → Int32) → (Nat → Int32) → Int32 → Int32 → Int32 → Int32 → (Nat → Int32) → Int32 → Option ((Nat → Int32) × (Nat → Int32) × Int32 × Int32)) (hrp : ∀ (o_t : Nat) (r_t_script : Nat) (a_t : Nat → Nat) (r_script_tape : Nat) (a_script_tape : Nat → Nat) (t_levels : (Nat → Int32)) (t_sums : (Nat → Int32)) (script_end : Int32) (script_place : Int32) (script_fault : Int32) (script_tape_size : Int32) (script_tape_bytes : (Nat → Int32)) (x1 : Int32) (r : (Nat → Int32) × (Nat → Int32) × Int32 × Int32), rp t_levels t_sums script_end script_place script_fault script_tape_size script_tape_bytes x1 = some r → Cn l E yX1_readPins cX1_readPins 3 none q 0 0 [.ref o_t, .int x1] (W_X1_readPins E o_t r_t_script a_t r_t_script r_script_tape r_script_tape a_script_tape t_levels t_sums script_end script_place script_fault script_tape_size script_tape_bytes) (fun w => w = (W_X1_readPins E o_t r_t_script a_t r_t_script r_script_tape r_script_tape a_script_tape r.1 r.2.1 script_end r.2.2.1 r.2.2.2 script_tape_size script_tape_bytes)) none) (o_t : Nat) (r_t_script : Nat) (a_t : Nat → Nat) (r_script_tape : Nat) (a_script_tape : Nat → Nat) (t_levels : (Nat → Int32)) (t_sums : (Nat → Int32)) (script_end : Int32) (script_place : Int32) (script_fault : Int32) (script_tape_size : Int32) (script_tape_bytes : (Nat → Int32)) (x1 : Int32) (r : (Nat → Int32) × (Nat → Int32) × Int32 × Int32) (h : f_X1_readItem rp t_levels t_sums script_end script_place script_fault script_tape_size script_tape_bytes x1 = some r) : Cn l E yX1_readItem cX1_readItem 4 none (q + 2) 0 0 [.ref o_t, .int x1] (W_X1_readItem E o_t r_t_script a_t r_t_script r_script_tape r_script_tape a_script_tape t_levels t_sums script_end script_place script_fault script_tape_size script_tape_bytes) (fun w => w = (W_X1_readItem E o_t r_t_script a_t r_t_script r_script_tape r_script_tape a_script_tape r.1 r.2.1 script_end r.2.2.1 r.2.2.2 script_tape_size script_tape_bytes)) none := by
  refine Cn.ofV (by decide +kernel) (Nat.le_of_ble_eq_true rfl) (fun X hX hR C hret => ?_)
  subst hX
  show Gx X E 0 0 (W_X1_readItem E o_t r_t_script a_t r_t_script r_script_tape r_script_tape a_script_tape t_levels t_sums script_end script_place script_fault script_tape_size script_tape_bytes) 0 [(0, .ref o_t), (1, .int x1)] []
  unfold f_X1_readItem at h
  refine g_aload_n (pc := 0) C dX1_readItem_0 rfl 0 rfl ?_
  refine g_get (pc := 1) C fl_X1_21 dX1_readItem_1 0 rfl rfl ?_
  refine g_get (pc := 4) C fl_X1_61 dX1_readItem_4 3 rfl rfl ?_
  refine g_istore_n (pc := 7) (lv' := [(2, .int script_place), (0, .ref o_t), (1, .int x1)]) C dX1_readItem_7 rfl (by decide) rfl ?_
  refine g_iconst (pc := 8) (v := 1) C dX1_readItem_8 (by decide) ?_
  refine g_istore_n (pc := 9) (lv' := [(3, .int (1 : Int32)), (2, .int script_place), (0, .ref o_t), (1, .int x1)]) C dX1_readItem_9 rfl (by decide) rfl ?_
  refine g_aload_n (pc := 10) C dX1_readItem_10 rfl 2 rfl ?_
  refine g_get (pc := 11) C fl_X1_21 dX1_readItem_11 0 rfl rfl ?_
  obtain ⟨u1, hu1, h⟩ := bs h
  refine g_callV (pc := 14) (st := []) (st1 := [.int u1]) (ws' := (W_X1_readItem E o_t r_t_script a_t r_t_script r_script_tape r_script_tape a_script_tape t_levels t_sums script_end script_place script_fault script_tape_size script_tape_bytes)) C mv_X7_sign mi_X7_sign ml_X1_57 (c_X7_sign X.2.1 E r_t_script r_script_tape a_script_tape script_end script_place script_fault script_tape_size script_tape_bytes u1 hu1) dX1_readItem_14 ⟨by omega, by decide⟩ rfl (Nat.le_of_ble_eq_true rfl) 3 6 rfl rfl [3, 4, 5] rfl (by decide) rfl rfl rfl rfl ?_
  refine g_bipush (pc := 17) (v := 50) C dX1_readItem_17 (by decide) ?_
  refine g_bipush (pc := 19) (v := 57) C dX1_readItem_19 (by decide) ?_
  obtain ⟨u2, hu2, h⟩ := bs h
  refine g_callSN (pc := 21) (st := []) (st1 := [.int u2]) (ws' := (W_X1_readItem E o_t r_t_script a_t r_t_script r_script_tape r_script_tape a_script_tape t_levels t_sums script_end script_place script_fault script_tape_size script_tape_bytes)) C mv_X11_isWithin ms_X11_isWithin mn_X1_65 (c_X11_isWithin X.2.1 E u1 (50 : Int32) (57 : Int32) u2 hu2) dX1_readItem_21 ⟨by omega, by decide⟩ rfl (Nat.le_of_ble_eq_true rfl) [] rfl (by decide) rfl rfl rfl rfl ?_
  refine g_jn (fun s3 : Int32 × Int32 => Gx X E 0 0 (W_X1_readItem E o_t r_t_script a_t r_t_script r_script_tape r_script_tape a_script_tape t_levels t_sums script_end s3.2 script_fault script_tape_size script_tape_bytes) 51 [(0, .ref o_t), (1, .int x1), (2, .int script_place), (3, .int s3.1)] []) h (fun s3 h => ?_) (fun j51 hj51 h => ?_)
  · refine g_aload_n (pc := 51) C dX1_readItem_51 rfl 0 rfl ?_
    refine g_get (pc := 52) C fl_X1_21 dX1_readItem_52 0 rfl rfl ?_
    obtain ⟨u4, hu4, h⟩ := bs h
    refine g_callV (pc := 55) (st := []) (st1 := [.int u4]) (ws' := (W_X1_readItem E o_t r_t_script a_t r_t_script r_script_tape r_script_tape a_script_tape t_levels t_sums script_end s3.2 script_fault script_tape_size script_tape_bytes)) C mv_X7_sign mi_X7_sign ml_X1_57 (c_X7_sign X.2.1 E r_t_script r_script_tape a_script_tape script_end s3.2 script_fault script_tape_size script_tape_bytes u4 hu4) dX1_readItem_55 ⟨by omega, by decide⟩ rfl (Nat.le_of_ble_eq_true rfl) 3 6 rfl rfl [3, 4, 5] rfl (by decide) rfl rfl rfl rfl ?_
    refine g_bipush (pc := 58) (v := 97) C dX1_readItem_58 (by decide) ?_
    refine g_bipush (pc := 60) (v := 102) C dX1_readItem_60 (by decide) ?_
    obtain ⟨u5, hu5, h⟩ := bs h
    refine g_callSN (pc := 62) (st := []) (st1 := [.int u5]) (ws' := (W_X1_readItem E o_t r_t_script a_t r_t_script r_script_tape r_script_tape a_script_tape t_levels t_sums script_end s3.2 script_fault script_tape_size script_tape_bytes)) C mv_X11_isWithin ms_X11_isWithin mn_X1_65 (c_X11_isWithin X.2.1 E u4 (97 : Int32) (102 : Int32) u5 hu5) dX1_readItem_62 ⟨by omega, by decide⟩ rfl (Nat.le_of_ble_eq_true rfl) [] rfl (by decide) rfl rfl rfl rfl ?_
    refine g_jn (fun s6 : (Nat → Int32) × (Nat → Int32) × Int32 × Int32 => Gx X E 0 0 (W_X1_readItem E o_t r_t_script a_t r_t_script r_script_tape r_script_tape a_script_tape s6.1 s6.2.1 script_end s6.2.2.1 s6.2.2.2 script_tape_size script_tape_bytes) 136 [(0, .ref o_t), (1, .int x1), (2, .int script_place)] []) h (fun s6 h => ?_) (fun j136 hj136 h => ?_)
    · refine g_aload_n (pc := 136) C dX1_readItem_136 rfl 0 rfl ?_
      refine g_get (pc := 137) C fl_X1_18 dX1_readItem_137 0 rfl rfl ?_
      refine g_iload_n (pc := 140) C dX1_readItem_140 rfl 1 rfl ?_
      refine g_iald (pc := 141) C dX1_readItem_141 2 rfl h (fun v7 h => ?_)
      refine g_bipush (pc := 142) (v := 60) C dX1_readItem_142 (by decide) ?_
      refine g_icmp_le (pc := 144) (tgt := 157) C dX1_readItem_144 (by decide) h (fun h => ?_) (fun h => ?_)
      · cases h
        exact hret _ _ _ dX1_readItem_157 rfl
      · refine g_aload_n (pc := 147) C dX1_readItem_147 rfl 0 rfl ?_
        refine g_get (pc := 148) C fl_X1_21 dX1_readItem_148 0 rfl rfl ?_
        refine g_bipush (pc := 151) (v := 6) C dX1_readItem_151 (by decide) ?_
        refine g_iload_n (pc := 153) C dX1_readItem_153 rfl 2 rfl ?_
        obtain ⟨u8, hu8, h⟩ := bs h
        refine g_callV (pc := 154) (st := []) (st1 := []) (ws' := (W_X1_readItem E o_t r_t_script a_t r_t_script r_script_tape r_script_tape a_script_tape s6.1 s6.2.1 script_end s6.2.2.1 u8 script_tape_size script_tape_bytes)) C mv_X7_fail mi_X7_fail ml_X1_77 (c_X7_fail X.2.1 E r_t_script r_script_tape script_end s6.2.2.1 s6.2.2.2 (6 : Int32) script_place u8 hu8) dX1_readItem_154 ⟨by omega, by decide⟩ rfl (Nat.le_of_ble_eq_true rfl) 3 6 rfl rfl [3] rfl (by decide) rfl rfl rfl rfl ?_
        cases h
        exact hret _ _ _ dX1_readItem_157 rfl
    refine g_if_eq (pc := 65) (tgt := 100) C dX1_readItem_65 (by decide) h (fun h => ?_) (fun h => ?_)
    · refine g_aload_n (pc := 100) C dX1_readItem_100 rfl 0 rfl ?_
      refine g_get (pc := 101) C fl_X1_21 dX1_readItem_101 0 rfl rfl ?_
      obtain ⟨u9, hu9, h⟩ := bs h
      refine g_callV (pc := 104) (st := []) (st1 := [.int u9]) (ws' := (W_X1_readItem E o_t r_t_script a_t r_t_script r_script_tape r_script_tape a_script_tape t_levels t_sums script_end s3.2 script_fault script_tape_size script_tape_bytes)) C mv_X7_sign mi_X7_sign ml_X1_57 (c_X7_sign X.2.1 E r_t_script r_script_tape a_script_tape script_end s3.2 script_fault script_tape_size script_tape_bytes u9 hu9) dX1_readItem_104 ⟨by omega, by decide⟩ rfl (Nat.le_of_ble_eq_true rfl) 3 6 rfl rfl [3, 4, 5] rfl (by decide) rfl rfl rfl rfl ?_
      refine g_bipush (pc := 107) (v := 40) C dX1_readItem_107 (by decide) ?_
      refine g_icmp_ne (pc := 109) (tgt := 121) C dX1_readItem_109 (by decide) h (fun h => ?_) (fun h => ?_)
      · refine g_aload_n (pc := 121) C dX1_readItem_121 rfl 0 rfl ?_
        refine g_get (pc := 122) C fl_X1_21 dX1_readItem_122 0 rfl rfl ?_
        refine g_iconst (pc := 125) (v := 1) C dX1_readItem_125 (by decide) ?_
        refine g_aload_n (pc := 126) C dX1_readItem_126 rfl 0 rfl ?_
        refine g_get (pc := 127) C fl_X1_21 dX1_readItem_127 0 rfl rfl ?_
        refine g_get (pc := 130) C fl_X1_61 dX1_readItem_130 3 rfl rfl ?_
        obtain ⟨u10, hu10, h⟩ := bs h
        refine g_callV (pc := 133) (st := []) (st1 := []) (ws' := (W_X1_readItem E o_t r_t_script a_t r_t_script r_script_tape r_script_tape a_script_tape t_levels t_sums script_end s3.2 u10 script_tape_size script_tape_bytes)) C mv_X7_fail mi_X7_fail ml_X1_77 (c_X7_fail X.2.1 E r_t_script r_script_tape script_end s3.2 script_fault (1 : Int32) s3.2 u10 hu10) dX1_readItem_133 ⟨by omega, by decide⟩ rfl (Nat.le_of_ble_eq_true rfl) 3 6 rfl rfl [3] rfl (by decide) rfl rfl rfl rfl ?_
        refine g_sub [0, 1, 2] rfl ?_
        exact hj136 _ h
      · refine g_aload_n (pc := 112) C dX1_readItem_112 rfl 0 rfl ?_
        refine g_iload_n (pc := 113) C dX1_readItem_113 rfl 1 rfl ?_
        refine g_iload_n (pc := 114) C dX1_readItem_114 rfl 3 rfl ?_
        obtain ⟨u11, hu11, h⟩ := bs h
        refine g_callV (pc := 115) (st := []) (st1 := []) (ws' := (W_X1_readItem E o_t r_t_script a_t r_t_script r_script_tape r_script_tape a_script_tape u11.1 u11.2.1 script_end u11.2.2.1 u11.2.2.2 script_tape_size script_tape_bytes)) C mv_X1_readGroup mi_X1_readGroup ml_X1_73 (c_X1_readGroup X.2.1 E q hq rp hrp o_t r_t_script a_t r_script_tape a_script_tape t_levels t_sums script_end s3.2 script_fault script_tape_size script_tape_bytes x1 s3.1 u11 hu11) dX1_readItem_115 ⟨by omega, by decide⟩ rfl (Nat.le_of_ble_eq_true rfl) 0 1 rfl rfl [0, 1, 2, 3, 4, 5] rfl (by decide) rfl rfl rfl rfl ?_
        refine g_goto (pc := 118) (tgt := 136) C dX1_readItem_118 (by decide) ?_
        refine g_sub [0, 1, 2] rfl ?_
        exact hj136 _ h
    · refine g_aload_n (pc := 68) C dX1_readItem_68 rfl 0 rfl ?_
      refine g_iload_n (pc := 69) C dX1_readItem_69 rfl 1 rfl ?_
      refine g_aload_n (pc := 70) C dX1_readItem_70 rfl 0 rfl ?_
      refine g_get (pc := 71) C fl_X1_21 dX1_readItem_71 0 rfl rfl ?_
      obtain ⟨u12, hu12, h⟩ := bs h
      refine g_callV (pc := 74) (st := [.int x1, .ref o_t]) (st1 := [.int u12, .int x1, .ref o_t]) (ws' := (W_X1_readItem E o_t r_t_script a_t r_t_script r_script_tape r_script_tape a_script_tape t_levels t_sums script_end s3.2 script_fault script_tape_size script_tape_bytes)) C mv_X7_sign mi_X7_sign ml_X1_57 (c_X7_sign X.2.1 E r_t_script r_script_tape a_script_tape script_end s3.2 script_fault script_tape_size script_tape_bytes u12 hu12) dX1_readItem_74 ⟨by omega, by decide⟩ rfl (Nat.le_of_ble_eq_true rfl) 3 6 rfl rfl [3, 4, 5] rfl (by decide) rfl rfl rfl rfl ?_
      refine g_bipush (pc := 77) (v := 97) C dX1_readItem_77 (by decide) ?_
      refine g_isub (pc := 79) C dX1_readItem_79 ?_
      refine g_iload_n (pc := 80) C dX1_readItem_80 rfl 3 rfl ?_
      obtain ⟨u13, hu13, h⟩ := bs h
      refine g_callV (pc := 81) (st := []) (st1 := []) (ws' := (W_X1_readItem E o_t r_t_script a_t r_t_script r_script_tape r_script_tape a_script_tape u13.1 u13.2 script_end s3.2 script_fault script_tape_size script_tape_bytes)) C mv_X1_add mi_X1_add ml_X1_69 (c_X1_add X.2.1 E o_t r_t_script a_t t_levels t_sums x1 (u12 - (97 : Int32)) s3.1 u13 hu13) dX1_readItem_81 ⟨by omega, by decide⟩ rfl (Nat.le_of_ble_eq_true rfl) 0 1 rfl rfl [0, 1, 2] rfl (by decide) rfl rfl rfl rfl ?_
      refine g_aload_n (pc := 84) C dX1_readItem_84 rfl 0 rfl ?_
      refine g_get (pc := 85) C fl_X1_21 dX1_readItem_85 0 rfl rfl ?_
      refine g_dup (pc := 88) C dX1_readItem_88 rfl ?_
      refine g_get (pc := 89) C fl_X1_61 dX1_readItem_89 3 rfl rfl ?_
      refine g_iconst (pc := 92) (v := 1) C dX1_readItem_92 (by decide) ?_
      refine g_iadd (pc := 93) C dX1_readItem_93 ?_
      refine g_nm h (fun v14 h => ?_)
      refine g_put (pc := 94) (ws' := (W_X1_readItem E o_t r_t_script a_t r_t_script r_script_tape r_script_tape a_script_tape u13.1 u13.2 script_end v14 script_fault script_tape_size script_tape_bytes)) C .int fl_X1_61 dX1_readItem_94 3 rfl (by decide +kernel) rfl rfl (Nat.le_of_ble_eq_true rfl) rfl ?_
      refine g_goto (pc := 97) (tgt := 136) C dX1_readItem_97 (by decide) ?_
      refine g_sub [0, 1, 2] rfl ?_
      exact hj136 _ h
  refine g_if_eq (pc := 24) (tgt := 51) C dX1_readItem_24 (by decide) h (fun h => ?_) (fun h => ?_)
  · refine g_sub [2, 3, 1, 0] rfl ?_
    exact hj51 _ h
  · refine g_aload_n (pc := 27) C dX1_readItem_27 rfl 2 rfl ?_
    refine g_get (pc := 28) C fl_X1_21 dX1_readItem_28 0 rfl rfl ?_
    obtain ⟨u15, hu15, h⟩ := bs h
    refine g_callV (pc := 31) (st := []) (st1 := [.int u15]) (ws' := (W_X1_readItem E o_t r_t_script a_t r_t_script r_script_tape r_script_tape a_script_tape t_levels t_sums script_end script_place script_fault script_tape_size script_tape_bytes)) C mv_X7_sign mi_X7_sign ml_X1_57 (c_X7_sign X.2.1 E r_t_script r_script_tape a_script_tape script_end script_place script_fault script_tape_size script_tape_bytes u15 hu15) dX1_readItem_31 ⟨by omega, by decide⟩ rfl (Nat.le_of_ble_eq_true rfl) 3 6 rfl rfl [3, 4, 5] rfl (by decide) rfl rfl rfl rfl ?_
    refine g_bipush (pc := 34) (v := 48) C dX1_readItem_34 (by decide) ?_
    refine g_isub (pc := 36) C dX1_readItem_36 ?_
    refine g_nm h (fun v16 h => ?_)
    refine g_istore_n (pc := 37) (lv' := [(3, .int v16), (2, .int script_place), (0, .ref o_t), (1, .int x1)]) C dX1_readItem_37 rfl (by decide) rfl ?_
    refine g_aload_n (pc := 38) C dX1_readItem_38 rfl 2 rfl ?_
    refine g_get (pc := 39) C fl_X1_21 dX1_readItem_39 0 rfl rfl ?_
    refine g_dup (pc := 42) C dX1_readItem_42 rfl ?_
    refine g_get (pc := 43) C fl_X1_61 dX1_readItem_43 3 rfl rfl ?_
    refine g_iconst (pc := 46) (v := 1) C dX1_readItem_46 (by decide) ?_
    refine g_iadd (pc := 47) C dX1_readItem_47 ?_
    refine g_nm h (fun v17 h => ?_)
    refine g_put (pc := 48) (ws' := (W_X1_readItem E o_t r_t_script a_t r_t_script r_script_tape r_script_tape a_script_tape t_levels t_sums script_end v17 script_fault script_tape_size script_tape_bytes)) C .int fl_X1_61 dX1_readItem_48 3 rfl (by decide +kernel) rfl rfl (Nat.le_of_ble_eq_true rfl) rfl ?_
    refine g_sub [2, 3, 1, 0] rfl ?_
    exact hj51 _ h
def L_X1_readPins_37 (rp : (Nat → Int32) → (Nat → Int32) → Int32 → Int32 → Int32 → Int32 → (Nat → Int32) → Int32 → Option ((Nat → Int32) × (Nat → Int32) × Int32 × Int32)) (script_end : Int32) (script_tape_size : Int32) (script_tape_bytes : (Nat → Int32)) (x1 : Int32) : Nat → Int32 × (Nat → Int32) × (Nat → Int32) × Int32 × Int32 → Option ((Nat → Int32) × (Nat → Int32) × Int32 × Int32) := lp fun go s => if (60 : Int32) < s.1 then (some (s.2.1, s.2.2.1, s.2.2.2.1, s.2.2.2.2)) else (f_X7_isSound s.2.2.2.2).bind fun u3 => if u3 = 0 then (some (s.2.1, s.2.2.1, s.2.2.2.1, s.2.2.2.2)) else jn (fun s4 : Unit => (f_X1_readItem rp s.2.1 s.2.2.1 script_end s.2.2.2.1 s.2.2.2.2 script_tape_size script_tape_bytes x1).bind fun u5 => nm (s.1 + (1 : Int32)) fun v6 => go (v6, u5.1, u5.2.1, u5.2.2.1, u5.2.2.2)) fun j66 => if s.1 ≤ 0 then (j66 ()) else (f_X1_endsHere script_end s.2.2.2.1 script_tape_size script_tape_bytes x1).bind fun u7 => if u7 = 0 then (j66 ()) else some (s.2.1, s.2.2.1, s.2.2.2.1, s.2.2.2.2)
def F_X1_readPins (rp : (Nat → Int32) → (Nat → Int32) → Int32 → Int32 → Int32 → Int32 → (Nat → Int32) → Int32 → Option ((Nat → Int32) × (Nat → Int32) × Int32 × Int32)) (t_levels : (Nat → Int32)) (t_sums : (Nat → Int32)) (script_end : Int32) (script_place : Int32) (script_fault : Int32) (script_tape_size : Int32) (script_tape_bytes : (Nat → Int32)) (x1 : Int32) : Option ((Nat → Int32) × (Nat → Int32) × Int32 × Int32) := if x1 < 0 then (some (t_levels, t_sums, script_place, script_fault)) else if x1 ≤ (2 : Int32) then (wr t_sums 3 x1 (0 : Int32) fun g1 => (f_J7_fill_fda19 18 t_levels (x1 * (6 : Int32)) ((x1 + (1 : Int32)) * (6 : Int32)) (0 : Int32)).bind fun u2 => L_X1_readPins_37 rp script_end script_tape_size script_tape_bytes x1 fu ((0 : Int32), u2, g1, script_place, script_fault)) else some (t_levels, t_sums, script_place, script_fault)
theorem dX1_readPins_0 : decode cX1_readPins 0 = .ok (.iload_n 1, 1) := by decide +kernel
theorem dX1_readPins_1 : decode cX1_readPins 1 = .ok (.ifCond .lt 8, 3) := by decide +kernel
theorem dX1_readPins_4 : decode cX1_readPins 4 = .ok (.iload_n 1, 1) := by decide +kernel
theorem dX1_readPins_5 : decode cX1_readPins 5 = .ok (.iconst 2, 1) := by decide +kernel
theorem dX1_readPins_6 : decode cX1_readPins 6 = .ok (.if_icmp .le 4, 3) := by decide +kernel
theorem dX1_readPins_9 : decode cX1_readPins 9 = .ok (.return_, 1) := by decide +kernel
theorem dX1_readPins_10 : decode cX1_readPins 10 = .ok (.aload_n 0, 1) := by decide +kernel
theorem dX1_readPins_11 : decode cX1_readPins 11 = .ok (.getfield 18, 3) := by decide +kernel
theorem dX1_readPins_14 : decode cX1_readPins 14 = .ok (.iload_n 1, 1) := by decide +kernel
theorem dX1_readPins_15 : decode cX1_readPins 15 = .ok (.iconst 0, 1) := by decide +kernel
theorem dX1_readPins_16 : decode cX1_readPins 16 = .ok (.iastore, 1) := by decide +kernel
theorem dX1_readPins_17 : decode cX1_readPins 17 = .ok (.aload_n 0, 1) := by decide +kernel
theorem dX1_readPins_18 : decode cX1_readPins 18 = .ok (.getfield 15, 3) := by decide +kernel
theorem dX1_readPins_21 : decode cX1_readPins 21 = .ok (.iload_n 1, 1) := by decide +kernel
theorem dX1_readPins_22 : decode cX1_readPins 22 = .ok (.bipush 6, 2) := by decide +kernel
theorem dX1_readPins_24 : decode cX1_readPins 24 = .ok (.imul, 1) := by decide +kernel
theorem dX1_readPins_25 : decode cX1_readPins 25 = .ok (.iload_n 1, 1) := by decide +kernel
theorem dX1_readPins_26 : decode cX1_readPins 26 = .ok (.iconst 1, 1) := by decide +kernel
theorem dX1_readPins_27 : decode cX1_readPins 27 = .ok (.iadd, 1) := by decide +kernel
theorem dX1_readPins_28 : decode cX1_readPins 28 = .ok (.bipush 6, 2) := by decide +kernel
theorem dX1_readPins_30 : decode cX1_readPins 30 = .ok (.imul, 1) := by decide +kernel
theorem dX1_readPins_31 : decode cX1_readPins 31 = .ok (.iconst 0, 1) := by decide +kernel
theorem dX1_readPins_32 : decode cX1_readPins 32 = .ok (.invokestatic 35, 3) := by decide +kernel
theorem dX1_readPins_35 : decode cX1_readPins 35 = .ok (.iconst 0, 1) := by decide +kernel
theorem dX1_readPins_36 : decode cX1_readPins 36 = .ok (.istore_n 2, 1) := by decide +kernel
theorem dX1_readPins_37 : decode cX1_readPins 37 = .ok (.iload_n 2, 1) := by decide +kernel
theorem dX1_readPins_38 : decode cX1_readPins 38 = .ok (.bipush 60, 2) := by decide +kernel
theorem dX1_readPins_40 : decode cX1_readPins 40 = .ok (.if_icmp .gt 37, 3) := by decide +kernel
theorem dX1_readPins_43 : decode cX1_readPins 43 = .ok (.aload_n 0, 1) := by decide +kernel
theorem dX1_readPins_44 : decode cX1_readPins 44 = .ok (.getfield 21, 3) := by decide +kernel
theorem dX1_readPins_47 : decode cX1_readPins 47 = .ok (.invokevirtual 41, 3) := by decide +kernel
theorem dX1_readPins_50 : decode cX1_readPins 50 = .ok (.ifCond .eq 27, 3) := by decide +kernel
theorem dX1_readPins_53 : decode cX1_readPins 53 = .ok (.iload_n 2, 1) := by decide +kernel
theorem dX1_readPins_54 : decode cX1_readPins 54 = .ok (.ifCond .le 12, 3) := by decide +kernel
theorem dX1_readPins_57 : decode cX1_readPins 57 = .ok (.aload_n 0, 1) := by decide +kernel
theorem dX1_readPins_58 : decode cX1_readPins 58 = .ok (.iload_n 1, 1) := by decide +kernel
theorem dX1_readPins_59 : decode cX1_readPins 59 = .ok (.invokevirtual 47, 3) := by decide +kernel
theorem dX1_readPins_62 : decode cX1_readPins 62 = .ok (.ifCond .eq 4, 3) := by decide +kernel
theorem dX1_readPins_65 : decode cX1_readPins 65 = .ok (.return_, 1) := by decide +kernel
theorem dX1_readPins_66 : decode cX1_readPins 66 = .ok (.aload_n 0, 1) := by decide +kernel
theorem dX1_readPins_67 : decode cX1_readPins 67 = .ok (.iload_n 1, 1) := by decide +kernel
theorem dX1_readPins_68 : decode cX1_readPins 68 = .ok (.invokevirtual 51, 3) := by decide +kernel
theorem dX1_readPins_71 : decode cX1_readPins 71 = .ok (.iinc 2 1, 3) := by decide +kernel
theorem dX1_readPins_74 : decode cX1_readPins 74 = .ok (.goto (-37), 3) := by decide +kernel
theorem dX1_readPins_77 : decode cX1_readPins 77 = .ok (.return_, 1) := by decide +kernel
set_option maxHeartbeats 4000000 in
set_option maxRecDepth 100000 in
theorem kL_X1_readPins_37 {X : GC} {E : GE} (q : Nat) (hq : 20 ≤ q) (rp : (Nat → Int32) → (Nat → Int32) → Int32 → Int32 → Int32 → Int32 → (Nat → Int32) → Int32 → Option ((Nat → Int32) × (Nat → Int32) × Int32 × Int32)) (hrp : ∀ (o_t : Nat) (r_t_script : Nat) (a_t : Nat → Nat) (r_script_tape : Nat) (a_script_tape : Nat → Nat) (t_levels : (Nat → Int32)) (t_sums : (Nat → Int32)) (script_end : Int32) (script_place : Int32) (script_fault : Int32) (script_tape_size : Int32) (script_tape_bytes : (Nat → Int32)) (x1 : Int32) (r : (Nat → Int32) × (Nat → Int32) × Int32 × Int32), rp t_levels t_sums script_end script_place script_fault script_tape_size script_tape_bytes x1 = some r → Cn X.2.1 E yX1_readPins cX1_readPins 3 none q 0 0 [.ref o_t, .int x1] (W_X1_readPins E o_t r_t_script a_t r_t_script r_script_tape r_script_tape a_script_tape t_levels t_sums script_end script_place script_fault script_tape_size script_tape_bytes) (fun w => w = (W_X1_readPins E o_t r_t_script a_t r_t_script r_script_tape r_script_tape a_script_tape r.1 r.2.1 script_end r.2.2.1 r.2.2.2 script_tape_size script_tape_bytes)) none) (C : Cx X E cX1_readPins RX1 (q + 3) 3) (o_t : Nat) (r_t_script : Nat) (a_t : Nat → Nat) (r_script_tape : Nat) (a_script_tape : Nat → Nat) (script_end : Int32) (script_tape_size : Int32) (script_tape_bytes : (Nat → Int32)) (x1 : Int32) {r : (Nat → Int32) × (Nat → Int32) × Int32 × Int32} (hret : RtV X E cX1_readPins 0 0 (fun w => w = (W_X1_readPins E o_t r_t_script a_t r_t_script r_script_tape r_script_tape a_script_tape r.1 r.2.1 script_end r.2.2.1 r.2.2.2 script_tape_size script_tape_bytes))) : ∀ (n : Nat) (s : Int32 × (Nat → Int32) × (Nat → Int32) × Int32 × Int32), L_X1_readPins_37 rp script_end script_tape_size script_tape_bytes x1 n s = some r → Gx X E 0 0 (W_X1_readPins E o_t r_t_script a_t r_t_script r_script_tape r_script_tape a_script_tape s.2.1 s.2.2.1 script_end s.2.2.2.1 s.2.2.2.2 script_tape_size script_tape_bytes) 37 [(0, .ref o_t), (1, .int x1), (2, .int s.1)] [] := by
  unfold L_X1_readPins_37
  refine lp_ind _ (fun go ih s h => ?_)
  refine g_iload_n (pc := 37) C dX1_readPins_37 rfl 2 rfl ?_
  refine g_bipush (pc := 38) (v := 60) C dX1_readPins_38 (by decide) ?_
  refine g_icmp_gt (pc := 40) (tgt := 77) C dX1_readPins_40 (by decide) h (fun h => ?_) (fun h => ?_)
  · cases h
    exact hret _ _ _ dX1_readPins_77 rfl
  · refine g_aload_n (pc := 43) C dX1_readPins_43 rfl 0 rfl ?_
    refine g_get (pc := 44) C fl_X1_21 dX1_readPins_44 0 rfl rfl ?_
    obtain ⟨u3, hu3, h⟩ := bs h
    refine g_callV (pc := 47) (st := []) (st1 := [.int u3]) (ws' := (W_X1_readPins E o_t r_t_script a_t r_t_script r_script_tape r_script_tape a_script_tape s.2.1 s.2.2.1 script_end s.2.2.2.1 s.2.2.2.2 script_tape_size script_tape_bytes)) C mv_X7_isSound mi_X7_isSound ml_X1_41 (c_X7_isSound X.2.1 E r_t_script r_script_tape script_end s.2.2.2.1 s.2.2.2.2 u3 hu3) dX1_readPins_47 ⟨by omega, by decide⟩ rfl (Nat.le_of_ble_eq_true rfl) 3 6 rfl rfl [3] rfl (by decide) rfl rfl rfl rfl ?_
    refine g_if_eq (pc := 50) (tgt := 77) C dX1_readPins_50 (by decide) h (fun h => ?_) (fun h => ?_)
    · cases h
      exact hret _ _ _ dX1_readPins_77 rfl
    · refine g_iload_n (pc := 53) C dX1_readPins_53 rfl 2 rfl ?_
      refine g_jn (fun s4 : Unit => Gx X E 0 0 (W_X1_readPins E o_t r_t_script a_t r_t_script r_script_tape r_script_tape a_script_tape s.2.1 s.2.2.1 script_end s.2.2.2.1 s.2.2.2.2 script_tape_size script_tape_bytes) 66 [(0, .ref o_t), (1, .int x1), (2, .int s.1)] []) h (fun s4 h => ?_) (fun j66 hj66 h => ?_)
      · refine g_aload_n (pc := 66) C dX1_readPins_66 rfl 0 rfl ?_
        refine g_iload_n (pc := 67) C dX1_readPins_67 rfl 1 rfl ?_
        obtain ⟨u5, hu5, h⟩ := bs h
        refine g_callV (pc := 68) (st := []) (st1 := []) (ws' := (W_X1_readPins E o_t r_t_script a_t r_t_script r_script_tape r_script_tape a_script_tape u5.1 u5.2.1 script_end u5.2.2.1 u5.2.2.2 script_tape_size script_tape_bytes)) C mv_X1_readItem mi_X1_readItem ml_X1_51 (c_X1_readItem X.2.1 E q hq rp hrp o_t r_t_script a_t r_script_tape a_script_tape s.2.1 s.2.2.1 script_end s.2.2.2.1 s.2.2.2.2 script_tape_size script_tape_bytes x1 u5 hu5) dX1_readPins_68 ⟨by omega, by decide⟩ rfl (Nat.le_of_ble_eq_true rfl) 0 1 rfl rfl [0, 1, 2, 3, 4, 5] rfl (by decide) rfl rfl rfl rfl ?_
        refine g_iincn (pc := 71) (j := 2) (d := 1) (lv' := fun v6 => [(2, .int v6), (0, .ref o_t), (1, .int x1)]) C dX1_readPins_71 rfl (by decide) (by decide) (fun _ => rfl) h (fun v6 h => ?_)
        refine g_goto (pc := 74) (tgt := 37) C dX1_readPins_74 (by decide) ?_
        refine g_sub [1, 2, 0] rfl ?_
        exact ih _ h
      refine g_if_le (pc := 54) (tgt := 66) C dX1_readPins_54 (by decide) h (fun h => ?_) (fun h => ?_)
      · exact hj66 _ h
      · refine g_aload_n (pc := 57) C dX1_readPins_57 rfl 0 rfl ?_
        refine g_iload_n (pc := 58) C dX1_readPins_58 rfl 1 rfl ?_
        obtain ⟨u7, hu7, h⟩ := bs h
        refine g_callV (pc := 59) (st := []) (st1 := [.int u7]) (ws' := (W_X1_readPins E o_t r_t_script a_t r_t_script r_script_tape r_script_tape a_script_tape s.2.1 s.2.2.1 script_end s.2.2.2.1 s.2.2.2.2 script_tape_size script_tape_bytes)) C mv_X1_endsHere mi_X1_endsHere ml_X1_47 (c_X1_endsHere X.2.1 E o_t r_t_script a_t r_script_tape a_script_tape script_end s.2.2.2.1 s.2.2.2.2 script_tape_size script_tape_bytes x1 u7 hu7) dX1_readPins_59 ⟨by omega, by decide⟩ rfl (Nat.le_of_ble_eq_true rfl) 0 1 rfl rfl [0, 3, 4, 5] rfl (by decide) rfl rfl rfl rfl ?_
        refine g_if_eq (pc := 62) (tgt := 66) C dX1_readPins_62 (by decide) h (fun h => ?_) (fun h => ?_)
        · exact hj66 _ h
        · cases h
          exact hret _ _ _ dX1_readPins_65 rfl
set_option maxHeartbeats 4000000 in
set_option maxRecDepth 100000 in
theorem C_X1_readPins (l : Launch) (E : GE) (q : Nat) (hq : 20 ≤ q) (rp : (Nat → Int32) → (Nat → Int32) → Int32 → Int32 → Int32 → Int32 → (Nat → Int32) → Int32 → Option ((Nat → Int32) × (Nat → Int32) × Int32 × Int32)) (hrp : ∀ (o_t : Nat) (r_t_script : Nat) (a_t : Nat → Nat) (r_script_tape : Nat) (a_script_tape : Nat → Nat) (t_levels : (Nat → Int32)) (t_sums : (Nat → Int32)) (script_end : Int32) (script_place : Int32) (script_fault : Int32) (script_tape_size : Int32) (script_tape_bytes : (Nat → Int32)) (x1 : Int32) (r : (Nat → Int32) × (Nat → Int32) × Int32 × Int32), rp t_levels t_sums script_end script_place script_fault script_tape_size script_tape_bytes x1 = some r → Cn l E yX1_readPins cX1_readPins 3 none q 0 0 [.ref o_t, .int x1] (W_X1_readPins E o_t r_t_script a_t r_t_script r_script_tape r_script_tape a_script_tape t_levels t_sums script_end script_place script_fault script_tape_size script_tape_bytes) (fun w => w = (W_X1_readPins E o_t r_t_script a_t r_t_script r_script_tape r_script_tape a_script_tape r.1 r.2.1 script_end r.2.2.1 r.2.2.2 script_tape_size script_tape_bytes)) none) (o_t : Nat) (r_t_script : Nat) (a_t : Nat → Nat) (r_script_tape : Nat) (a_script_tape : Nat → Nat) (t_levels : (Nat → Int32)) (t_sums : (Nat → Int32)) (script_end : Int32) (script_place : Int32) (script_fault : Int32) (script_tape_size : Int32) (script_tape_bytes : (Nat → Int32)) (x1 : Int32) (r : (Nat → Int32) × (Nat → Int32) × Int32 × Int32) (h : F_X1_readPins rp t_levels t_sums script_end script_place script_fault script_tape_size script_tape_bytes x1 = some r) : Cn l E yX1_readPins cX1_readPins 3 none (q + 3) 0 0 [.ref o_t, .int x1] (W_X1_readPins E o_t r_t_script a_t r_t_script r_script_tape r_script_tape a_script_tape t_levels t_sums script_end script_place script_fault script_tape_size script_tape_bytes) (fun w => w = (W_X1_readPins E o_t r_t_script a_t r_t_script r_script_tape r_script_tape a_script_tape r.1 r.2.1 script_end r.2.2.1 r.2.2.2 script_tape_size script_tape_bytes)) none := by
  refine Cn.ofV (by decide +kernel) (Nat.le_of_ble_eq_true rfl) (fun X hX hR C hret => ?_)
  subst hX
  show Gx X E 0 0 (W_X1_readPins E o_t r_t_script a_t r_t_script r_script_tape r_script_tape a_script_tape t_levels t_sums script_end script_place script_fault script_tape_size script_tape_bytes) 0 [(0, .ref o_t), (1, .int x1)] []
  unfold F_X1_readPins at h
  refine g_iload_n (pc := 0) C dX1_readPins_0 rfl 1 rfl ?_
  refine g_if_lt (pc := 1) (tgt := 9) C dX1_readPins_1 (by decide) h (fun h => ?_) (fun h => ?_)
  · cases h
    exact hret _ _ _ dX1_readPins_9 rfl
  · refine g_iload_n (pc := 4) C dX1_readPins_4 rfl 1 rfl ?_
    refine g_iconst (pc := 5) (v := 2) C dX1_readPins_5 (by decide) ?_
    refine g_icmp_le (pc := 6) (tgt := 10) C dX1_readPins_6 (by decide) h (fun h => ?_) (fun h => ?_)
    · refine g_aload_n (pc := 10) C dX1_readPins_10 rfl 0 rfl ?_
      refine g_get (pc := 11) C fl_X1_18 dX1_readPins_11 0 rfl rfl ?_
      refine g_iload_n (pc := 14) C dX1_readPins_14 rfl 1 rfl ?_
      refine g_iconst (pc := 15) (v := 0) C dX1_readPins_15 (by decide) ?_
      refine g_iast (pc := 16) C dX1_readPins_16 2 rfl h (fun g1 h => ?_)
      refine g_ws (ws' := (W_X1_readPins E o_t r_t_script a_t r_t_script r_script_tape r_script_tape a_script_tape t_levels g1 script_end script_place script_fault script_tape_size script_tape_bytes)) rfl ?_
      refine g_aload_n (pc := 17) C dX1_readPins_17 rfl 0 rfl ?_
      refine g_get (pc := 18) C fl_X1_15 dX1_readPins_18 0 rfl rfl ?_
      refine g_iload_n (pc := 21) C dX1_readPins_21 rfl 1 rfl ?_
      refine g_bipush (pc := 22) (v := 6) C dX1_readPins_22 (by decide) ?_
      refine g_imul (pc := 24) C dX1_readPins_24 ?_
      refine g_iload_n (pc := 25) C dX1_readPins_25 rfl 1 rfl ?_
      refine g_iconst (pc := 26) (v := 1) C dX1_readPins_26 (by decide) ?_
      refine g_iadd (pc := 27) C dX1_readPins_27 ?_
      refine g_bipush (pc := 28) (v := 6) C dX1_readPins_28 (by decide) ?_
      refine g_imul (pc := 30) C dX1_readPins_30 ?_
      refine g_iconst (pc := 31) (v := 0) C dX1_readPins_31 (by decide) ?_
      obtain ⟨u2, hu2, h⟩ := bs h
      refine g_callS (pc := 32) (st := []) (st1 := []) (ws' := (W_X1_readPins E o_t r_t_script a_t r_t_script r_script_tape r_script_tape a_script_tape u2 g1 script_end script_place script_fault script_tape_size script_tape_bytes)) C mv_J7_fill_fda19 ms_J7_fill_fda19 ml_X1_35 (c_J7_fill_fda19 X.2.1 E (a_t 2) 18 t_levels (x1 * (6 : Int32)) ((x1 + (1 : Int32)) * (6 : Int32)) (0 : Int32) u2 hu2) dX1_readPins_32 ⟨by omega, by decide⟩ rfl (Nat.le_of_ble_eq_true rfl) [1] rfl (by decide) rfl rfl rfl rfl ?_
      refine g_iconst (pc := 35) (v := 0) C dX1_readPins_35 (by decide) ?_
      refine g_istore_n (pc := 36) (lv' := [(2, .int (0 : Int32)), (0, .ref o_t), (1, .int x1)]) C dX1_readPins_36 rfl (by decide) rfl ?_
      refine g_sub [1, 2, 0] rfl ?_
      refine kL_X1_readPins_37 q hq rp hrp C o_t r_t_script a_t r_script_tape a_script_tape script_end script_tape_size script_tape_bytes x1 hret  _ _ h
    · cases h
      exact hret _ _ _ dX1_readPins_9 rfl
def f_X1_readPins : Nat → (Nat → Int32) → (Nat → Int32) → Int32 → Int32 → Int32 → Int32 → (Nat → Int32) → Int32 → Option ((Nat → Int32) × (Nat → Int32) × Int32 × Int32)
  | 0 => fun _ _ _ _ _ _ _ _ => none
  | d + 1 => F_X1_readPins (f_X1_readPins d)
theorem c_X1_readPins (l : Launch) (E : GE) : ∀ d : Nat, ∀ (o_t : Nat) (r_t_script : Nat) (a_t : Nat → Nat) (r_script_tape : Nat) (a_script_tape : Nat → Nat) (t_levels : (Nat → Int32)) (t_sums : (Nat → Int32)) (script_end : Int32) (script_place : Int32) (script_fault : Int32) (script_tape_size : Int32) (script_tape_bytes : (Nat → Int32)) (x1 : Int32) (r : (Nat → Int32) × (Nat → Int32) × Int32 × Int32), f_X1_readPins d t_levels t_sums script_end script_place script_fault script_tape_size script_tape_bytes x1 = some r → Cn l E yX1_readPins cX1_readPins 3 none (rkH d) 0 0 [.ref o_t, .int x1] (W_X1_readPins E o_t r_t_script a_t r_t_script r_script_tape r_script_tape a_script_tape t_levels t_sums script_end script_place script_fault script_tape_size script_tape_bytes) (fun w => w = (W_X1_readPins E o_t r_t_script a_t r_t_script r_script_tape r_script_tape a_script_tape r.1 r.2.1 script_end r.2.2.1 r.2.2.2 script_tape_size script_tape_bytes)) none := by
  intro d
  induction d with
  | zero => intro _ _ _ _ _ _ _ _ _ _ _ _ _ r h; cases h
  | succ d ih => exact C_X1_readPins l E (rkH d) (rkH_ge d) (f_X1_readPins d) ih
abbrev W_X1_read (E : GE) (O_t : Nat) (r_t_script : Nat) (a_t : Nat → Nat) (O_script : Nat) (r_script_tape : Nat) (O_script_tape : Nat) (a_script_tape : Nat → Nat) (t_pins : (Nat → Int32)) (t_levels : (Nat → Int32)) (t_sums : (Nat → Int32)) (script_end : Int32) (script_place : Int32) (script_fault : Int32) (script_tape_size : Int32) (script_tape_bytes : (Nat → Int32)) : va_W := [(O_t, ob_X1 r_t_script a_t), (a_t 1, .inl (E.2.1, 6, .inl t_pins)), (a_t 2, .inl (E.2.1, 18, .inl t_levels)), (a_t 3, .inl (E.2.1, 3, .inl t_sums)), (O_script, ob_X7 r_script_tape script_end script_place script_fault), (O_script_tape, ob_X8 a_script_tape script_tape_size), (a_script_tape 0, .inl (E.2.1, 260, .inl script_tape_bytes))]
def f_X1_read (t_pins : (Nat → Int32)) (t_levels : (Nat → Int32)) (t_sums : (Nat → Int32)) (script_end : Int32) (script_place : Int32) (script_fault : Int32) (script_tape_size : Int32) (script_tape_bytes : (Nat → Int32)) : Option ((Nat → Int32) × (Nat → Int32) × (Nat → Int32) × Int32 × Int32) := (f_X1_readPins 4 t_levels t_sums script_end script_place script_fault script_tape_size script_tape_bytes (0 : Int32)).bind fun u1 => cpy u1.1 18 t_pins 6 (0 : Int32) (0 : Int32) (6 : Int32) fun g2 => some (g2, u1.1, u1.2.1, u1.2.2.1, u1.2.2.2)
theorem dX1_read_0 : decode cX1_read 0 = .ok (.aload_n 0, 1) := by decide +kernel
theorem dX1_read_1 : decode cX1_read 1 = .ok (.iconst 0, 1) := by decide +kernel
theorem dX1_read_2 : decode cX1_read 2 = .ok (.invokevirtual 25, 3) := by decide +kernel
theorem dX1_read_5 : decode cX1_read 5 = .ok (.aload_n 0, 1) := by decide +kernel
theorem dX1_read_6 : decode cX1_read 6 = .ok (.getfield 15, 3) := by decide +kernel
theorem dX1_read_9 : decode cX1_read 9 = .ok (.iconst 0, 1) := by decide +kernel
theorem dX1_read_10 : decode cX1_read 10 = .ok (.aload_n 0, 1) := by decide +kernel
theorem dX1_read_11 : decode cX1_read 11 = .ok (.getfield 9, 3) := by decide +kernel
theorem dX1_read_14 : decode cX1_read 14 = .ok (.iconst 0, 1) := by decide +kernel
theorem dX1_read_15 : decode cX1_read 15 = .ok (.bipush 6, 2) := by decide +kernel
theorem dX1_read_17 : decode cX1_read 17 = .ok (.invokestatic 29, 3) := by decide +kernel
theorem dX1_read_20 : decode cX1_read 20 = .ok (.return_, 1) := by decide +kernel
set_option maxHeartbeats 4000000 in
set_option maxRecDepth 100000 in
theorem c_X1_read (l : Launch) (E : GE) (o_t : Nat) (r_t_script : Nat) (a_t : Nat → Nat) (r_script_tape : Nat) (a_script_tape : Nat → Nat) (t_pins : (Nat → Int32)) (t_levels : (Nat → Int32)) (t_sums : (Nat → Int32)) (script_end : Int32) (script_place : Int32) (script_fault : Int32) (script_tape_size : Int32) (script_tape_bytes : (Nat → Int32)) (r : (Nat → Int32) × (Nat → Int32) × (Nat → Int32) × Int32 × Int32) (h : f_X1_read t_pins t_levels t_sums script_end script_place script_fault script_tape_size script_tape_bytes = some r) : Cn l E yX1_read cX1_read 1 none 35 0 0 [.ref o_t] (W_X1_read E o_t r_t_script a_t r_t_script r_script_tape r_script_tape a_script_tape t_pins t_levels t_sums script_end script_place script_fault script_tape_size script_tape_bytes) (fun w => w = (W_X1_read E o_t r_t_script a_t r_t_script r_script_tape r_script_tape a_script_tape r.1 r.2.1 r.2.2.1 script_end r.2.2.2.1 r.2.2.2.2 script_tape_size script_tape_bytes)) none := by
  refine Cn.ofV (by decide +kernel) (Nat.le_of_ble_eq_true rfl) (fun X hX hR C hret => ?_)
  subst hX
  show Gx X E 0 0 (W_X1_read E o_t r_t_script a_t r_t_script r_script_tape r_script_tape a_script_tape t_pins t_levels t_sums script_end script_place script_fault script_tape_size script_tape_bytes) 0 [(0, .ref o_t)] []
  unfold f_X1_read at h
  refine g_aload_n (pc := 0) C dX1_read_0 rfl 0 rfl ?_
  refine g_iconst (pc := 1) (v := 0) C dX1_read_1 (by decide) ?_
  obtain ⟨u1, hu1, h⟩ := bs h
  refine g_callV (pc := 2) (st := []) (st1 := []) (ws' := (W_X1_read E o_t r_t_script a_t r_t_script r_script_tape r_script_tape a_script_tape t_pins u1.1 u1.2.1 script_end u1.2.2.1 u1.2.2.2 script_tape_size script_tape_bytes)) C mv_X1_readPins mi_X1_readPins ml_X1_25 (c_X1_readPins X.2.1 E 4 o_t r_t_script a_t r_script_tape a_script_tape t_levels t_sums script_end script_place script_fault script_tape_size script_tape_bytes (0 : Int32) u1 hu1) dX1_read_2 (by decide) rfl (Nat.le_of_ble_eq_true rfl) 0 1 rfl rfl [0, 2, 3, 4, 5, 6] rfl (by decide) rfl rfl rfl rfl ?_
  refine g_aload_n (pc := 5) C dX1_read_5 rfl 0 rfl ?_
  refine g_get (pc := 6) C fl_X1_15 dX1_read_6 0 rfl rfl ?_
  refine g_iconst (pc := 9) (v := 0) C dX1_read_9 (by decide) ?_
  refine g_aload_n (pc := 10) C dX1_read_10 rfl 0 rfl ?_
  refine g_get (pc := 11) C fl_X1_9 dX1_read_11 0 rfl rfl ?_
  refine g_iconst (pc := 14) (v := 0) C dX1_read_14 (by decide) ?_
  refine g_bipush (pc := 15) (v := 6) C dX1_read_15 (by decide) ?_
  refine g_copy (pc := 17) C ml_X1_29 mnat_copy ms_copy mini_System (Nat.le_of_ble_eq_true rfl) dX1_read_17 2 1 rfl rfl h (fun g2 h => ?_)
  refine g_ws (ws' := (W_X1_read E o_t r_t_script a_t r_t_script r_script_tape r_script_tape a_script_tape g2 u1.1 u1.2.1 script_end u1.2.2.1 u1.2.2.2 script_tape_size script_tape_bytes)) rfl ?_
  cases h
  exact hret _ _ _ dX1_read_20 rfl
