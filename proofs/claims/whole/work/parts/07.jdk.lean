theorem nb0 : narrow .boolean (.int 0) = .int 0 := by decide
theorem nb1 : narrow .boolean (.int 1) = .int 1 := by decide
abbrev W_J6_bitCount_0f7a4 (E : GE) : va_W := []
def f_J6_bitCount_0f7a4 (x0 : Int32) : Option (Int32) := nm (x0 - (((x0).toUInt32 >>> (((1 : Int32)).toUInt32 &&& Int32.toUInt32 31)).toInt32 &&& (1431655765 : Int32))) fun v1 => nm ((v1 &&& (858993459 : Int32)) + (((v1).toUInt32 >>> (((2 : Int32)).toUInt32 &&& Int32.toUInt32 31)).toInt32 &&& (858993459 : Int32))) fun v2 => nm ((v2 + ((v2).toUInt32 >>> (((4 : Int32)).toUInt32 &&& Int32.toUInt32 31)).toInt32) &&& (252645135 : Int32)) fun v3 => nm (v3 + ((v3).toUInt32 >>> (((8 : Int32)).toUInt32 &&& Int32.toUInt32 31)).toInt32) fun v4 => nm (v4 + ((v4).toUInt32 >>> (((16 : Int32)).toUInt32 &&& Int32.toUInt32 31)).toInt32) fun v5 => some (v5 &&& (63 : Int32))
theorem dJ6_bitCount_0f7a4_0 : decode cJ6_bitCount_0f7a4 0 = .ok (.iload_n 0, 1) := by decide +kernel
theorem dJ6_bitCount_0f7a4_1 : decode cJ6_bitCount_0f7a4 1 = .ok (.iload_n 0, 1) := by decide +kernel
theorem dJ6_bitCount_0f7a4_2 : decode cJ6_bitCount_0f7a4 2 = .ok (.iconst 1, 1) := by decide +kernel
theorem dJ6_bitCount_0f7a4_3 : decode cJ6_bitCount_0f7a4 3 = .ok (.iushr, 1) := by decide +kernel
theorem dJ6_bitCount_0f7a4_4 : decode cJ6_bitCount_0f7a4 4 = .ok (.ldc_w 265, 3) := by decide +kernel
theorem dJ6_bitCount_0f7a4_7 : decode cJ6_bitCount_0f7a4 7 = .ok (.iand, 1) := by decide +kernel
theorem dJ6_bitCount_0f7a4_8 : decode cJ6_bitCount_0f7a4 8 = .ok (.isub, 1) := by decide +kernel
theorem dJ6_bitCount_0f7a4_9 : decode cJ6_bitCount_0f7a4 9 = .ok (.istore_n 0, 1) := by decide +kernel
theorem dJ6_bitCount_0f7a4_10 : decode cJ6_bitCount_0f7a4 10 = .ok (.iload_n 0, 1) := by decide +kernel
theorem dJ6_bitCount_0f7a4_11 : decode cJ6_bitCount_0f7a4 11 = .ok (.ldc_w 266, 3) := by decide +kernel
theorem dJ6_bitCount_0f7a4_14 : decode cJ6_bitCount_0f7a4 14 = .ok (.iand, 1) := by decide +kernel
theorem dJ6_bitCount_0f7a4_15 : decode cJ6_bitCount_0f7a4 15 = .ok (.iload_n 0, 1) := by decide +kernel
theorem dJ6_bitCount_0f7a4_16 : decode cJ6_bitCount_0f7a4 16 = .ok (.iconst 2, 1) := by decide +kernel
theorem dJ6_bitCount_0f7a4_17 : decode cJ6_bitCount_0f7a4 17 = .ok (.iushr, 1) := by decide +kernel
theorem dJ6_bitCount_0f7a4_18 : decode cJ6_bitCount_0f7a4 18 = .ok (.ldc_w 266, 3) := by decide +kernel
theorem dJ6_bitCount_0f7a4_21 : decode cJ6_bitCount_0f7a4 21 = .ok (.iand, 1) := by decide +kernel
theorem dJ6_bitCount_0f7a4_22 : decode cJ6_bitCount_0f7a4 22 = .ok (.iadd, 1) := by decide +kernel
theorem dJ6_bitCount_0f7a4_23 : decode cJ6_bitCount_0f7a4 23 = .ok (.istore_n 0, 1) := by decide +kernel
theorem dJ6_bitCount_0f7a4_24 : decode cJ6_bitCount_0f7a4 24 = .ok (.iload_n 0, 1) := by decide +kernel
theorem dJ6_bitCount_0f7a4_25 : decode cJ6_bitCount_0f7a4 25 = .ok (.iload_n 0, 1) := by decide +kernel
theorem dJ6_bitCount_0f7a4_26 : decode cJ6_bitCount_0f7a4 26 = .ok (.iconst 4, 1) := by decide +kernel
theorem dJ6_bitCount_0f7a4_27 : decode cJ6_bitCount_0f7a4 27 = .ok (.iushr, 1) := by decide +kernel
theorem dJ6_bitCount_0f7a4_28 : decode cJ6_bitCount_0f7a4 28 = .ok (.iadd, 1) := by decide +kernel
theorem dJ6_bitCount_0f7a4_29 : decode cJ6_bitCount_0f7a4 29 = .ok (.ldc_w 267, 3) := by decide +kernel
theorem dJ6_bitCount_0f7a4_32 : decode cJ6_bitCount_0f7a4 32 = .ok (.iand, 1) := by decide +kernel
theorem dJ6_bitCount_0f7a4_33 : decode cJ6_bitCount_0f7a4 33 = .ok (.istore_n 0, 1) := by decide +kernel
theorem dJ6_bitCount_0f7a4_34 : decode cJ6_bitCount_0f7a4 34 = .ok (.iload_n 0, 1) := by decide +kernel
theorem dJ6_bitCount_0f7a4_35 : decode cJ6_bitCount_0f7a4 35 = .ok (.iload_n 0, 1) := by decide +kernel
theorem dJ6_bitCount_0f7a4_36 : decode cJ6_bitCount_0f7a4 36 = .ok (.bipush 8, 2) := by decide +kernel
theorem dJ6_bitCount_0f7a4_38 : decode cJ6_bitCount_0f7a4 38 = .ok (.iushr, 1) := by decide +kernel
theorem dJ6_bitCount_0f7a4_39 : decode cJ6_bitCount_0f7a4 39 = .ok (.iadd, 1) := by decide +kernel
theorem dJ6_bitCount_0f7a4_40 : decode cJ6_bitCount_0f7a4 40 = .ok (.istore_n 0, 1) := by decide +kernel
theorem dJ6_bitCount_0f7a4_41 : decode cJ6_bitCount_0f7a4 41 = .ok (.iload_n 0, 1) := by decide +kernel
theorem dJ6_bitCount_0f7a4_42 : decode cJ6_bitCount_0f7a4 42 = .ok (.iload_n 0, 1) := by decide +kernel
theorem dJ6_bitCount_0f7a4_43 : decode cJ6_bitCount_0f7a4 43 = .ok (.bipush 16, 2) := by decide +kernel
theorem dJ6_bitCount_0f7a4_45 : decode cJ6_bitCount_0f7a4 45 = .ok (.iushr, 1) := by decide +kernel
theorem dJ6_bitCount_0f7a4_46 : decode cJ6_bitCount_0f7a4 46 = .ok (.iadd, 1) := by decide +kernel
theorem dJ6_bitCount_0f7a4_47 : decode cJ6_bitCount_0f7a4 47 = .ok (.istore_n 0, 1) := by decide +kernel
theorem dJ6_bitCount_0f7a4_48 : decode cJ6_bitCount_0f7a4 48 = .ok (.iload_n 0, 1) := by decide +kernel
theorem dJ6_bitCount_0f7a4_49 : decode cJ6_bitCount_0f7a4 49 = .ok (.bipush 63, 2) := by decide +kernel
theorem dJ6_bitCount_0f7a4_51 : decode cJ6_bitCount_0f7a4 51 = .ok (.iand, 1) := by decide +kernel
theorem dJ6_bitCount_0f7a4_52 : decode cJ6_bitCount_0f7a4 52 = .ok (.ireturn, 1) := by decide +kernel
set_option maxHeartbeats 4000000 in
set_option maxRecDepth 100000 in
theorem c_J6_bitCount_0f7a4 (l : Launch) (E : GE) (x0 : Int32) (r : Int32) (h : f_J6_bitCount_0f7a4 x0 = some r) : Cn l E yJ6_bitCount_0f7a4 cJ6_bitCount_0f7a4 1 (some .int) 1 0 0 [.int x0] (W_J6_bitCount_0f7a4 E) (fun w => w = (W_J6_bitCount_0f7a4 E)) (some (.int r)) := by
  refine Cn.ofI (by decide +kernel) (Nat.le_of_ble_eq_true rfl) (fun X hX hR C hret => ?_)
  subst hX
  show Gx X E 0 0 (W_J6_bitCount_0f7a4 E) 0 [(0, .int x0)] []
  unfold f_J6_bitCount_0f7a4 at h
  refine g_iload_n (pc := 0) C dJ6_bitCount_0f7a4_0 rfl 0 rfl ?_
  refine g_iload_n (pc := 1) C dJ6_bitCount_0f7a4_1 rfl 0 rfl ?_
  refine g_iconst (pc := 2) (v := 1) C dJ6_bitCount_0f7a4_2 (by decide) ?_
  refine g_iushr (pc := 3) C dJ6_bitCount_0f7a4_3 ?_
  refine g_ldcw (pc := 4) C dJ6_bitCount_0f7a4_4 ct_J6_265 ?_
  refine g_iand (pc := 7) C dJ6_bitCount_0f7a4_7 ?_
  refine g_isub (pc := 8) C dJ6_bitCount_0f7a4_8 ?_
  refine g_nm h (fun v1 h => ?_)
  refine g_istore_n (pc := 9) (lv' := [(0, .int v1)]) C dJ6_bitCount_0f7a4_9 rfl (by decide) rfl ?_
  refine g_iload_n (pc := 10) C dJ6_bitCount_0f7a4_10 rfl 0 rfl ?_
  refine g_ldcw (pc := 11) C dJ6_bitCount_0f7a4_11 ct_J6_266 ?_
  refine g_iand (pc := 14) C dJ6_bitCount_0f7a4_14 ?_
  refine g_iload_n (pc := 15) C dJ6_bitCount_0f7a4_15 rfl 0 rfl ?_
  refine g_iconst (pc := 16) (v := 2) C dJ6_bitCount_0f7a4_16 (by decide) ?_
  refine g_iushr (pc := 17) C dJ6_bitCount_0f7a4_17 ?_
  refine g_ldcw (pc := 18) C dJ6_bitCount_0f7a4_18 ct_J6_266 ?_
  refine g_iand (pc := 21) C dJ6_bitCount_0f7a4_21 ?_
  refine g_iadd (pc := 22) C dJ6_bitCount_0f7a4_22 ?_
  refine g_nm h (fun v2 h => ?_)
  refine g_istore_n (pc := 23) (lv' := [(0, .int v2)]) C dJ6_bitCount_0f7a4_23 rfl (by decide) rfl ?_
  refine g_iload_n (pc := 24) C dJ6_bitCount_0f7a4_24 rfl 0 rfl ?_
  refine g_iload_n (pc := 25) C dJ6_bitCount_0f7a4_25 rfl 0 rfl ?_
  refine g_iconst (pc := 26) (v := 4) C dJ6_bitCount_0f7a4_26 (by decide) ?_
  refine g_iushr (pc := 27) C dJ6_bitCount_0f7a4_27 ?_
  refine g_iadd (pc := 28) C dJ6_bitCount_0f7a4_28 ?_
  refine g_ldcw (pc := 29) C dJ6_bitCount_0f7a4_29 ct_J6_267 ?_
  refine g_iand (pc := 32) C dJ6_bitCount_0f7a4_32 ?_
  refine g_nm h (fun v3 h => ?_)
  refine g_istore_n (pc := 33) (lv' := [(0, .int v3)]) C dJ6_bitCount_0f7a4_33 rfl (by decide) rfl ?_
  refine g_iload_n (pc := 34) C dJ6_bitCount_0f7a4_34 rfl 0 rfl ?_
  refine g_iload_n (pc := 35) C dJ6_bitCount_0f7a4_35 rfl 0 rfl ?_
  refine g_bipush (pc := 36) (v := 8) C dJ6_bitCount_0f7a4_36 (by decide) ?_
  refine g_iushr (pc := 38) C dJ6_bitCount_0f7a4_38 ?_
  refine g_iadd (pc := 39) C dJ6_bitCount_0f7a4_39 ?_
  refine g_nm h (fun v4 h => ?_)
  refine g_istore_n (pc := 40) (lv' := [(0, .int v4)]) C dJ6_bitCount_0f7a4_40 rfl (by decide) rfl ?_
  refine g_iload_n (pc := 41) C dJ6_bitCount_0f7a4_41 rfl 0 rfl ?_
  refine g_iload_n (pc := 42) C dJ6_bitCount_0f7a4_42 rfl 0 rfl ?_
  refine g_bipush (pc := 43) (v := 16) C dJ6_bitCount_0f7a4_43 (by decide) ?_
  refine g_iushr (pc := 45) C dJ6_bitCount_0f7a4_45 ?_
  refine g_iadd (pc := 46) C dJ6_bitCount_0f7a4_46 ?_
  refine g_nm h (fun v5 h => ?_)
  refine g_istore_n (pc := 47) (lv' := [(0, .int v5)]) C dJ6_bitCount_0f7a4_47 rfl (by decide) rfl ?_
  refine g_iload_n (pc := 48) C dJ6_bitCount_0f7a4_48 rfl 0 rfl ?_
  refine g_bipush (pc := 49) (v := 63) C dJ6_bitCount_0f7a4_49 (by decide) ?_
  refine g_iand (pc := 51) C dJ6_bitCount_0f7a4_51 ?_
  cases h
  exact hret _ _ _ dJ6_bitCount_0f7a4_52 rfl rfl
abbrev W_J6_numberOfTrailingZeros_0f7a4 (E : GE) : va_W := []
def f_J6_numberOfTrailingZeros_0f7a4 (x0 : Int32) : Option (Int32) := nm ((x0 ^^^ (-1 : Int32)) &&& (x0 - (1 : Int32))) fun v1 => if 0 < v1 then (jn (fun s2 : Int32 × Int32 => jn (fun s3 : Int32 × Int32 => jn (fun s4 : Int32 × Int32 => if s4.1 ≤ (4 : Int32) then (some (s4.2 + ((s4.1).toUInt32 >>> (((1 : Int32)).toUInt32 &&& Int32.toUInt32 31)).toInt32)) else nm (s4.2 + (2 : Int32)) fun v5 => nm ((s4.1).toUInt32 >>> (((2 : Int32)).toUInt32 &&& Int32.toUInt32 31)).toInt32 fun v6 => some (v5 + ((v6).toUInt32 >>> (((1 : Int32)).toUInt32 &&& Int32.toUInt32 31)).toInt32)) fun j62 => if s3.1 ≤ (16 : Int32) then (j62 (s3.1, s3.2)) else nm (s3.2 + (4 : Int32)) fun v7 => nm ((s3.1).toUInt32 >>> (((4 : Int32)).toUInt32 &&& Int32.toUInt32 31)).toInt32 fun v8 => j62 (v8, v7)) fun j49 => if s2.1 ≤ (256 : Int32) then (j49 (s2.1, s2.2)) else nm (s2.2 + (8 : Int32)) fun v9 => nm ((s2.1).toUInt32 >>> (((8 : Int32)).toUInt32 &&& Int32.toUInt32 31)).toInt32 fun v10 => j49 (v10, v9)) fun j34 => if v1 ≤ (65536 : Int32) then (j34 (v1, (1 : Int32))) else nm ((1 : Int32) + (16 : Int32)) fun v11 => nm ((v1).toUInt32 >>> (((16 : Int32)).toUInt32 &&& Int32.toUInt32 31)).toInt32 fun v12 => j34 (v12, v11)) else some (v1 &&& (32 : Int32))
theorem dJ6_numberOfTrailingZeros_0f7a4_0 : decode cJ6_numberOfTrailingZeros_0f7a4 0 = .ok (.iload_n 0, 1) := by decide +kernel
theorem dJ6_numberOfTrailingZeros_0f7a4_1 : decode cJ6_numberOfTrailingZeros_0f7a4 1 = .ok (.iconst (-1), 1) := by decide +kernel
theorem dJ6_numberOfTrailingZeros_0f7a4_2 : decode cJ6_numberOfTrailingZeros_0f7a4 2 = .ok (.ixor, 1) := by decide +kernel
theorem dJ6_numberOfTrailingZeros_0f7a4_3 : decode cJ6_numberOfTrailingZeros_0f7a4 3 = .ok (.iload_n 0, 1) := by decide +kernel
theorem dJ6_numberOfTrailingZeros_0f7a4_4 : decode cJ6_numberOfTrailingZeros_0f7a4 4 = .ok (.iconst 1, 1) := by decide +kernel
theorem dJ6_numberOfTrailingZeros_0f7a4_5 : decode cJ6_numberOfTrailingZeros_0f7a4 5 = .ok (.isub, 1) := by decide +kernel
theorem dJ6_numberOfTrailingZeros_0f7a4_6 : decode cJ6_numberOfTrailingZeros_0f7a4 6 = .ok (.iand, 1) := by decide +kernel
theorem dJ6_numberOfTrailingZeros_0f7a4_7 : decode cJ6_numberOfTrailingZeros_0f7a4 7 = .ok (.istore_n 0, 1) := by decide +kernel
theorem dJ6_numberOfTrailingZeros_0f7a4_8 : decode cJ6_numberOfTrailingZeros_0f7a4 8 = .ok (.iload_n 0, 1) := by decide +kernel
theorem dJ6_numberOfTrailingZeros_0f7a4_9 : decode cJ6_numberOfTrailingZeros_0f7a4 9 = .ok (.ifCond .gt 8, 3) := by decide +kernel
theorem dJ6_numberOfTrailingZeros_0f7a4_12 : decode cJ6_numberOfTrailingZeros_0f7a4 12 = .ok (.iload_n 0, 1) := by decide +kernel
theorem dJ6_numberOfTrailingZeros_0f7a4_13 : decode cJ6_numberOfTrailingZeros_0f7a4 13 = .ok (.bipush 32, 2) := by decide +kernel
theorem dJ6_numberOfTrailingZeros_0f7a4_15 : decode cJ6_numberOfTrailingZeros_0f7a4 15 = .ok (.iand, 1) := by decide +kernel
theorem dJ6_numberOfTrailingZeros_0f7a4_16 : decode cJ6_numberOfTrailingZeros_0f7a4 16 = .ok (.ireturn, 1) := by decide +kernel
theorem dJ6_numberOfTrailingZeros_0f7a4_17 : decode cJ6_numberOfTrailingZeros_0f7a4 17 = .ok (.iconst 1, 1) := by decide +kernel
theorem dJ6_numberOfTrailingZeros_0f7a4_18 : decode cJ6_numberOfTrailingZeros_0f7a4 18 = .ok (.istore_n 1, 1) := by decide +kernel
theorem dJ6_numberOfTrailingZeros_0f7a4_19 : decode cJ6_numberOfTrailingZeros_0f7a4 19 = .ok (.iload_n 0, 1) := by decide +kernel
theorem dJ6_numberOfTrailingZeros_0f7a4_20 : decode cJ6_numberOfTrailingZeros_0f7a4 20 = .ok (.ldc_w 264, 3) := by decide +kernel
theorem dJ6_numberOfTrailingZeros_0f7a4_23 : decode cJ6_numberOfTrailingZeros_0f7a4 23 = .ok (.if_icmp .le 11, 3) := by decide +kernel
theorem dJ6_numberOfTrailingZeros_0f7a4_26 : decode cJ6_numberOfTrailingZeros_0f7a4 26 = .ok (.iinc 1 16, 3) := by decide +kernel
theorem dJ6_numberOfTrailingZeros_0f7a4_29 : decode cJ6_numberOfTrailingZeros_0f7a4 29 = .ok (.iload_n 0, 1) := by decide +kernel
theorem dJ6_numberOfTrailingZeros_0f7a4_30 : decode cJ6_numberOfTrailingZeros_0f7a4 30 = .ok (.bipush 16, 2) := by decide +kernel
theorem dJ6_numberOfTrailingZeros_0f7a4_32 : decode cJ6_numberOfTrailingZeros_0f7a4 32 = .ok (.iushr, 1) := by decide +kernel
theorem dJ6_numberOfTrailingZeros_0f7a4_33 : decode cJ6_numberOfTrailingZeros_0f7a4 33 = .ok (.istore_n 0, 1) := by decide +kernel
theorem dJ6_numberOfTrailingZeros_0f7a4_34 : decode cJ6_numberOfTrailingZeros_0f7a4 34 = .ok (.iload_n 0, 1) := by decide +kernel
theorem dJ6_numberOfTrailingZeros_0f7a4_35 : decode cJ6_numberOfTrailingZeros_0f7a4 35 = .ok (.sipush 256, 3) := by decide +kernel
theorem dJ6_numberOfTrailingZeros_0f7a4_38 : decode cJ6_numberOfTrailingZeros_0f7a4 38 = .ok (.if_icmp .le 11, 3) := by decide +kernel
theorem dJ6_numberOfTrailingZeros_0f7a4_41 : decode cJ6_numberOfTrailingZeros_0f7a4 41 = .ok (.iinc 1 8, 3) := by decide +kernel
theorem dJ6_numberOfTrailingZeros_0f7a4_44 : decode cJ6_numberOfTrailingZeros_0f7a4 44 = .ok (.iload_n 0, 1) := by decide +kernel
theorem dJ6_numberOfTrailingZeros_0f7a4_45 : decode cJ6_numberOfTrailingZeros_0f7a4 45 = .ok (.bipush 8, 2) := by decide +kernel
theorem dJ6_numberOfTrailingZeros_0f7a4_47 : decode cJ6_numberOfTrailingZeros_0f7a4 47 = .ok (.iushr, 1) := by decide +kernel
theorem dJ6_numberOfTrailingZeros_0f7a4_48 : decode cJ6_numberOfTrailingZeros_0f7a4 48 = .ok (.istore_n 0, 1) := by decide +kernel
theorem dJ6_numberOfTrailingZeros_0f7a4_49 : decode cJ6_numberOfTrailingZeros_0f7a4 49 = .ok (.iload_n 0, 1) := by decide +kernel
theorem dJ6_numberOfTrailingZeros_0f7a4_50 : decode cJ6_numberOfTrailingZeros_0f7a4 50 = .ok (.bipush 16, 2) := by decide +kernel
theorem dJ6_numberOfTrailingZeros_0f7a4_52 : decode cJ6_numberOfTrailingZeros_0f7a4 52 = .ok (.if_icmp .le 10, 3) := by decide +kernel
theorem dJ6_numberOfTrailingZeros_0f7a4_55 : decode cJ6_numberOfTrailingZeros_0f7a4 55 = .ok (.iinc 1 4, 3) := by decide +kernel
theorem dJ6_numberOfTrailingZeros_0f7a4_58 : decode cJ6_numberOfTrailingZeros_0f7a4 58 = .ok (.iload_n 0, 1) := by decide +kernel
theorem dJ6_numberOfTrailingZeros_0f7a4_59 : decode cJ6_numberOfTrailingZeros_0f7a4 59 = .ok (.iconst 4, 1) := by decide +kernel
theorem dJ6_numberOfTrailingZeros_0f7a4_60 : decode cJ6_numberOfTrailingZeros_0f7a4 60 = .ok (.iushr, 1) := by decide +kernel
theorem dJ6_numberOfTrailingZeros_0f7a4_61 : decode cJ6_numberOfTrailingZeros_0f7a4 61 = .ok (.istore_n 0, 1) := by decide +kernel
theorem dJ6_numberOfTrailingZeros_0f7a4_62 : decode cJ6_numberOfTrailingZeros_0f7a4 62 = .ok (.iload_n 0, 1) := by decide +kernel
theorem dJ6_numberOfTrailingZeros_0f7a4_63 : decode cJ6_numberOfTrailingZeros_0f7a4 63 = .ok (.iconst 4, 1) := by decide +kernel
theorem dJ6_numberOfTrailingZeros_0f7a4_64 : decode cJ6_numberOfTrailingZeros_0f7a4 64 = .ok (.if_icmp .le 10, 3) := by decide +kernel
theorem dJ6_numberOfTrailingZeros_0f7a4_67 : decode cJ6_numberOfTrailingZeros_0f7a4 67 = .ok (.iinc 1 2, 3) := by decide +kernel
theorem dJ6_numberOfTrailingZeros_0f7a4_70 : decode cJ6_numberOfTrailingZeros_0f7a4 70 = .ok (.iload_n 0, 1) := by decide +kernel
theorem dJ6_numberOfTrailingZeros_0f7a4_71 : decode cJ6_numberOfTrailingZeros_0f7a4 71 = .ok (.iconst 2, 1) := by decide +kernel
theorem dJ6_numberOfTrailingZeros_0f7a4_72 : decode cJ6_numberOfTrailingZeros_0f7a4 72 = .ok (.iushr, 1) := by decide +kernel
theorem dJ6_numberOfTrailingZeros_0f7a4_73 : decode cJ6_numberOfTrailingZeros_0f7a4 73 = .ok (.istore_n 0, 1) := by decide +kernel
theorem dJ6_numberOfTrailingZeros_0f7a4_74 : decode cJ6_numberOfTrailingZeros_0f7a4 74 = .ok (.iload_n 1, 1) := by decide +kernel
theorem dJ6_numberOfTrailingZeros_0f7a4_75 : decode cJ6_numberOfTrailingZeros_0f7a4 75 = .ok (.iload_n 0, 1) := by decide +kernel
theorem dJ6_numberOfTrailingZeros_0f7a4_76 : decode cJ6_numberOfTrailingZeros_0f7a4 76 = .ok (.iconst 1, 1) := by decide +kernel
theorem dJ6_numberOfTrailingZeros_0f7a4_77 : decode cJ6_numberOfTrailingZeros_0f7a4 77 = .ok (.iushr, 1) := by decide +kernel
theorem dJ6_numberOfTrailingZeros_0f7a4_78 : decode cJ6_numberOfTrailingZeros_0f7a4 78 = .ok (.iadd, 1) := by decide +kernel
theorem dJ6_numberOfTrailingZeros_0f7a4_79 : decode cJ6_numberOfTrailingZeros_0f7a4 79 = .ok (.ireturn, 1) := by decide +kernel
set_option maxHeartbeats 4000000 in
set_option maxRecDepth 100000 in
theorem c_J6_numberOfTrailingZeros_0f7a4 (l : Launch) (E : GE) (x0 : Int32) (r : Int32) (h : f_J6_numberOfTrailingZeros_0f7a4 x0 = some r) : Cn l E yJ6_numberOfTrailingZeros_0f7a4 cJ6_numberOfTrailingZeros_0f7a4 2 (some .int) 1 0 0 [.int x0] (W_J6_numberOfTrailingZeros_0f7a4 E) (fun w => w = (W_J6_numberOfTrailingZeros_0f7a4 E)) (some (.int r)) := by
  refine Cn.ofI (by decide +kernel) (Nat.le_of_ble_eq_true rfl) (fun X hX hR C hret => ?_)
  subst hX
  show Gx X E 0 0 (W_J6_numberOfTrailingZeros_0f7a4 E) 0 [(0, .int x0)] []
  unfold f_J6_numberOfTrailingZeros_0f7a4 at h
  refine g_iload_n (pc := 0) C dJ6_numberOfTrailingZeros_0f7a4_0 rfl 0 rfl ?_
  refine g_iconst (pc := 1) (v := -1) C dJ6_numberOfTrailingZeros_0f7a4_1 (by decide) ?_
  refine g_ixor (pc := 2) C dJ6_numberOfTrailingZeros_0f7a4_2 ?_
  refine g_iload_n (pc := 3) C dJ6_numberOfTrailingZeros_0f7a4_3 rfl 0 rfl ?_
  refine g_iconst (pc := 4) (v := 1) C dJ6_numberOfTrailingZeros_0f7a4_4 (by decide) ?_
  refine g_isub (pc := 5) C dJ6_numberOfTrailingZeros_0f7a4_5 ?_
  refine g_iand (pc := 6) C dJ6_numberOfTrailingZeros_0f7a4_6 ?_
  refine g_nm h (fun v1 h => ?_)
  refine g_istore_n (pc := 7) (lv' := [(0, .int v1)]) C dJ6_numberOfTrailingZeros_0f7a4_7 rfl (by decide) rfl ?_
  refine g_iload_n (pc := 8) C dJ6_numberOfTrailingZeros_0f7a4_8 rfl 0 rfl ?_
  refine g_if_gt (pc := 9) (tgt := 17) C dJ6_numberOfTrailingZeros_0f7a4_9 (by decide) h (fun h => ?_) (fun h => ?_)
  · refine g_iconst (pc := 17) (v := 1) C dJ6_numberOfTrailingZeros_0f7a4_17 (by decide) ?_
    refine g_istore_n (pc := 18) (lv' := [(1, .int (1 : Int32)), (0, .int v1)]) C dJ6_numberOfTrailingZeros_0f7a4_18 rfl (by decide) rfl ?_
    refine g_iload_n (pc := 19) C dJ6_numberOfTrailingZeros_0f7a4_19 rfl 1 rfl ?_
    refine g_ldcw (pc := 20) C dJ6_numberOfTrailingZeros_0f7a4_20 ct_J6_264 ?_
    refine g_jn (fun s2 : Int32 × Int32 => Gx X E 0 0 (W_J6_numberOfTrailingZeros_0f7a4 E) 34 [(0, .int s2.1), (1, .int s2.2)] []) h (fun s2 h => ?_) (fun j34 hj34 h => ?_)
    · refine g_iload_n (pc := 34) C dJ6_numberOfTrailingZeros_0f7a4_34 rfl 0 rfl ?_
      refine g_sipush (pc := 35) (v := 256) C dJ6_numberOfTrailingZeros_0f7a4_35 (by decide) ?_
      refine g_jn (fun s3 : Int32 × Int32 => Gx X E 0 0 (W_J6_numberOfTrailingZeros_0f7a4 E) 49 [(0, .int s3.1), (1, .int s3.2)] []) h (fun s3 h => ?_) (fun j49 hj49 h => ?_)
      · refine g_iload_n (pc := 49) C dJ6_numberOfTrailingZeros_0f7a4_49 rfl 0 rfl ?_
        refine g_bipush (pc := 50) (v := 16) C dJ6_numberOfTrailingZeros_0f7a4_50 (by decide) ?_
        refine g_jn (fun s4 : Int32 × Int32 => Gx X E 0 0 (W_J6_numberOfTrailingZeros_0f7a4 E) 62 [(0, .int s4.1), (1, .int s4.2)] []) h (fun s4 h => ?_) (fun j62 hj62 h => ?_)
        · refine g_iload_n (pc := 62) C dJ6_numberOfTrailingZeros_0f7a4_62 rfl 0 rfl ?_
          refine g_iconst (pc := 63) (v := 4) C dJ6_numberOfTrailingZeros_0f7a4_63 (by decide) ?_
          refine g_icmp_le (pc := 64) (tgt := 74) C dJ6_numberOfTrailingZeros_0f7a4_64 (by decide) h (fun h => ?_) (fun h => ?_)
          · refine g_iload_n (pc := 74) C dJ6_numberOfTrailingZeros_0f7a4_74 rfl 1 rfl ?_
            refine g_iload_n (pc := 75) C dJ6_numberOfTrailingZeros_0f7a4_75 rfl 0 rfl ?_
            refine g_iconst (pc := 76) (v := 1) C dJ6_numberOfTrailingZeros_0f7a4_76 (by decide) ?_
            refine g_iushr (pc := 77) C dJ6_numberOfTrailingZeros_0f7a4_77 ?_
            refine g_iadd (pc := 78) C dJ6_numberOfTrailingZeros_0f7a4_78 ?_
            cases h
            exact hret _ _ _ dJ6_numberOfTrailingZeros_0f7a4_79 rfl rfl
          · refine g_iincn (pc := 67) (j := 1) (d := 2) (lv' := fun v5 => [(1, .int v5), (0, .int s4.1)]) C dJ6_numberOfTrailingZeros_0f7a4_67 rfl (by decide) (by decide) (fun _ => rfl) h (fun v5 h => ?_)
            refine g_iload_n (pc := 70) C dJ6_numberOfTrailingZeros_0f7a4_70 rfl 1 rfl ?_
            refine g_iconst (pc := 71) (v := 2) C dJ6_numberOfTrailingZeros_0f7a4_71 (by decide) ?_
            refine g_iushr (pc := 72) C dJ6_numberOfTrailingZeros_0f7a4_72 ?_
            refine g_nm h (fun v6 h => ?_)
            refine g_istore_n (pc := 73) (lv' := [(0, .int v6), (1, .int v5)]) C dJ6_numberOfTrailingZeros_0f7a4_73 rfl (by decide) rfl ?_
            refine g_iload_n (pc := 74) C dJ6_numberOfTrailingZeros_0f7a4_74 rfl 1 rfl ?_
            refine g_iload_n (pc := 75) C dJ6_numberOfTrailingZeros_0f7a4_75 rfl 0 rfl ?_
            refine g_iconst (pc := 76) (v := 1) C dJ6_numberOfTrailingZeros_0f7a4_76 (by decide) ?_
            refine g_iushr (pc := 77) C dJ6_numberOfTrailingZeros_0f7a4_77 ?_
            refine g_iadd (pc := 78) C dJ6_numberOfTrailingZeros_0f7a4_78 ?_
            cases h
            exact hret _ _ _ dJ6_numberOfTrailingZeros_0f7a4_79 rfl rfl
        refine g_icmp_le (pc := 52) (tgt := 62) C dJ6_numberOfTrailingZeros_0f7a4_52 (by decide) h (fun h => ?_) (fun h => ?_)
        · exact hj62 _ h
        · refine g_iincn (pc := 55) (j := 1) (d := 4) (lv' := fun v7 => [(1, .int v7), (0, .int s3.1)]) C dJ6_numberOfTrailingZeros_0f7a4_55 rfl (by decide) (by decide) (fun _ => rfl) h (fun v7 h => ?_)
          refine g_iload_n (pc := 58) C dJ6_numberOfTrailingZeros_0f7a4_58 rfl 1 rfl ?_
          refine g_iconst (pc := 59) (v := 4) C dJ6_numberOfTrailingZeros_0f7a4_59 (by decide) ?_
          refine g_iushr (pc := 60) C dJ6_numberOfTrailingZeros_0f7a4_60 ?_
          refine g_nm h (fun v8 h => ?_)
          refine g_istore_n (pc := 61) (lv' := [(0, .int v8), (1, .int v7)]) C dJ6_numberOfTrailingZeros_0f7a4_61 rfl (by decide) rfl ?_
          exact hj62 _ h
      refine g_icmp_le (pc := 38) (tgt := 49) C dJ6_numberOfTrailingZeros_0f7a4_38 (by decide) h (fun h => ?_) (fun h => ?_)
      · exact hj49 _ h
      · refine g_iincn (pc := 41) (j := 1) (d := 8) (lv' := fun v9 => [(1, .int v9), (0, .int s2.1)]) C dJ6_numberOfTrailingZeros_0f7a4_41 rfl (by decide) (by decide) (fun _ => rfl) h (fun v9 h => ?_)
        refine g_iload_n (pc := 44) C dJ6_numberOfTrailingZeros_0f7a4_44 rfl 1 rfl ?_
        refine g_bipush (pc := 45) (v := 8) C dJ6_numberOfTrailingZeros_0f7a4_45 (by decide) ?_
        refine g_iushr (pc := 47) C dJ6_numberOfTrailingZeros_0f7a4_47 ?_
        refine g_nm h (fun v10 h => ?_)
        refine g_istore_n (pc := 48) (lv' := [(0, .int v10), (1, .int v9)]) C dJ6_numberOfTrailingZeros_0f7a4_48 rfl (by decide) rfl ?_
        exact hj49 _ h
    refine g_icmp_le (pc := 23) (tgt := 34) C dJ6_numberOfTrailingZeros_0f7a4_23 (by decide) h (fun h => ?_) (fun h => ?_)
    · refine g_sub [1, 0] rfl ?_
      exact hj34 _ h
    · refine g_iincn (pc := 26) (j := 0) (d := 16) (lv' := fun v11 => [(1, .int v11), (0, .int v1)]) C dJ6_numberOfTrailingZeros_0f7a4_26 rfl (by decide) (by decide) (fun _ => rfl) h (fun v11 h => ?_)
      refine g_iload_n (pc := 29) C dJ6_numberOfTrailingZeros_0f7a4_29 rfl 1 rfl ?_
      refine g_bipush (pc := 30) (v := 16) C dJ6_numberOfTrailingZeros_0f7a4_30 (by decide) ?_
      refine g_iushr (pc := 32) C dJ6_numberOfTrailingZeros_0f7a4_32 ?_
      refine g_nm h (fun v12 h => ?_)
      refine g_istore_n (pc := 33) (lv' := [(0, .int v12), (1, .int v11)]) C dJ6_numberOfTrailingZeros_0f7a4_33 rfl (by decide) rfl ?_
      exact hj34 _ h
  · refine g_iload_n (pc := 12) C dJ6_numberOfTrailingZeros_0f7a4_12 rfl 0 rfl ?_
    refine g_bipush (pc := 13) (v := 32) C dJ6_numberOfTrailingZeros_0f7a4_13 (by decide) ?_
    refine g_iand (pc := 15) C dJ6_numberOfTrailingZeros_0f7a4_15 ?_
    cases h
    exact hret _ _ _ dJ6_numberOfTrailingZeros_0f7a4_16 rfl rfl
abbrev W_J7_fill_53178 (E : GE) (q0 : Nat) (n0 : Nat) (f0 : (Nat → Int32)) : va_W := [(q0, .inl (E.2.1, n0, .inl f0))]
def L_J7_fill_53178_5 (n0 : Nat) (x1 : Int32) (x3 : Int32) : Nat → Int32 × (Nat → Int32) → Option ((Nat → Int32)) := lp fun go s => if x3 ≤ s.1 then (some s.2) else wr s.2 n0 s.1 x1 fun g2 => nm (s.1 + (1 : Int32)) fun v3 => go (v3, g2)
def f_J7_fill_53178 (n0 : Nat) (f0 : (Nat → Int32)) (x1 : Int32) : Option ((Nat → Int32)) := nm (Int32.ofNat n0) fun v1 => L_J7_fill_53178_5 n0 x1 v1 fu ((0 : Int32), f0)
theorem dJ7_fill_53178_0 : decode cJ7_fill_53178 0 = .ok (.iconst 0, 1) := by decide +kernel
theorem dJ7_fill_53178_1 : decode cJ7_fill_53178 1 = .ok (.istore_n 2, 1) := by decide +kernel
theorem dJ7_fill_53178_2 : decode cJ7_fill_53178 2 = .ok (.aload_n 0, 1) := by decide +kernel
theorem dJ7_fill_53178_3 : decode cJ7_fill_53178 3 = .ok (.arraylength, 1) := by decide +kernel
theorem dJ7_fill_53178_4 : decode cJ7_fill_53178 4 = .ok (.istore_n 3, 1) := by decide +kernel
theorem dJ7_fill_53178_5 : decode cJ7_fill_53178 5 = .ok (.iload_n 2, 1) := by decide +kernel
theorem dJ7_fill_53178_6 : decode cJ7_fill_53178 6 = .ok (.iload_n 3, 1) := by decide +kernel
theorem dJ7_fill_53178_7 : decode cJ7_fill_53178 7 = .ok (.if_icmp .ge 13, 3) := by decide +kernel
theorem dJ7_fill_53178_10 : decode cJ7_fill_53178 10 = .ok (.aload_n 0, 1) := by decide +kernel
theorem dJ7_fill_53178_11 : decode cJ7_fill_53178 11 = .ok (.iload_n 2, 1) := by decide +kernel
theorem dJ7_fill_53178_12 : decode cJ7_fill_53178 12 = .ok (.iload_n 1, 1) := by decide +kernel
theorem dJ7_fill_53178_13 : decode cJ7_fill_53178 13 = .ok (.iastore, 1) := by decide +kernel
theorem dJ7_fill_53178_14 : decode cJ7_fill_53178 14 = .ok (.iinc 2 1, 3) := by decide +kernel
theorem dJ7_fill_53178_17 : decode cJ7_fill_53178 17 = .ok (.goto (-12), 3) := by decide +kernel
theorem dJ7_fill_53178_20 : decode cJ7_fill_53178 20 = .ok (.return_, 1) := by decide +kernel
set_option maxHeartbeats 4000000 in
set_option maxRecDepth 100000 in
theorem kL_J7_fill_53178_5 {X : GC} {E : GE} (C : Cx X E cJ7_fill_53178 RJ7 1 4) (q0 : Nat) (n0 : Nat) (x1 : Int32) (x3 : Int32) {r : (Nat → Int32)} (hret : RtV X E cJ7_fill_53178 0 0 (fun w => w = (W_J7_fill_53178 E q0 n0 r))) : ∀ (n : Nat) (s : Int32 × (Nat → Int32)), L_J7_fill_53178_5 n0 x1 x3 n s = some r → Gx X E 0 0 (W_J7_fill_53178 E q0 n0 s.2) 5 [(0, .ref q0), (1, .int x1), (2, .int s.1), (3, .int x3)] [] := by
  unfold L_J7_fill_53178_5
  refine lp_ind _ (fun go ih s h => ?_)
  refine g_iload_n (pc := 5) C dJ7_fill_53178_5 rfl 2 rfl ?_
  refine g_iload_n (pc := 6) C dJ7_fill_53178_6 rfl 3 rfl ?_
  refine g_icmp_ge (pc := 7) (tgt := 20) C dJ7_fill_53178_7 (by decide) h (fun h => ?_) (fun h => ?_)
  · cases h
    exact hret _ _ _ dJ7_fill_53178_20 rfl
  · refine g_aload_n (pc := 10) C dJ7_fill_53178_10 rfl 0 rfl ?_
    refine g_iload_n (pc := 11) C dJ7_fill_53178_11 rfl 2 rfl ?_
    refine g_iload_n (pc := 12) C dJ7_fill_53178_12 rfl 1 rfl ?_
    refine g_iast (pc := 13) C dJ7_fill_53178_13 0 rfl h (fun g2 h => ?_)
    refine g_ws (ws' := (W_J7_fill_53178 E q0 n0 g2)) rfl ?_
    refine g_iincn (pc := 14) (j := 2) (d := 1) (lv' := fun v3 => [(2, .int v3), (0, .ref q0), (1, .int x1), (3, .int x3)]) C dJ7_fill_53178_14 rfl (by decide) (by decide) (fun _ => rfl) h (fun v3 h => ?_)
    refine g_goto (pc := 17) (tgt := 5) C dJ7_fill_53178_17 (by decide) ?_
    refine g_sub [1, 2, 0, 3] rfl ?_
    exact ih _ h
set_option maxHeartbeats 4000000 in
set_option maxRecDepth 100000 in
theorem c_J7_fill_53178 (l : Launch) (E : GE) (q0 : Nat) (n0 : Nat) (f0 : (Nat → Int32)) (x1 : Int32) (r : (Nat → Int32)) (h : f_J7_fill_53178 n0 f0 x1 = some r) : Cn l E yJ7_fill_53178 cJ7_fill_53178 4 none 1 0 0 [.ref q0, .int x1] (W_J7_fill_53178 E q0 n0 f0) (fun w => w = (W_J7_fill_53178 E q0 n0 r)) none := by
  refine Cn.ofV (by decide +kernel) (Nat.le_of_ble_eq_true rfl) (fun X hX hR C hret => ?_)
  subst hX
  show Gx X E 0 0 (W_J7_fill_53178 E q0 n0 f0) 0 [(0, .ref q0), (1, .int x1)] []
  unfold f_J7_fill_53178 at h
  refine g_iconst (pc := 0) (v := 0) C dJ7_fill_53178_0 (by decide) ?_
  refine g_istore_n (pc := 1) (lv' := [(2, .int (0 : Int32)), (0, .ref q0), (1, .int x1)]) C dJ7_fill_53178_1 rfl (by decide) rfl ?_
  refine g_aload_n (pc := 2) C dJ7_fill_53178_2 rfl 1 rfl ?_
  refine g_alen (pc := 3) C dJ7_fill_53178_3 0 rfl rfl ?_
  refine g_nm h (fun v1 h => ?_)
  refine g_istore_n (pc := 4) (lv' := [(3, .int v1), (2, .int (0 : Int32)), (0, .ref q0), (1, .int x1)]) C dJ7_fill_53178_4 rfl (by decide) rfl ?_
  refine g_sub [2, 3, 1, 0] rfl ?_
  refine kL_J7_fill_53178_5 C q0 n0 x1 v1 hret  _ _ h
abbrev W_J9_abs_0f7a4 (E : GE) : va_W := []
def f_J9_abs_0f7a4 (x0 : Int32) : Option (Int32) := if 0 ≤ x0 then (some x0) else some (-x0)
theorem dJ9_abs_0f7a4_0 : decode cJ9_abs_0f7a4 0 = .ok (.iload_n 0, 1) := by decide +kernel
theorem dJ9_abs_0f7a4_1 : decode cJ9_abs_0f7a4 1 = .ok (.ifCond .ge 8, 3) := by decide +kernel
theorem dJ9_abs_0f7a4_4 : decode cJ9_abs_0f7a4 4 = .ok (.iload_n 0, 1) := by decide +kernel
theorem dJ9_abs_0f7a4_5 : decode cJ9_abs_0f7a4 5 = .ok (.ineg, 1) := by decide +kernel
theorem dJ9_abs_0f7a4_6 : decode cJ9_abs_0f7a4 6 = .ok (.goto 4, 3) := by decide +kernel
theorem dJ9_abs_0f7a4_9 : decode cJ9_abs_0f7a4 9 = .ok (.iload_n 0, 1) := by decide +kernel
theorem dJ9_abs_0f7a4_10 : decode cJ9_abs_0f7a4 10 = .ok (.ireturn, 1) := by decide +kernel
set_option maxHeartbeats 4000000 in
set_option maxRecDepth 100000 in
theorem c_J9_abs_0f7a4 (l : Launch) (E : GE) (x0 : Int32) (r : Int32) (h : f_J9_abs_0f7a4 x0 = some r) : Cn l E yJ9_abs_0f7a4 cJ9_abs_0f7a4 1 (some .int) 1 0 0 [.int x0] (W_J9_abs_0f7a4 E) (fun w => w = (W_J9_abs_0f7a4 E)) (some (.int r)) := by
  refine Cn.ofI (by decide +kernel) (Nat.le_of_ble_eq_true rfl) (fun X hX hR C hret => ?_)
  subst hX
  show Gx X E 0 0 (W_J9_abs_0f7a4 E) 0 [(0, .int x0)] []
  unfold f_J9_abs_0f7a4 at h
  refine g_iload_n (pc := 0) C dJ9_abs_0f7a4_0 rfl 0 rfl ?_
  refine g_if_ge (pc := 1) (tgt := 9) C dJ9_abs_0f7a4_1 (by decide) h (fun h => ?_) (fun h => ?_)
  · refine g_iload_n (pc := 9) C dJ9_abs_0f7a4_9 rfl 0 rfl ?_
    cases h
    exact hret _ _ _ dJ9_abs_0f7a4_10 rfl rfl
  · refine g_iload_n (pc := 4) C dJ9_abs_0f7a4_4 rfl 0 rfl ?_
    refine g_ineg (pc := 5) C dJ9_abs_0f7a4_5 ?_
    refine g_goto (pc := 6) (tgt := 10) C dJ9_abs_0f7a4_6 (by decide) ?_
    cases h
    exact hret _ _ _ dJ9_abs_0f7a4_10 rfl rfl
abbrev W_J9_floorMod_7cf53 (E : GE) : va_W := []
def f_J9_floorMod_7cf53 (x0 : Int32) (x1 : Int32) : Option (Int32) := rm x0 x1 fun v1 => if 0 ≤ (x0 ^^^ x1) then (some v1) else if v1 = 0 then (some v1) else some (v1 + x1)
theorem dJ9_floorMod_7cf53_0 : decode cJ9_floorMod_7cf53 0 = .ok (.iload_n 0, 1) := by decide +kernel
theorem dJ9_floorMod_7cf53_1 : decode cJ9_floorMod_7cf53 1 = .ok (.iload_n 1, 1) := by decide +kernel
theorem dJ9_floorMod_7cf53_2 : decode cJ9_floorMod_7cf53 2 = .ok (.irem, 1) := by decide +kernel
theorem dJ9_floorMod_7cf53_3 : decode cJ9_floorMod_7cf53 3 = .ok (.istore_n 2, 1) := by decide +kernel
theorem dJ9_floorMod_7cf53_4 : decode cJ9_floorMod_7cf53 4 = .ok (.iload_n 0, 1) := by decide +kernel
theorem dJ9_floorMod_7cf53_5 : decode cJ9_floorMod_7cf53 5 = .ok (.iload_n 1, 1) := by decide +kernel
theorem dJ9_floorMod_7cf53_6 : decode cJ9_floorMod_7cf53 6 = .ok (.ixor, 1) := by decide +kernel
theorem dJ9_floorMod_7cf53_7 : decode cJ9_floorMod_7cf53 7 = .ok (.ifCond .ge 11, 3) := by decide +kernel
theorem dJ9_floorMod_7cf53_10 : decode cJ9_floorMod_7cf53 10 = .ok (.iload_n 2, 1) := by decide +kernel
theorem dJ9_floorMod_7cf53_11 : decode cJ9_floorMod_7cf53 11 = .ok (.ifCond .eq 7, 3) := by decide +kernel
theorem dJ9_floorMod_7cf53_14 : decode cJ9_floorMod_7cf53 14 = .ok (.iload_n 2, 1) := by decide +kernel
theorem dJ9_floorMod_7cf53_15 : decode cJ9_floorMod_7cf53 15 = .ok (.iload_n 1, 1) := by decide +kernel
theorem dJ9_floorMod_7cf53_16 : decode cJ9_floorMod_7cf53 16 = .ok (.iadd, 1) := by decide +kernel
theorem dJ9_floorMod_7cf53_17 : decode cJ9_floorMod_7cf53 17 = .ok (.ireturn, 1) := by decide +kernel
theorem dJ9_floorMod_7cf53_18 : decode cJ9_floorMod_7cf53 18 = .ok (.iload_n 2, 1) := by decide +kernel
theorem dJ9_floorMod_7cf53_19 : decode cJ9_floorMod_7cf53 19 = .ok (.ireturn, 1) := by decide +kernel
set_option maxHeartbeats 4000000 in
set_option maxRecDepth 100000 in
theorem c_J9_floorMod_7cf53 (l : Launch) (E : GE) (x0 : Int32) (x1 : Int32) (r : Int32) (h : f_J9_floorMod_7cf53 x0 x1 = some r) : Cn l E yJ9_floorMod_7cf53 cJ9_floorMod_7cf53 3 (some .int) 1 0 0 [.int x0, .int x1] (W_J9_floorMod_7cf53 E) (fun w => w = (W_J9_floorMod_7cf53 E)) (some (.int r)) := by
  refine Cn.ofI (by decide +kernel) (Nat.le_of_ble_eq_true rfl) (fun X hX hR C hret => ?_)
  subst hX
  show Gx X E 0 0 (W_J9_floorMod_7cf53 E) 0 [(0, .int x0), (1, .int x1)] []
  unfold f_J9_floorMod_7cf53 at h
  refine g_iload_n (pc := 0) C dJ9_floorMod_7cf53_0 rfl 0 rfl ?_
  refine g_iload_n (pc := 1) C dJ9_floorMod_7cf53_1 rfl 1 rfl ?_
  refine g_irem (pc := 2) C dJ9_floorMod_7cf53_2 h (fun v1 h => ?_)
  refine g_istore_n (pc := 3) (lv' := [(2, .int v1), (0, .int x0), (1, .int x1)]) C dJ9_floorMod_7cf53_3 rfl (by decide) rfl ?_
  refine g_iload_n (pc := 4) C dJ9_floorMod_7cf53_4 rfl 1 rfl ?_
  refine g_iload_n (pc := 5) C dJ9_floorMod_7cf53_5 rfl 2 rfl ?_
  refine g_ixor (pc := 6) C dJ9_floorMod_7cf53_6 ?_
  refine g_if_ge (pc := 7) (tgt := 18) C dJ9_floorMod_7cf53_7 (by decide) h (fun h => ?_) (fun h => ?_)
  · refine g_iload_n (pc := 18) C dJ9_floorMod_7cf53_18 rfl 0 rfl ?_
    cases h
    exact hret _ _ _ dJ9_floorMod_7cf53_19 rfl rfl
  · refine g_iload_n (pc := 10) C dJ9_floorMod_7cf53_10 rfl 0 rfl ?_
    refine g_if_eq (pc := 11) (tgt := 18) C dJ9_floorMod_7cf53_11 (by decide) h (fun h => ?_) (fun h => ?_)
    · refine g_iload_n (pc := 18) C dJ9_floorMod_7cf53_18 rfl 0 rfl ?_
      cases h
      exact hret _ _ _ dJ9_floorMod_7cf53_19 rfl rfl
    · refine g_iload_n (pc := 14) C dJ9_floorMod_7cf53_14 rfl 0 rfl ?_
      refine g_iload_n (pc := 15) C dJ9_floorMod_7cf53_15 rfl 2 rfl ?_
      refine g_iadd (pc := 16) C dJ9_floorMod_7cf53_16 ?_
      cases h
      exact hret _ _ _ dJ9_floorMod_7cf53_17 rfl rfl
abbrev W_X11_isWithin (E : GE) : va_W := []
def f_X11_isWithin (x0 : Int32) (x1 : Int32) (x2 : Int32) : Option (Int32) := if x0 < x1 then (some (0 : Int32)) else if x2 < x0 then (some (0 : Int32)) else some (1 : Int32)
theorem dX11_isWithin_0 : decode cX11_isWithin 0 = .ok (.iload_n 0, 1) := by decide +kernel
theorem dX11_isWithin_1 : decode cX11_isWithin 1 = .ok (.iload_n 1, 1) := by decide +kernel
theorem dX11_isWithin_2 : decode cX11_isWithin 2 = .ok (.if_icmp .lt 12, 3) := by decide +kernel
theorem dX11_isWithin_5 : decode cX11_isWithin 5 = .ok (.iload_n 0, 1) := by decide +kernel
theorem dX11_isWithin_6 : decode cX11_isWithin 6 = .ok (.iload_n 2, 1) := by decide +kernel
theorem dX11_isWithin_7 : decode cX11_isWithin 7 = .ok (.if_icmp .gt 7, 3) := by decide +kernel
theorem dX11_isWithin_10 : decode cX11_isWithin 10 = .ok (.iconst 1, 1) := by decide +kernel
theorem dX11_isWithin_11 : decode cX11_isWithin 11 = .ok (.goto 4, 3) := by decide +kernel
theorem dX11_isWithin_14 : decode cX11_isWithin 14 = .ok (.iconst 0, 1) := by decide +kernel
theorem dX11_isWithin_15 : decode cX11_isWithin 15 = .ok (.ireturn, 1) := by decide +kernel
set_option maxHeartbeats 4000000 in
set_option maxRecDepth 100000 in
theorem c_X11_isWithin (l : Launch) (E : GE) (x0 : Int32) (x1 : Int32) (x2 : Int32) (r : Int32) (h : f_X11_isWithin x0 x1 x2 = some r) : Cn l E yX11_isWithin cX11_isWithin 3 (some .boolean) 1 0 0 [.int x0, .int x1, .int x2] (W_X11_isWithin E) (fun w => w = (W_X11_isWithin E)) (some (.int r)) := by
  refine Cn.ofI (by decide +kernel) (Nat.le_of_ble_eq_true rfl) (fun X hX hR C hret => ?_)
  subst hX
  show Gx X E 0 0 (W_X11_isWithin E) 0 [(0, .int x0), (1, .int x1), (2, .int x2)] []
  unfold f_X11_isWithin at h
  refine g_iload_n (pc := 0) C dX11_isWithin_0 rfl 0 rfl ?_
  refine g_iload_n (pc := 1) C dX11_isWithin_1 rfl 1 rfl ?_
  refine g_icmp_lt (pc := 2) (tgt := 14) C dX11_isWithin_2 (by decide) h (fun h => ?_) (fun h => ?_)
  · refine g_iconst (pc := 14) (v := 0) C dX11_isWithin_14 (by decide) ?_
    cases h
    exact hret _ _ _ dX11_isWithin_15 nb0 rfl
  · refine g_iload_n (pc := 5) C dX11_isWithin_5 rfl 0 rfl ?_
    refine g_iload_n (pc := 6) C dX11_isWithin_6 rfl 2 rfl ?_
    refine g_icmp_gt (pc := 7) (tgt := 14) C dX11_isWithin_7 (by decide) h (fun h => ?_) (fun h => ?_)
    · refine g_iconst (pc := 14) (v := 0) C dX11_isWithin_14 (by decide) ?_
      cases h
      exact hret _ _ _ dX11_isWithin_15 nb0 rfl
    · refine g_iconst (pc := 10) (v := 1) C dX11_isWithin_10 (by decide) ?_
      refine g_goto (pc := 11) (tgt := 15) C dX11_isWithin_11 (by decide) ?_
      cases h
      exact hret _ _ _ dX11_isWithin_15 nb1 rfl
