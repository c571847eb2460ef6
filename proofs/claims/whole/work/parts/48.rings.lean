def ringOK (n : Nat) : Bool := decide (f_X11_rings (nI n) 0 = f_X12_rings (nI n) 0) && decide (f_X11_rings (nI n) 1 = f_X12_rings (nI n) 1) && (f_X11_rings (nI n) 0).isSome && (f_X11_rings (nI n) 1).isSome
theorem rc_0 : (List.range' 0 128).all ringOK = true := by decide +kernel
theorem rc_1 : (List.range' 128 128).all ringOK = true := by decide +kernel
theorem rc_2 : (List.range' 256 128).all ringOK = true := by decide +kernel
theorem rc_3 : (List.range' 384 128).all ringOK = true := by decide +kernel
theorem rc_4 : (List.range' 512 128).all ringOK = true := by decide +kernel
theorem rc_5 : (List.range' 640 128).all ringOK = true := by decide +kernel
theorem rc_6 : (List.range' 768 128).all ringOK = true := by decide +kernel
theorem rc_7 : (List.range' 896 128).all ringOK = true := by decide +kernel
theorem rc_8 : (List.range' 1024 128).all ringOK = true := by decide +kernel
theorem rc_9 : (List.range' 1152 128).all ringOK = true := by decide +kernel
theorem rc_10 : (List.range' 1280 128).all ringOK = true := by decide +kernel
theorem rc_11 : (List.range' 1408 128).all ringOK = true := by decide +kernel
theorem rc_12 : (List.range' 1536 128).all ringOK = true := by decide +kernel
theorem rc_13 : (List.range' 1664 128).all ringOK = true := by decide +kernel
theorem rc_14 : (List.range' 1792 128).all ringOK = true := by decide +kernel
theorem rc_15 : (List.range' 1920 128).all ringOK = true := by decide +kernel
theorem rc_16 : (List.range' 2048 128).all ringOK = true := by decide +kernel
theorem rc_17 : (List.range' 2176 128).all ringOK = true := by decide +kernel
theorem rc_18 : (List.range' 2304 128).all ringOK = true := by decide +kernel
theorem rc_19 : (List.range' 2432 128).all ringOK = true := by decide +kernel
theorem rc_20 : (List.range' 2560 128).all ringOK = true := by decide +kernel
theorem rc_21 : (List.range' 2688 128).all ringOK = true := by decide +kernel
theorem rc_22 : (List.range' 2816 128).all ringOK = true := by decide +kernel
theorem rc_23 : (List.range' 2944 128).all ringOK = true := by decide +kernel
theorem rc_24 : (List.range' 3072 128).all ringOK = true := by decide +kernel
theorem rc_25 : (List.range' 3200 128).all ringOK = true := by decide +kernel
theorem rc_26 : (List.range' 3328 128).all ringOK = true := by decide +kernel
theorem rc_27 : (List.range' 3456 128).all ringOK = true := by decide +kernel
theorem rc_28 : (List.range' 3584 128).all ringOK = true := by decide +kernel
theorem rc_29 : (List.range' 3712 128).all ringOK = true := by decide +kernel
theorem rc_30 : (List.range' 3840 128).all ringOK = true := by decide +kernel
theorem rc_31 : (List.range' 3968 128).all ringOK = true := by decide +kernel
theorem rings_all (n : Nat) (hn : n < 4096) : ringOK n = true := by
  by_cases h0 : n < 128
  · exact List.all_eq_true.mp rc_0 n (List.mem_range'_1.mpr ⟨by omega, by omega⟩)
  by_cases h1 : n < 256
  · exact List.all_eq_true.mp rc_1 n (List.mem_range'_1.mpr ⟨by omega, by omega⟩)
  by_cases h2 : n < 384
  · exact List.all_eq_true.mp rc_2 n (List.mem_range'_1.mpr ⟨by omega, by omega⟩)
  by_cases h3 : n < 512
  · exact List.all_eq_true.mp rc_3 n (List.mem_range'_1.mpr ⟨by omega, by omega⟩)
  by_cases h4 : n < 640
  · exact List.all_eq_true.mp rc_4 n (List.mem_range'_1.mpr ⟨by omega, by omega⟩)
  by_cases h5 : n < 768
  · exact List.all_eq_true.mp rc_5 n (List.mem_range'_1.mpr ⟨by omega, by omega⟩)
  by_cases h6 : n < 896
  · exact List.all_eq_true.mp rc_6 n (List.mem_range'_1.mpr ⟨by omega, by omega⟩)
  by_cases h7 : n < 1024
  · exact List.all_eq_true.mp rc_7 n (List.mem_range'_1.mpr ⟨by omega, by omega⟩)
  by_cases h8 : n < 1152
  · exact List.all_eq_true.mp rc_8 n (List.mem_range'_1.mpr ⟨by omega, by omega⟩)
  by_cases h9 : n < 1280
  · exact List.all_eq_true.mp rc_9 n (List.mem_range'_1.mpr ⟨by omega, by omega⟩)
  by_cases h10 : n < 1408
  · exact List.all_eq_true.mp rc_10 n (List.mem_range'_1.mpr ⟨by omega, by omega⟩)
  by_cases h11 : n < 1536
  · exact List.all_eq_true.mp rc_11 n (List.mem_range'_1.mpr ⟨by omega, by omega⟩)
  by_cases h12 : n < 1664
  · exact List.all_eq_true.mp rc_12 n (List.mem_range'_1.mpr ⟨by omega, by omega⟩)
  by_cases h13 : n < 1792
  · exact List.all_eq_true.mp rc_13 n (List.mem_range'_1.mpr ⟨by omega, by omega⟩)
  by_cases h14 : n < 1920
  · exact List.all_eq_true.mp rc_14 n (List.mem_range'_1.mpr ⟨by omega, by omega⟩)
  by_cases h15 : n < 2048
  · exact List.all_eq_true.mp rc_15 n (List.mem_range'_1.mpr ⟨by omega, by omega⟩)
  by_cases h16 : n < 2176
  · exact List.all_eq_true.mp rc_16 n (List.mem_range'_1.mpr ⟨by omega, by omega⟩)
  by_cases h17 : n < 2304
  · exact List.all_eq_true.mp rc_17 n (List.mem_range'_1.mpr ⟨by omega, by omega⟩)
  by_cases h18 : n < 2432
  · exact List.all_eq_true.mp rc_18 n (List.mem_range'_1.mpr ⟨by omega, by omega⟩)
  by_cases h19 : n < 2560
  · exact List.all_eq_true.mp rc_19 n (List.mem_range'_1.mpr ⟨by omega, by omega⟩)
  by_cases h20 : n < 2688
  · exact List.all_eq_true.mp rc_20 n (List.mem_range'_1.mpr ⟨by omega, by omega⟩)
  by_cases h21 : n < 2816
  · exact List.all_eq_true.mp rc_21 n (List.mem_range'_1.mpr ⟨by omega, by omega⟩)
  by_cases h22 : n < 2944
  · exact List.all_eq_true.mp rc_22 n (List.mem_range'_1.mpr ⟨by omega, by omega⟩)
  by_cases h23 : n < 3072
  · exact List.all_eq_true.mp rc_23 n (List.mem_range'_1.mpr ⟨by omega, by omega⟩)
  by_cases h24 : n < 3200
  · exact List.all_eq_true.mp rc_24 n (List.mem_range'_1.mpr ⟨by omega, by omega⟩)
  by_cases h25 : n < 3328
  · exact List.all_eq_true.mp rc_25 n (List.mem_range'_1.mpr ⟨by omega, by omega⟩)
  by_cases h26 : n < 3456
  · exact List.all_eq_true.mp rc_26 n (List.mem_range'_1.mpr ⟨by omega, by omega⟩)
  by_cases h27 : n < 3584
  · exact List.all_eq_true.mp rc_27 n (List.mem_range'_1.mpr ⟨by omega, by omega⟩)
  by_cases h28 : n < 3712
  · exact List.all_eq_true.mp rc_28 n (List.mem_range'_1.mpr ⟨by omega, by omega⟩)
  by_cases h29 : n < 3840
  · exact List.all_eq_true.mp rc_29 n (List.mem_range'_1.mpr ⟨by omega, by omega⟩)
  by_cases h30 : n < 3968
  · exact List.all_eq_true.mp rc_30 n (List.mem_range'_1.mpr ⟨by omega, by omega⟩)
  by_cases h31 : n < 4096
  · exact List.all_eq_true.mp rc_31 n (List.mem_range'_1.mpr ⟨by omega, by omega⟩)
  omega
theorem B_rings (x1 x2 : Int32) : ∃ r, f_X11_rings x1 x2 = some r ∧ f_X12_rings x1 x2 = some r := by
  rcases in01 x1 0 4095 (by omega) (by omega) with ⟨e1, e2⟩ | ⟨n, _, hn, rfl, e1, e2⟩
  · unfold f_X11_rings f_X12_rings
    simp only [ltz]
    simp only [e1, e2, some_bind, n00, if_true]
    exact ⟨_, rfl, rfl⟩
  · rcases in01 x2 0 1 (by omega) (by omega) with ⟨e3, e4⟩ | ⟨m, _, hm, rfl, e3, e4⟩
    · unfold f_X11_rings f_X12_rings
      simp only [ltz]
      simp only [e1, e2, e3, e4, some_bind, n00, if_true, n10, if_false]
      exact ⟨_, rfl, rfl⟩
    · have h := rings_all n (by omega)
      simp only [ringOK, Bool.and_eq_true, decide_eq_true_eq] at h
      obtain ⟨⟨⟨h1, h2⟩, h3⟩, h4⟩ := h
      rcases (show m = 0 ∨ m = 1 by omega) with rfl | rfl
      · have h1 : f_X11_rings (nI n) (nI 0) = f_X12_rings (nI n) (nI 0) := h1
        obtain ⟨r, hr⟩ := Option.isSome_iff_exists.mp h3
        have hr : f_X11_rings (nI n) (nI 0) = some r := hr
        exact ⟨r, hr, by rw [← h1]; exact hr⟩
      · have h2 : f_X11_rings (nI n) (nI 1) = f_X12_rings (nI n) (nI 1) := h2
        obtain ⟨r, hr⟩ := Option.isSome_iff_exists.mp h4
        have hr : f_X11_rings (nI n) (nI 1) = some r := hr
        exact ⟨r, hr, by rw [← h2]; exact hr⟩
