theorem cl_L_7 : Cond.classLink RL 7 RX11 ∈ lw_g := lg_in (List.mem_of_getElem? (i := 110) (by decide +kernel)) rfl
theorem inst_X11 : Cond.instantiable RX11 14 ∈ lw_g := lg_in (List.mem_of_getElem? (i := 111) (by decide +kernel)) rfl
theorem ini_X11 : Cond.initialized RX11 ∈ lw_g := lg_in (List.mem_of_getElem? (i := 93) (by decide +kernel)) rfl
theorem dv_X11 : ∀ j, j < 14 → defaultValue (tyX11 j) = vp_V [.null, .null, .null, .null, .null, .null, .null, .null, .null, .null, .null, .null, .null, .int 0] j := by decide +kernel
theorem ml_L_9 : Cond.methodLink RL 9 yX11_init ∈ lw_g := lg_in (List.mem_of_getElem? (i := 112) (by decide +kernel)) rfl
theorem mv_X11_init : MV yX11_init cX11_init 1 none 0 := ⟨lg_in (List.mem_of_getElem? (i := 114) (by decide +kernel)) rfl, lg_in (List.mem_of_getElem? (i := 93) (by decide +kernel)) rfl, by decide +kernel⟩
theorem mI_X11_init : Cond.instanceMethod yX11_init ∈ lw_g := lg_in (List.mem_of_getElem? (i := 113) (by decide +kernel)) rfl
theorem cl_L_10 : Cond.classLink RL 10 RX12 ∈ lw_g := lg_in (List.mem_of_getElem? (i := 1030) (by decide +kernel)) rfl
theorem inst_X12 : Cond.instantiable RX12 58 ∈ lw_g := lg_in (List.mem_of_getElem? (i := 1031) (by decide +kernel)) rfl
theorem ini_X12 : Cond.initialized RX12 ∈ lw_g := lg_in (List.mem_of_getElem? (i := 104) (by decide +kernel)) rfl
theorem dv_X12 : ∀ j, j < 58 → defaultValue (tyX12 j) = vp_V [.null, .null, .null, .null, .null, .null, .null, .null, .null, .null, .null, .int 0, .int 0, .null, .int 0, .int 0, .int 0, .int 0, .int 0, .int 0, .int 0, .int 0, .int 0, .int 0, .null, .null, .null, .null, .null, .null, .null, .null, .null, .null, .null, .null, .null, .null, .null, .null, .null, .int 0, .int 0, .int 0, .int 0, .int 0, .int 0, .int 0, .int 0, .int 0, .null, .null, .null, .int 0, .null, .null, .null, .int 0] j := by decide +kernel
theorem ml_L_12 : Cond.methodLink RL 12 yX12_init ∈ lw_g := lg_in (List.mem_of_getElem? (i := 1032) (by decide +kernel)) rfl
theorem mv_X12_init : MV yX12_init cX12_init 1 none 0 := ⟨lg_in (List.mem_of_getElem? (i := 1034) (by decide +kernel)) rfl, lg_in (List.mem_of_getElem? (i := 104) (by decide +kernel)) rfl, by decide +kernel⟩
theorem mI_X12_init : Cond.instanceMethod yX12_init ∈ lw_g := lg_in (List.mem_of_getElem? (i := 1033) (by decide +kernel)) rfl
theorem ml_L_13 : Cond.methodLink RL 13 yX11_woman ∈ lw_g := lg_in (List.mem_of_getElem? (i := 422) (by decide +kernel)) rfl
theorem mv_X11_woman : MV yX11_woman cX11_woman 3 (some .boolean) 2 := ⟨lg_in (List.mem_of_getElem? (i := 425) (by decide +kernel)) rfl, lg_in (List.mem_of_getElem? (i := 93) (by decide +kernel)) rfl, by decide +kernel⟩
theorem mi_X11_woman : MI yX11_woman := ⟨lg_in (List.mem_of_getElem? (i := 423) (by decide +kernel)) rfl, lg_in (List.mem_of_getElem? (i := 424) (by decide +kernel)) rfl⟩
theorem ml_L_17 : Cond.methodLink RL 17 yX12_woman ∈ lw_g := lg_in (List.mem_of_getElem? (i := 1213) (by decide +kernel)) rfl
theorem mv_X12_woman : MV yX12_woman cX12_woman 3 (some .boolean) 2 := ⟨lg_in (List.mem_of_getElem? (i := 1216) (by decide +kernel)) rfl, lg_in (List.mem_of_getElem? (i := 104) (by decide +kernel)) rfl, by decide +kernel⟩
theorem mi_X12_woman : MI yX12_woman := ⟨lg_in (List.mem_of_getElem? (i := 1214) (by decide +kernel)) rfl, lg_in (List.mem_of_getElem? (i := 1215) (by decide +kernel)) rfl⟩
theorem ml_L_18 : Cond.methodLink RL 18 yX11_feed ∈ lw_g := lg_in (List.mem_of_getElem? (i := 434) (by decide +kernel)) rfl
theorem mv_X11_feed : MV yX11_feed cX11_feed 6 (some .int) 5 := ⟨lg_in (List.mem_of_getElem? (i := 437) (by decide +kernel)) rfl, lg_in (List.mem_of_getElem? (i := 93) (by decide +kernel)) rfl, by decide +kernel⟩
theorem mi_X11_feed : MI yX11_feed := ⟨lg_in (List.mem_of_getElem? (i := 435) (by decide +kernel)) rfl, lg_in (List.mem_of_getElem? (i := 436) (by decide +kernel)) rfl⟩
theorem ml_L_22 : Cond.methodLink RL 22 yX12_feed ∈ lw_g := lg_in (List.mem_of_getElem? (i := 1220) (by decide +kernel)) rfl
theorem mv_X12_feed : MV yX12_feed cX12_feed 6 (some .int) 5 := ⟨lg_in (List.mem_of_getElem? (i := 1223) (by decide +kernel)) rfl, lg_in (List.mem_of_getElem? (i := 104) (by decide +kernel)) rfl, by decide +kernel⟩
theorem mi_X12_feed : MI yX12_feed := ⟨lg_in (List.mem_of_getElem? (i := 1221) (by decide +kernel)) rfl, lg_in (List.mem_of_getElem? (i := 1222) (by decide +kernel)) rfl⟩
theorem ml_L_23 : Cond.methodLink RL 23 yX11_law ∈ lw_g := lg_in (List.mem_of_getElem? (i := 442) (by decide +kernel)) rfl
theorem mv_X11_law : MV yX11_law cX11_law 3 (some .int) 1 := ⟨lg_in (List.mem_of_getElem? (i := 445) (by decide +kernel)) rfl, lg_in (List.mem_of_getElem? (i := 93) (by decide +kernel)) rfl, by decide +kernel⟩
theorem mi_X11_law : MI yX11_law := ⟨lg_in (List.mem_of_getElem? (i := 443) (by decide +kernel)) rfl, lg_in (List.mem_of_getElem? (i := 444) (by decide +kernel)) rfl⟩
theorem ml_L_27 : Cond.methodLink RL 27 yX12_law ∈ lw_g := lg_in (List.mem_of_getElem? (i := 1228) (by decide +kernel)) rfl
theorem mv_X12_law : MV yX12_law cX12_law 4 (some .int) 1 := ⟨lg_in (List.mem_of_getElem? (i := 1231) (by decide +kernel)) rfl, lg_in (List.mem_of_getElem? (i := 104) (by decide +kernel)) rfl, by decide +kernel⟩
theorem mi_X12_law : MI yX12_law := ⟨lg_in (List.mem_of_getElem? (i := 1229) (by decide +kernel)) rfl, lg_in (List.mem_of_getElem? (i := 1230) (by decide +kernel)) rfl⟩
theorem ml_L_28 : Cond.methodLink RL 28 yX11_hair ∈ lw_g := lg_in (List.mem_of_getElem? (i := 548) (by decide +kernel)) rfl
theorem mv_X11_hair : MV yX11_hair cX11_hair 3 (some .int) 2 := ⟨lg_in (List.mem_of_getElem? (i := 551) (by decide +kernel)) rfl, lg_in (List.mem_of_getElem? (i := 93) (by decide +kernel)) rfl, by decide +kernel⟩
theorem mi_X11_hair : MI yX11_hair := ⟨lg_in (List.mem_of_getElem? (i := 549) (by decide +kernel)) rfl, lg_in (List.mem_of_getElem? (i := 550) (by decide +kernel)) rfl⟩
theorem ml_L_32 : Cond.methodLink RL 32 yX12_hair ∈ lw_g := lg_in (List.mem_of_getElem? (i := 1315) (by decide +kernel)) rfl
theorem mv_X12_hair : MV yX12_hair cX12_hair 5 (some .int) 2 := ⟨lg_in (List.mem_of_getElem? (i := 1318) (by decide +kernel)) rfl, lg_in (List.mem_of_getElem? (i := 104) (by decide +kernel)) rfl, by decide +kernel⟩
theorem mi_X12_hair : MI yX12_hair := ⟨lg_in (List.mem_of_getElem? (i := 1316) (by decide +kernel)) rfl, lg_in (List.mem_of_getElem? (i := 1317) (by decide +kernel)) rfl⟩
theorem ml_L_33 : Cond.methodLink RL 33 yX11_orders ∈ lw_g := lg_in (List.mem_of_getElem? (i := 602) (by decide +kernel)) rfl
theorem mv_X11_orders : MV yX11_orders cX11_orders 2 (some .int) 1 := ⟨lg_in (List.mem_of_getElem? (i := 605) (by decide +kernel)) rfl, lg_in (List.mem_of_getElem? (i := 93) (by decide +kernel)) rfl, by decide +kernel⟩
theorem mi_X11_orders : MI yX11_orders := ⟨lg_in (List.mem_of_getElem? (i := 603) (by decide +kernel)) rfl, lg_in (List.mem_of_getElem? (i := 604) (by decide +kernel)) rfl⟩
theorem ml_L_36 : Cond.methodLink RL 36 yX12_orders ∈ lw_g := lg_in (List.mem_of_getElem? (i := 1343) (by decide +kernel)) rfl
theorem mv_X12_orders : MV yX12_orders cX12_orders 3 (some .int) 1 := ⟨lg_in (List.mem_of_getElem? (i := 1346) (by decide +kernel)) rfl, lg_in (List.mem_of_getElem? (i := 104) (by decide +kernel)) rfl, by decide +kernel⟩
theorem mi_X12_orders : MI yX12_orders := ⟨lg_in (List.mem_of_getElem? (i := 1344) (by decide +kernel)) rfl, lg_in (List.mem_of_getElem? (i := 1345) (by decide +kernel)) rfl⟩
theorem ml_L_37 : Cond.methodLink RL 37 yX11_rounds ∈ lw_g := lg_in (List.mem_of_getElem? (i := 664) (by decide +kernel)) rfl
theorem mv_X11_rounds : MV yX11_rounds cX11_rounds 2 (some .int) 1 := ⟨lg_in (List.mem_of_getElem? (i := 667) (by decide +kernel)) rfl, lg_in (List.mem_of_getElem? (i := 93) (by decide +kernel)) rfl, by decide +kernel⟩
theorem mi_X11_rounds : MI yX11_rounds := ⟨lg_in (List.mem_of_getElem? (i := 665) (by decide +kernel)) rfl, lg_in (List.mem_of_getElem? (i := 666) (by decide +kernel)) rfl⟩
theorem ml_L_40 : Cond.methodLink RL 40 yX12_rounds ∈ lw_g := lg_in (List.mem_of_getElem? (i := 1385) (by decide +kernel)) rfl
theorem mv_X12_rounds : MV yX12_rounds cX12_rounds 2 (some .int) 1 := ⟨lg_in (List.mem_of_getElem? (i := 1388) (by decide +kernel)) rfl, lg_in (List.mem_of_getElem? (i := 104) (by decide +kernel)) rfl, by decide +kernel⟩
theorem mi_X12_rounds : MI yX12_rounds := ⟨lg_in (List.mem_of_getElem? (i := 1386) (by decide +kernel)) rfl, lg_in (List.mem_of_getElem? (i := 1387) (by decide +kernel)) rfl⟩
theorem ml_L_41 : Cond.methodLink RL 41 yX11_night ∈ lw_g := lg_in (List.mem_of_getElem? (i := 766) (by decide +kernel)) rfl
theorem mv_X11_night : MV yX11_night cX11_night 2 (some .int) 0 := ⟨lg_in (List.mem_of_getElem? (i := 769) (by decide +kernel)) rfl, lg_in (List.mem_of_getElem? (i := 93) (by decide +kernel)) rfl, by decide +kernel⟩
theorem mi_X11_night : MI yX11_night := ⟨lg_in (List.mem_of_getElem? (i := 767) (by decide +kernel)) rfl, lg_in (List.mem_of_getElem? (i := 768) (by decide +kernel)) rfl⟩
theorem ml_L_45 : Cond.methodLink RL 45 yX12_night ∈ lw_g := lg_in (List.mem_of_getElem? (i := 1339) (by decide +kernel)) rfl
theorem mv_X12_night : MV yX12_night cX12_night 3 (some .int) 0 := ⟨lg_in (List.mem_of_getElem? (i := 1342) (by decide +kernel)) rfl, lg_in (List.mem_of_getElem? (i := 104) (by decide +kernel)) rfl, by decide +kernel⟩
theorem mi_X12_night : MI yX12_night := ⟨lg_in (List.mem_of_getElem? (i := 1340) (by decide +kernel)) rfl, lg_in (List.mem_of_getElem? (i := 1341) (by decide +kernel)) rfl⟩
theorem ml_L_46 : Cond.methodLink RL 46 yX11_tried ∈ lw_g := lg_in (List.mem_of_getElem? (i := 775) (by decide +kernel)) rfl
theorem mv_X11_tried : MV yX11_tried cX11_tried 3 (some .int) 2 := ⟨lg_in (List.mem_of_getElem? (i := 778) (by decide +kernel)) rfl, lg_in (List.mem_of_getElem? (i := 93) (by decide +kernel)) rfl, by decide +kernel⟩
theorem mi_X11_tried : MI yX11_tried := ⟨lg_in (List.mem_of_getElem? (i := 776) (by decide +kernel)) rfl, lg_in (List.mem_of_getElem? (i := 777) (by decide +kernel)) rfl⟩
theorem ml_L_49 : Cond.methodLink RL 49 yX12_tried ∈ lw_g := lg_in (List.mem_of_getElem? (i := 1455) (by decide +kernel)) rfl
theorem mv_X12_tried : MV yX12_tried cX12_tried 4 (some .int) 2 := ⟨lg_in (List.mem_of_getElem? (i := 1458) (by decide +kernel)) rfl, lg_in (List.mem_of_getElem? (i := 104) (by decide +kernel)) rfl, by decide +kernel⟩
theorem mi_X12_tried : MI yX12_tried := ⟨lg_in (List.mem_of_getElem? (i := 1456) (by decide +kernel)) rfl, lg_in (List.mem_of_getElem? (i := 1457) (by decide +kernel)) rfl⟩
theorem ml_L_50 : Cond.methodLink RL 50 yX11_womanIs ∈ lw_g := lg_in (List.mem_of_getElem? (i := 788) (by decide +kernel)) rfl
theorem mv_X11_womanIs : MV yX11_womanIs cX11_womanIs 3 (some .int) 2 := ⟨lg_in (List.mem_of_getElem? (i := 791) (by decide +kernel)) rfl, lg_in (List.mem_of_getElem? (i := 93) (by decide +kernel)) rfl, by decide +kernel⟩
theorem mi_X11_womanIs : MI yX11_womanIs := ⟨lg_in (List.mem_of_getElem? (i := 789) (by decide +kernel)) rfl, lg_in (List.mem_of_getElem? (i := 790) (by decide +kernel)) rfl⟩
theorem ml_L_53 : Cond.methodLink RL 53 yX12_womanIs ∈ lw_g := lg_in (List.mem_of_getElem? (i := 1459) (by decide +kernel)) rfl
theorem mv_X12_womanIs : MV yX12_womanIs cX12_womanIs 3 (some .int) 2 := ⟨lg_in (List.mem_of_getElem? (i := 1462) (by decide +kernel)) rfl, lg_in (List.mem_of_getElem? (i := 104) (by decide +kernel)) rfl, by decide +kernel⟩
theorem mi_X12_womanIs : MI yX12_womanIs := ⟨lg_in (List.mem_of_getElem? (i := 1460) (by decide +kernel)) rfl, lg_in (List.mem_of_getElem? (i := 1461) (by decide +kernel)) rfl⟩
theorem ml_L_54 : Cond.methodLink RL 54 yX11_doorIs ∈ lw_g := lg_in (List.mem_of_getElem? (i := 793) (by decide +kernel)) rfl
theorem mv_X11_doorIs : MV yX11_doorIs cX11_doorIs 3 (some .int) 2 := ⟨lg_in (List.mem_of_getElem? (i := 796) (by decide +kernel)) rfl, lg_in (List.mem_of_getElem? (i := 93) (by decide +kernel)) rfl, by decide +kernel⟩
theorem mi_X11_doorIs : MI yX11_doorIs := ⟨lg_in (List.mem_of_getElem? (i := 794) (by decide +kernel)) rfl, lg_in (List.mem_of_getElem? (i := 795) (by decide +kernel)) rfl⟩
theorem ml_L_57 : Cond.methodLink RL 57 yX12_doorIs ∈ lw_g := lg_in (List.mem_of_getElem? (i := 1463) (by decide +kernel)) rfl
theorem mv_X12_doorIs : MV yX12_doorIs cX12_doorIs 3 (some .int) 2 := ⟨lg_in (List.mem_of_getElem? (i := 1466) (by decide +kernel)) rfl, lg_in (List.mem_of_getElem? (i := 104) (by decide +kernel)) rfl, by decide +kernel⟩
theorem mi_X12_doorIs : MI yX12_doorIs := ⟨lg_in (List.mem_of_getElem? (i := 1464) (by decide +kernel)) rfl, lg_in (List.mem_of_getElem? (i := 1465) (by decide +kernel)) rfl⟩
theorem ml_L_58 : Cond.methodLink RL 58 yX11_kindIs ∈ lw_g := lg_in (List.mem_of_getElem? (i := 798) (by decide +kernel)) rfl
theorem mv_X11_kindIs : MV yX11_kindIs cX11_kindIs 2 (some .int) 1 := ⟨lg_in (List.mem_of_getElem? (i := 801) (by decide +kernel)) rfl, lg_in (List.mem_of_getElem? (i := 93) (by decide +kernel)) rfl, by decide +kernel⟩
theorem mi_X11_kindIs : MI yX11_kindIs := ⟨lg_in (List.mem_of_getElem? (i := 799) (by decide +kernel)) rfl, lg_in (List.mem_of_getElem? (i := 800) (by decide +kernel)) rfl⟩
theorem ml_L_61 : Cond.methodLink RL 61 yX12_kindIs ∈ lw_g := lg_in (List.mem_of_getElem? (i := 1471) (by decide +kernel)) rfl
theorem mv_X12_kindIs : MV yX12_kindIs cX12_kindIs 2 (some .int) 1 := ⟨lg_in (List.mem_of_getElem? (i := 1474) (by decide +kernel)) rfl, lg_in (List.mem_of_getElem? (i := 104) (by decide +kernel)) rfl, by decide +kernel⟩
theorem mi_X12_kindIs : MI yX12_kindIs := ⟨lg_in (List.mem_of_getElem? (i := 1472) (by decide +kernel)) rfl, lg_in (List.mem_of_getElem? (i := 1473) (by decide +kernel)) rfl⟩
theorem ml_L_62 : Cond.methodLink RL 62 yX11_getsTo ∈ lw_g := lg_in (List.mem_of_getElem? (i := 802) (by decide +kernel)) rfl
theorem mv_X11_getsTo : MV yX11_getsTo cX11_getsTo 6 (some .int) 3 := ⟨lg_in (List.mem_of_getElem? (i := 805) (by decide +kernel)) rfl, lg_in (List.mem_of_getElem? (i := 93) (by decide +kernel)) rfl, by decide +kernel⟩
theorem mi_X11_getsTo : MI yX11_getsTo := ⟨lg_in (List.mem_of_getElem? (i := 803) (by decide +kernel)) rfl, lg_in (List.mem_of_getElem? (i := 804) (by decide +kernel)) rfl⟩
theorem ml_L_66 : Cond.methodLink RL 66 yX12_getsTo ∈ lw_g := lg_in (List.mem_of_getElem? (i := 1475) (by decide +kernel)) rfl
theorem mv_X12_getsTo : MV yX12_getsTo cX12_getsTo 6 (some .int) 3 := ⟨lg_in (List.mem_of_getElem? (i := 1478) (by decide +kernel)) rfl, lg_in (List.mem_of_getElem? (i := 104) (by decide +kernel)) rfl, by decide +kernel⟩
theorem mi_X12_getsTo : MI yX12_getsTo := ⟨lg_in (List.mem_of_getElem? (i := 1476) (by decide +kernel)) rfl, lg_in (List.mem_of_getElem? (i := 1477) (by decide +kernel)) rfl⟩
theorem ml_L_67 : Cond.methodLink RL 67 yX11_near ∈ lw_g := lg_in (List.mem_of_getElem? (i := 850) (by decide +kernel)) rfl
theorem mv_X11_near : MV yX11_near cX11_near 2 (some .int) 1 := ⟨lg_in (List.mem_of_getElem? (i := 853) (by decide +kernel)) rfl, lg_in (List.mem_of_getElem? (i := 93) (by decide +kernel)) rfl, by decide +kernel⟩
theorem mi_X11_near : MI yX11_near := ⟨lg_in (List.mem_of_getElem? (i := 851) (by decide +kernel)) rfl, lg_in (List.mem_of_getElem? (i := 852) (by decide +kernel)) rfl⟩
theorem ml_L_70 : Cond.methodLink RL 70 yX12_near ∈ lw_g := lg_in (List.mem_of_getElem? (i := 1498) (by decide +kernel)) rfl
theorem mv_X12_near : MV yX12_near cX12_near 4 (some .int) 1 := ⟨lg_in (List.mem_of_getElem? (i := 1501) (by decide +kernel)) rfl, lg_in (List.mem_of_getElem? (i := 104) (by decide +kernel)) rfl, by decide +kernel⟩
theorem mi_X12_near : MI yX12_near := ⟨lg_in (List.mem_of_getElem? (i := 1499) (by decide +kernel)) rfl, lg_in (List.mem_of_getElem? (i := 1500) (by decide +kernel)) rfl⟩
theorem ml_L_71 : Cond.methodLink RL 71 yX11_atOnce ∈ lw_g := lg_in (List.mem_of_getElem? (i := 858) (by decide +kernel)) rfl
theorem mv_X11_atOnce : MV yX11_atOnce cX11_atOnce 4 (some .int) 2 := ⟨lg_in (List.mem_of_getElem? (i := 861) (by decide +kernel)) rfl, lg_in (List.mem_of_getElem? (i := 93) (by decide +kernel)) rfl, by decide +kernel⟩
theorem mi_X11_atOnce : MI yX11_atOnce := ⟨lg_in (List.mem_of_getElem? (i := 859) (by decide +kernel)) rfl, lg_in (List.mem_of_getElem? (i := 860) (by decide +kernel)) rfl⟩
theorem ml_L_74 : Cond.methodLink RL 74 yX12_atOnce ∈ lw_g := lg_in (List.mem_of_getElem? (i := 1502) (by decide +kernel)) rfl
theorem mv_X12_atOnce : MV yX12_atOnce cX12_atOnce 8 (some .int) 2 := ⟨lg_in (List.mem_of_getElem? (i := 1505) (by decide +kernel)) rfl, lg_in (List.mem_of_getElem? (i := 104) (by decide +kernel)) rfl, by decide +kernel⟩
theorem mi_X12_atOnce : MI yX12_atOnce := ⟨lg_in (List.mem_of_getElem? (i := 1503) (by decide +kernel)) rfl, lg_in (List.mem_of_getElem? (i := 1504) (by decide +kernel)) rfl⟩
theorem ml_L_75 : Cond.methodLink RL 75 yX11_enough ∈ lw_g := lg_in (List.mem_of_getElem? (i := 869) (by decide +kernel)) rfl
theorem mv_X11_enough : MV yX11_enough cX11_enough 3 (some .int) 1 := ⟨lg_in (List.mem_of_getElem? (i := 872) (by decide +kernel)) rfl, lg_in (List.mem_of_getElem? (i := 93) (by decide +kernel)) rfl, by decide +kernel⟩
theorem mi_X11_enough : MI yX11_enough := ⟨lg_in (List.mem_of_getElem? (i := 870) (by decide +kernel)) rfl, lg_in (List.mem_of_getElem? (i := 871) (by decide +kernel)) rfl⟩
theorem ml_L_78 : Cond.methodLink RL 78 yX12_enough ∈ lw_g := lg_in (List.mem_of_getElem? (i := 1511) (by decide +kernel)) rfl
theorem mv_X12_enough : MV yX12_enough cX12_enough 4 (some .int) 1 := ⟨lg_in (List.mem_of_getElem? (i := 1514) (by decide +kernel)) rfl, lg_in (List.mem_of_getElem? (i := 104) (by decide +kernel)) rfl, by decide +kernel⟩
theorem mi_X12_enough : MI yX12_enough := ⟨lg_in (List.mem_of_getElem? (i := 1512) (by decide +kernel)) rfl, lg_in (List.mem_of_getElem? (i := 1513) (by decide +kernel)) rfl⟩
theorem ml_L_79 : Cond.methodLink RL 79 yX11_nothingFits ∈ lw_g := lg_in (List.mem_of_getElem? (i := 883) (by decide +kernel)) rfl
theorem mv_X11_nothingFits : MV yX11_nothingFits cX11_nothingFits 3 (some .int) 0 := ⟨lg_in (List.mem_of_getElem? (i := 886) (by decide +kernel)) rfl, lg_in (List.mem_of_getElem? (i := 93) (by decide +kernel)) rfl, by decide +kernel⟩
theorem mi_X11_nothingFits : MI yX11_nothingFits := ⟨lg_in (List.mem_of_getElem? (i := 884) (by decide +kernel)) rfl, lg_in (List.mem_of_getElem? (i := 885) (by decide +kernel)) rfl⟩
theorem ml_L_82 : Cond.methodLink RL 82 yX12_nothingFits ∈ lw_g := lg_in (List.mem_of_getElem? (i := 1507) (by decide +kernel)) rfl
theorem mv_X12_nothingFits : MV yX12_nothingFits cX12_nothingFits 3 (some .int) 0 := ⟨lg_in (List.mem_of_getElem? (i := 1510) (by decide +kernel)) rfl, lg_in (List.mem_of_getElem? (i := 104) (by decide +kernel)) rfl, by decide +kernel⟩
theorem mi_X12_nothingFits : MI yX12_nothingFits := ⟨lg_in (List.mem_of_getElem? (i := 1508) (by decide +kernel)) rfl, lg_in (List.mem_of_getElem? (i := 1509) (by decide +kernel)) rfl⟩
theorem ml_L_83 : Cond.methodLink RL 83 yX11_bent ∈ lw_g := lg_in (List.mem_of_getElem? (i := 887) (by decide +kernel)) rfl
theorem mv_X11_bent : MV yX11_bent cX11_bent 3 (some .int) 1 := ⟨lg_in (List.mem_of_getElem? (i := 890) (by decide +kernel)) rfl, lg_in (List.mem_of_getElem? (i := 93) (by decide +kernel)) rfl, by decide +kernel⟩
theorem mi_X11_bent : MI yX11_bent := ⟨lg_in (List.mem_of_getElem? (i := 888) (by decide +kernel)) rfl, lg_in (List.mem_of_getElem? (i := 889) (by decide +kernel)) rfl⟩
theorem ml_L_86 : Cond.methodLink RL 86 yX12_bent ∈ lw_g := lg_in (List.mem_of_getElem? (i := 1519) (by decide +kernel)) rfl
theorem mv_X12_bent : MV yX12_bent cX12_bent 7 (some .int) 1 := ⟨lg_in (List.mem_of_getElem? (i := 1522) (by decide +kernel)) rfl, lg_in (List.mem_of_getElem? (i := 104) (by decide +kernel)) rfl, by decide +kernel⟩
theorem mi_X12_bent : MI yX12_bent := ⟨lg_in (List.mem_of_getElem? (i := 1520) (by decide +kernel)) rfl, lg_in (List.mem_of_getElem? (i := 1521) (by decide +kernel)) rfl⟩
theorem ml_L_87 : Cond.methodLink RL 87 yX11_prongs ∈ lw_g := lg_in (List.mem_of_getElem? (i := 911) (by decide +kernel)) rfl
theorem mv_X11_prongs : MV yX11_prongs cX11_prongs 3 (some .int) 2 := ⟨lg_in (List.mem_of_getElem? (i := 914) (by decide +kernel)) rfl, lg_in (List.mem_of_getElem? (i := 93) (by decide +kernel)) rfl, by decide +kernel⟩
theorem mi_X11_prongs : MI yX11_prongs := ⟨lg_in (List.mem_of_getElem? (i := 912) (by decide +kernel)) rfl, lg_in (List.mem_of_getElem? (i := 913) (by decide +kernel)) rfl⟩
theorem ml_L_90 : Cond.methodLink RL 90 yX12_prongs ∈ lw_g := lg_in (List.mem_of_getElem? (i := 1527) (by decide +kernel)) rfl
theorem mv_X12_prongs : MV yX12_prongs cX12_prongs 3 (some .int) 2 := ⟨lg_in (List.mem_of_getElem? (i := 1530) (by decide +kernel)) rfl, lg_in (List.mem_of_getElem? (i := 104) (by decide +kernel)) rfl, by decide +kernel⟩
theorem mi_X12_prongs : MI yX12_prongs := ⟨lg_in (List.mem_of_getElem? (i := 1528) (by decide +kernel)) rfl, lg_in (List.mem_of_getElem? (i := 1529) (by decide +kernel)) rfl⟩
theorem ml_L_91 : Cond.methodLink RL 91 yX11_landings ∈ lw_g := lg_in (List.mem_of_getElem? (i := 915) (by decide +kernel)) rfl
theorem mv_X11_landings : MV yX11_landings cX11_landings 3 (some .int) 1 := ⟨lg_in (List.mem_of_getElem? (i := 918) (by decide +kernel)) rfl, lg_in (List.mem_of_getElem? (i := 93) (by decide +kernel)) rfl, by decide +kernel⟩
theorem mi_X11_landings : MI yX11_landings := ⟨lg_in (List.mem_of_getElem? (i := 916) (by decide +kernel)) rfl, lg_in (List.mem_of_getElem? (i := 917) (by decide +kernel)) rfl⟩
theorem ml_L_94 : Cond.methodLink RL 94 yX12_landings ∈ lw_g := lg_in (List.mem_of_getElem? (i := 1531) (by decide +kernel)) rfl
theorem mv_X12_landings : MV yX12_landings cX12_landings 6 (some .int) 1 := ⟨lg_in (List.mem_of_getElem? (i := 1534) (by decide +kernel)) rfl, lg_in (List.mem_of_getElem? (i := 104) (by decide +kernel)) rfl, by decide +kernel⟩
theorem mi_X12_landings : MI yX12_landings := ⟨lg_in (List.mem_of_getElem? (i := 1532) (by decide +kernel)) rfl, lg_in (List.mem_of_getElem? (i := 1533) (by decide +kernel)) rfl⟩
theorem ml_L_95 : Cond.methodLink RL 95 yX11_curls ∈ lw_g := lg_in (List.mem_of_getElem? (i := 934) (by decide +kernel)) rfl
theorem mv_X11_curls : MV yX11_curls cX11_curls 4 (some .int) 2 := ⟨lg_in (List.mem_of_getElem? (i := 937) (by decide +kernel)) rfl, lg_in (List.mem_of_getElem? (i := 93) (by decide +kernel)) rfl, by decide +kernel⟩
theorem mi_X11_curls : MI yX11_curls := ⟨lg_in (List.mem_of_getElem? (i := 935) (by decide +kernel)) rfl, lg_in (List.mem_of_getElem? (i := 936) (by decide +kernel)) rfl⟩
theorem ml_L_98 : Cond.methodLink RL 98 yX12_curls ∈ lw_g := lg_in (List.mem_of_getElem? (i := 1543) (by decide +kernel)) rfl
theorem mv_X12_curls : MV yX12_curls cX12_curls 8 (some .int) 2 := ⟨lg_in (List.mem_of_getElem? (i := 1546) (by decide +kernel)) rfl, lg_in (List.mem_of_getElem? (i := 104) (by decide +kernel)) rfl, by decide +kernel⟩
theorem mi_X12_curls : MI yX12_curls := ⟨lg_in (List.mem_of_getElem? (i := 1544) (by decide +kernel)) rfl, lg_in (List.mem_of_getElem? (i := 1545) (by decide +kernel)) rfl⟩
theorem ml_L_99 : Cond.methodLink RL 99 yX11_rings ∈ lw_g := lg_in (List.mem_of_getElem? (i := 958) (by decide +kernel)) rfl
theorem mv_X11_rings : MV yX11_rings cX11_rings 4 (some .int) 2 := ⟨lg_in (List.mem_of_getElem? (i := 961) (by decide +kernel)) rfl, lg_in (List.mem_of_getElem? (i := 93) (by decide +kernel)) rfl, by decide +kernel⟩
theorem mi_X11_rings : MI yX11_rings := ⟨lg_in (List.mem_of_getElem? (i := 959) (by decide +kernel)) rfl, lg_in (List.mem_of_getElem? (i := 960) (by decide +kernel)) rfl⟩
theorem ml_L_102 : Cond.methodLink RL 102 yX12_rings ∈ lw_g := lg_in (List.mem_of_getElem? (i := 1554) (by decide +kernel)) rfl
theorem mv_X12_rings : MV yX12_rings cX12_rings 5 (some .int) 2 := ⟨lg_in (List.mem_of_getElem? (i := 1557) (by decide +kernel)) rfl, lg_in (List.mem_of_getElem? (i := 104) (by decide +kernel)) rfl, by decide +kernel⟩
theorem mi_X12_rings : MI yX12_rings := ⟨lg_in (List.mem_of_getElem? (i := 1555) (by decide +kernel)) rfl, lg_in (List.mem_of_getElem? (i := 1556) (by decide +kernel)) rfl⟩
theorem ml_L_103 : Cond.methodLink RL 103 yX11_dials ∈ lw_g := lg_in (List.mem_of_getElem? (i := 965) (by decide +kernel)) rfl
theorem mv_X11_dials : MV yX11_dials cX11_dials 3 (some .int) 1 := ⟨lg_in (List.mem_of_getElem? (i := 968) (by decide +kernel)) rfl, lg_in (List.mem_of_getElem? (i := 93) (by decide +kernel)) rfl, by decide +kernel⟩
theorem mi_X11_dials : MI yX11_dials := ⟨lg_in (List.mem_of_getElem? (i := 966) (by decide +kernel)) rfl, lg_in (List.mem_of_getElem? (i := 967) (by decide +kernel)) rfl⟩
theorem ml_L_106 : Cond.methodLink RL 106 yX12_dials ∈ lw_g := lg_in (List.mem_of_getElem? (i := 1558) (by decide +kernel)) rfl
theorem mv_X12_dials : MV yX12_dials cX12_dials 9 (some .int) 1 := ⟨lg_in (List.mem_of_getElem? (i := 1561) (by decide +kernel)) rfl, lg_in (List.mem_of_getElem? (i := 104) (by decide +kernel)) rfl, by decide +kernel⟩
theorem mi_X12_dials : MI yX12_dials := ⟨lg_in (List.mem_of_getElem? (i := 1559) (by decide +kernel)) rfl, lg_in (List.mem_of_getElem? (i := 1560) (by decide +kernel)) rfl⟩
theorem ml_L_107 : Cond.methodLink RL 107 yX11_dish ∈ lw_g := lg_in (List.mem_of_getElem? (i := 981) (by decide +kernel)) rfl
theorem mv_X11_dish : MV yX11_dish cX11_dish 5 (some .int) 2 := ⟨lg_in (List.mem_of_getElem? (i := 984) (by decide +kernel)) rfl, lg_in (List.mem_of_getElem? (i := 93) (by decide +kernel)) rfl, by decide +kernel⟩
theorem mi_X11_dish : MI yX11_dish := ⟨lg_in (List.mem_of_getElem? (i := 982) (by decide +kernel)) rfl, lg_in (List.mem_of_getElem? (i := 983) (by decide +kernel)) rfl⟩
theorem ml_L_110 : Cond.methodLink RL 110 yX12_dish ∈ lw_g := lg_in (List.mem_of_getElem? (i := 1562) (by decide +kernel)) rfl
theorem mv_X12_dish : MV yX12_dish cX12_dish 5 (some .int) 2 := ⟨lg_in (List.mem_of_getElem? (i := 1565) (by decide +kernel)) rfl, lg_in (List.mem_of_getElem? (i := 104) (by decide +kernel)) rfl, by decide +kernel⟩
theorem mi_X12_dish : MI yX12_dish := ⟨lg_in (List.mem_of_getElem? (i := 1563) (by decide +kernel)) rfl, lg_in (List.mem_of_getElem? (i := 1564) (by decide +kernel)) rfl⟩
theorem ml_L_111 : Cond.methodLink RL 111 yX11_thursday ∈ lw_g := lg_in (List.mem_of_getElem? (i := 995) (by decide +kernel)) rfl
theorem mv_X11_thursday : MV yX11_thursday cX11_thursday 2 (some .int) 0 := ⟨lg_in (List.mem_of_getElem? (i := 998) (by decide +kernel)) rfl, lg_in (List.mem_of_getElem? (i := 93) (by decide +kernel)) rfl, by decide +kernel⟩
theorem mi_X11_thursday : MI yX11_thursday := ⟨lg_in (List.mem_of_getElem? (i := 996) (by decide +kernel)) rfl, lg_in (List.mem_of_getElem? (i := 997) (by decide +kernel)) rfl⟩
theorem ml_L_114 : Cond.methodLink RL 114 yX12_thursday ∈ lw_g := lg_in (List.mem_of_getElem? (i := 1570) (by decide +kernel)) rfl
theorem mv_X12_thursday : MV yX12_thursday cX12_thursday 7 (some .int) 0 := ⟨lg_in (List.mem_of_getElem? (i := 1573) (by decide +kernel)) rfl, lg_in (List.mem_of_getElem? (i := 104) (by decide +kernel)) rfl, by decide +kernel⟩
theorem mi_X12_thursday : MI yX12_thursday := ⟨lg_in (List.mem_of_getElem? (i := 1571) (by decide +kernel)) rfl, lg_in (List.mem_of_getElem? (i := 1572) (by decide +kernel)) rfl⟩
theorem ml_L_115 : Cond.methodLink RL 115 yX11_seed ∈ lw_g := lg_in (List.mem_of_getElem? (i := 1008) (by decide +kernel)) rfl
theorem mv_X11_seed : MV yX11_seed cX11_seed 2 (some .boolean) 1 := ⟨lg_in (List.mem_of_getElem? (i := 1011) (by decide +kernel)) rfl, lg_in (List.mem_of_getElem? (i := 93) (by decide +kernel)) rfl, by decide +kernel⟩
theorem mi_X11_seed : MI yX11_seed := ⟨lg_in (List.mem_of_getElem? (i := 1009) (by decide +kernel)) rfl, lg_in (List.mem_of_getElem? (i := 1010) (by decide +kernel)) rfl⟩
theorem ml_L_119 : Cond.methodLink RL 119 yX12_seed ∈ lw_g := lg_in (List.mem_of_getElem? (i := 1577) (by decide +kernel)) rfl
theorem mv_X12_seed : MV yX12_seed cX12_seed 2 (some .boolean) 1 := ⟨lg_in (List.mem_of_getElem? (i := 1580) (by decide +kernel)) rfl, lg_in (List.mem_of_getElem? (i := 104) (by decide +kernel)) rfl, by decide +kernel⟩
theorem mi_X12_seed : MI yX12_seed := ⟨lg_in (List.mem_of_getElem? (i := 1578) (by decide +kernel)) rfl, lg_in (List.mem_of_getElem? (i := 1579) (by decide +kernel)) rfl⟩
theorem ml_L_120 : Cond.methodLink RL 120 yX11_keep ∈ lw_g := lg_in (List.mem_of_getElem? (i := 1013) (by decide +kernel)) rfl
theorem mv_X11_keep : MV yX11_keep cX11_keep 1 (some .int) 0 := ⟨lg_in (List.mem_of_getElem? (i := 1016) (by decide +kernel)) rfl, lg_in (List.mem_of_getElem? (i := 93) (by decide +kernel)) rfl, by decide +kernel⟩
theorem mi_X11_keep : MI yX11_keep := ⟨lg_in (List.mem_of_getElem? (i := 1014) (by decide +kernel)) rfl, lg_in (List.mem_of_getElem? (i := 1015) (by decide +kernel)) rfl⟩
theorem ml_L_123 : Cond.methodLink RL 123 yX12_keep ∈ lw_g := lg_in (List.mem_of_getElem? (i := 1582) (by decide +kernel)) rfl
theorem mv_X12_keep : MV yX12_keep cX12_keep 1 (some .int) 0 := ⟨lg_in (List.mem_of_getElem? (i := 1585) (by decide +kernel)) rfl, lg_in (List.mem_of_getElem? (i := 104) (by decide +kernel)) rfl, by decide +kernel⟩
theorem mi_X12_keep : MI yX12_keep := ⟨lg_in (List.mem_of_getElem? (i := 1583) (by decide +kernel)) rfl, lg_in (List.mem_of_getElem? (i := 1584) (by decide +kernel)) rfl⟩
theorem ml_L_124 : Cond.methodLink RL 124 yX11_undo ∈ lw_g := lg_in (List.mem_of_getElem? (i := 1017) (by decide +kernel)) rfl
theorem mv_X11_undo : MV yX11_undo cX11_undo 1 (some .boolean) 0 := ⟨lg_in (List.mem_of_getElem? (i := 1020) (by decide +kernel)) rfl, lg_in (List.mem_of_getElem? (i := 93) (by decide +kernel)) rfl, by decide +kernel⟩
theorem mi_X11_undo : MI yX11_undo := ⟨lg_in (List.mem_of_getElem? (i := 1018) (by decide +kernel)) rfl, lg_in (List.mem_of_getElem? (i := 1019) (by decide +kernel)) rfl⟩
theorem ml_L_128 : Cond.methodLink RL 128 yX12_undo ∈ lw_g := lg_in (List.mem_of_getElem? (i := 1586) (by decide +kernel)) rfl
theorem mv_X12_undo : MV yX12_undo cX12_undo 1 (some .boolean) 0 := ⟨lg_in (List.mem_of_getElem? (i := 1589) (by decide +kernel)) rfl, lg_in (List.mem_of_getElem? (i := 104) (by decide +kernel)) rfl, by decide +kernel⟩
theorem mi_X12_undo : MI yX12_undo := ⟨lg_in (List.mem_of_getElem? (i := 1587) (by decide +kernel)) rfl, lg_in (List.mem_of_getElem? (i := 1588) (by decide +kernel)) rfl⟩
theorem ml_L_129 : Cond.methodLink RL 129 yX11_check ∈ lw_g := lg_in (List.mem_of_getElem? (i := 1021) (by decide +kernel)) rfl
theorem mv_X11_check : MV yX11_check cX11_check 5 (some .int) 1 := ⟨lg_in (List.mem_of_getElem? (i := 1024) (by decide +kernel)) rfl, lg_in (List.mem_of_getElem? (i := 93) (by decide +kernel)) rfl, by decide +kernel⟩
theorem mi_X11_check : MI yX11_check := ⟨lg_in (List.mem_of_getElem? (i := 1022) (by decide +kernel)) rfl, lg_in (List.mem_of_getElem? (i := 1023) (by decide +kernel)) rfl⟩
theorem ml_L_132 : Cond.methodLink RL 132 yX12_check ∈ lw_g := lg_in (List.mem_of_getElem? (i := 1590) (by decide +kernel)) rfl
theorem mv_X12_check : MV yX12_check cX12_check 3 (some .int) 1 := ⟨lg_in (List.mem_of_getElem? (i := 1593) (by decide +kernel)) rfl, lg_in (List.mem_of_getElem? (i := 104) (by decide +kernel)) rfl, by decide +kernel⟩
theorem mi_X12_check : MI yX12_check := ⟨lg_in (List.mem_of_getElem? (i := 1591) (by decide +kernel)) rfl, lg_in (List.mem_of_getElem? (i := 1592) (by decide +kernel)) rfl⟩
theorem ml_L_133 : Cond.methodLink RL 133 yX11_count ∈ lw_g := lg_in (List.mem_of_getElem? (i := 1025) (by decide +kernel)) rfl
theorem mv_X11_count : MV yX11_count cX11_count 2 (some .int) 1 := ⟨lg_in (List.mem_of_getElem? (i := 1028) (by decide +kernel)) rfl, lg_in (List.mem_of_getElem? (i := 93) (by decide +kernel)) rfl, by decide +kernel⟩
theorem mi_X11_count : MI yX11_count := ⟨lg_in (List.mem_of_getElem? (i := 1026) (by decide +kernel)) rfl, lg_in (List.mem_of_getElem? (i := 1027) (by decide +kernel)) rfl⟩
theorem ml_L_136 : Cond.methodLink RL 136 yX12_count ∈ lw_g := lg_in (List.mem_of_getElem? (i := 1594) (by decide +kernel)) rfl
theorem mv_X12_count : MV yX12_count cX12_count 2 (some .int) 1 := ⟨lg_in (List.mem_of_getElem? (i := 1597) (by decide +kernel)) rfl, lg_in (List.mem_of_getElem? (i := 104) (by decide +kernel)) rfl, by decide +kernel⟩
theorem mi_X12_count : MI yX12_count := ⟨lg_in (List.mem_of_getElem? (i := 1595) (by decide +kernel)) rfl, lg_in (List.mem_of_getElem? (i := 1596) (by decide +kernel)) rfl⟩
theorem lays_LETTERS : Cond.laysStatic RX2 "LETTERS" "[C" ∈ lw_tbl := List.mem_of_getElem? (i := 491) (by decide +kernel)
theorem lays_CHOOSE : Cond.laysStatic RX6 "CHOOSE" "[I" ∈ lw_tbl := List.mem_of_getElem? (i := 826) (by decide +kernel)
