theorem fl_X1_15 : FL RX1 15 1 2 := ⟨(RX1, TX1, 3), tyX1, rfl, inX1, by decide, lg_in (List.mem_of_getElem? (i := 173) (by decide +kernel)) rfl, tyX1_ok, nmX1⟩
theorem fl_X1_52 : FL RX1 52 6 2 := ⟨(RX7, TX7, 5), tyX7, rfl, inX7, by decide, lg_in (List.mem_of_getElem? (i := 146) (by decide +kernel)) rfl, tyX7_ok, nmX7⟩
theorem fl_X11_140 : FL RX11 140 1 1 := ⟨(RX1, TX1, 3), tyX1, rfl, inX1, by decide, lg_in (List.mem_of_getElem? (i := 172) (by decide +kernel)) rfl, tyX1_ok, nmX1⟩
theorem fl_X11_30 : FL RX11 30 10 2 := ⟨(RX11, TX11, 14), tyX11, rfl, inX11, by decide, lg_in (List.mem_of_getElem? (i := 381) (by decide +kernel)) rfl, tyX11_ok, nmX11⟩
theorem fl_X3_15 : FL RX3 15 3 1 := ⟨(RX3, TX3, 2), tyX3, rfl, inX3, by decide, lg_in (List.mem_of_getElem? (i := 373) (by decide +kernel)) rfl, tyX3_ok, nmX3⟩
theorem fl_X3_40 : FL RX3 40 6 3 := ⟨(RX7, TX7, 5), tyX7, rfl, inX7, by decide, lg_in (List.mem_of_getElem? (i := 147) (by decide +kernel)) rfl, tyX7_ok, nmX7⟩
theorem fl_X3_51 : FL RX3 51 2 8 := ⟨(RX2, TX2, 9), tyX2, rfl, inX2, by decide, lg_in (List.mem_of_getElem? (i := 345) (by decide +kernel)) rfl, tyX2_ok, nmX2⟩
theorem fl_X3_57 : FL RX3 57 2 7 := ⟨(RX2, TX2, 9), tyX2, rfl, inX2, by decide, lg_in (List.mem_of_getElem? (i := 343) (by decide +kernel)) rfl, tyX2_ok, nmX2⟩
theorem ml_X1_22 : Cond.methodLink RX1 22 yJ7_fill_53178 ∈ lw_g := lg_in (List.mem_of_getElem? (i := 560) (by decide +kernel)) rfl
theorem ml_X1_28 : Cond.methodLink RX1 28 yX1_readPins ∈ lw_g := lg_in (List.mem_of_getElem? (i := 563) (by decide +kernel)) rfl
theorem ml_X1_32 : Cond.methodLink RX1 32 yX7_isSound ∈ lw_g := lg_in (List.mem_of_getElem? (i := 567) (by decide +kernel)) rfl
theorem ml_X1_38 : Cond.methodLink RX1 38 yX1_endsHere ∈ lw_g := lg_in (List.mem_of_getElem? (i := 568) (by decide +kernel)) rfl
theorem ml_X1_42 : Cond.methodLink RX1 42 yX1_readItem ∈ lw_g := lg_in (List.mem_of_getElem? (i := 573) (by decide +kernel)) rfl
theorem ml_X1_59 : Cond.methodLink RX1 59 yX7_step ∈ lw_g := lg_in (List.mem_of_getElem? (i := 578) (by decide +kernel)) rfl
theorem ml_X1_62 : Cond.methodLink RX1 62 yX1_readGroup ∈ lw_g := lg_in (List.mem_of_getElem? (i := 579) (by decide +kernel)) rfl
theorem ml_X1_66 : Cond.methodLink RX1 66 yX7_fail ∈ lw_g := lg_in (List.mem_of_getElem? (i := 583) (by decide +kernel)) rfl
theorem ml_X1_69 : Cond.methodLink RX1 69 yX1_pinsSoFar ∈ lw_g := lg_in (List.mem_of_getElem? (i := 588) (by decide +kernel)) rfl
theorem ml_X1_73 : Cond.methodLink RX1 73 arraycopyName ∈ lw_g := lg_in (List.mem_of_getElem? (i := 584) (by decide +kernel)) rfl
theorem ml_X1_79 : Cond.methodLink RX1 79 yX7_want ∈ lw_g := lg_in (List.mem_of_getElem? (i := 587) (by decide +kernel)) rfl
theorem ml_X11_138 : Cond.methodLink RX11 138 yX1_read ∈ lw_g := lg_in (List.mem_of_getElem? (i := 556) (by decide +kernel)) rfl
theorem ml_X11_144 : Cond.methodLink RX11 144 yX9_dress ∈ lw_g := lg_in (List.mem_of_getElem? (i := 592) (by decide +kernel)) rfl
theorem ml_X3_101 : Cond.methodLink RX3 101 yX7_number ∈ lw_g := lg_in (List.mem_of_getElem? (i := 506) (by decide +kernel)) rfl
theorem ml_X3_19 : Cond.methodLink RX3 19 yX2_clear ∈ lw_g := lg_in (List.mem_of_getElem? (i := 458) (by decide +kernel)) rfl
theorem ml_X3_24 : Cond.methodLink RX3 24 yX7_isSound ∈ lw_g := lg_in (List.mem_of_getElem? (i := 462) (by decide +kernel)) rfl
theorem ml_X3_30 : Cond.methodLink RX3 30 yX3_readRule ∈ lw_g := lg_in (List.mem_of_getElem? (i := 466) (by decide +kernel)) rfl
theorem ml_X3_33 : Cond.methodLink RX3 33 yX7_isAtEnd ∈ lw_g := lg_in (List.mem_of_getElem? (i := 539) (by decide +kernel)) rfl
theorem ml_X3_36 : Cond.methodLink RX3 36 yX7_want ∈ lw_g := lg_in (List.mem_of_getElem? (i := 496) (by decide +kernel)) rfl
theorem ml_X3_60 : Cond.methodLink RX3 60 yX3_readSum ∈ lw_g := lg_in (List.mem_of_getElem? (i := 475) (by decide +kernel)) rfl
theorem ml_X3_63 : Cond.methodLink RX3 63 yX3_readChoice ∈ lw_g := lg_in (List.mem_of_getElem? (i := 514) (by decide +kernel)) rfl
theorem ml_X3_66 : Cond.methodLink RX3 66 yX2_endRule ∈ lw_g := lg_in (List.mem_of_getElem? (i := 535) (by decide +kernel)) rfl
theorem ml_X3_70 : Cond.methodLink RX3 70 yX3_readPart ∈ lw_g := lg_in (List.mem_of_getElem? (i := 518) (by decide +kernel)) rfl
theorem ml_X3_73 : Cond.methodLink RX3 73 yX7_take ∈ lw_g := lg_in (List.mem_of_getElem? (i := 526) (by decide +kernel)) rfl
theorem ml_X3_77 : Cond.methodLink RX3 77 yX2_add ∈ lw_g := lg_in (List.mem_of_getElem? (i := 501) (by decide +kernel)) rfl
theorem ml_X3_81 : Cond.methodLink RX3 81 yX2_landJumps ∈ lw_g := lg_in (List.mem_of_getElem? (i := 530) (by decide +kernel)) rfl
theorem ml_X3_84 : Cond.methodLink RX3 84 yX3_readTest ∈ lw_g := lg_in (List.mem_of_getElem? (i := 522) (by decide +kernel)) rfl
theorem ml_X3_87 : Cond.methodLink RX3 87 yX3_mayOpen ∈ lw_g := lg_in (List.mem_of_getElem? (i := 492) (by decide +kernel)) rfl
theorem ml_X3_90 : Cond.methodLink RX3 90 yX3_readTerm ∈ lw_g := lg_in (List.mem_of_getElem? (i := 479) (by decide +kernel)) rfl
theorem ml_X3_93 : Cond.methodLink RX3 93 yX3_readFactor ∈ lw_g := lg_in (List.mem_of_getElem? (i := 483) (by decide +kernel)) rfl
theorem ml_X3_96 : Cond.methodLink RX3 96 yX2_letterAt ∈ lw_g := lg_in (List.mem_of_getElem? (i := 487) (by decide +kernel)) rfl
theorem mn_X1_55 : Cond.methodLinkNest RX1 55 yX11_isWithin "HairpinLocks" ∈ nwl := List.mem_filter.mpr ⟨List.mem_of_getElem? (i := 577) (by decide +kernel), rfl⟩
theorem ct_X3_100 : Cond.constant RX3 100 99999 ∈ lw_g := lg_in (List.mem_of_getElem? (i := 505) (by decide +kernel)) rfl
theorem mv_X1_endsHere : MV yX1_endsHere cX1_endsHere 2 (some .boolean) 1 := ⟨lg_in (List.mem_of_getElem? (i := 571) (by decide +kernel)) rfl, lg_in (List.mem_of_getElem? (i := 96) (by decide +kernel)) rfl, by decide +kernel⟩
theorem mi_X1_endsHere : MI yX1_endsHere := ⟨lg_in (List.mem_of_getElem? (i := 570) (by decide +kernel)) rfl, lg_in (List.mem_of_getElem? (i := 9) (by decide +kernel)) rfl⟩
theorem mv_X1_pinsSoFar : MV yX1_pinsSoFar cX1_pinsSoFar 3 (some .int) 0 := ⟨lg_in (List.mem_of_getElem? (i := 591) (by decide +kernel)) rfl, lg_in (List.mem_of_getElem? (i := 96) (by decide +kernel)) rfl, by decide +kernel⟩
theorem mi_X1_pinsSoFar : MI yX1_pinsSoFar := ⟨lg_in (List.mem_of_getElem? (i := 590) (by decide +kernel)) rfl, lg_in (List.mem_of_getElem? (i := 12) (by decide +kernel)) rfl⟩
theorem mv_X1_read : MV yX1_read cX1_read 1 none 0 := ⟨lg_in (List.mem_of_getElem? (i := 559) (by decide +kernel)) rfl, lg_in (List.mem_of_getElem? (i := 96) (by decide +kernel)) rfl, by decide +kernel⟩
theorem mi_X1_read : MI yX1_read := ⟨lg_in (List.mem_of_getElem? (i := 557) (by decide +kernel)) rfl, lg_in (List.mem_of_getElem? (i := 558) (by decide +kernel)) rfl⟩
theorem mv_X1_readGroup : MV yX1_readGroup cX1_readGroup 4 none 2 := ⟨lg_in (List.mem_of_getElem? (i := 582) (by decide +kernel)) rfl, lg_in (List.mem_of_getElem? (i := 96) (by decide +kernel)) rfl, by decide +kernel⟩
theorem mi_X1_readGroup : MI yX1_readGroup := ⟨lg_in (List.mem_of_getElem? (i := 581) (by decide +kernel)) rfl, lg_in (List.mem_of_getElem? (i := 11) (by decide +kernel)) rfl⟩
theorem mv_X1_readItem : MV yX1_readItem cX1_readItem 4 none 1 := ⟨lg_in (List.mem_of_getElem? (i := 576) (by decide +kernel)) rfl, lg_in (List.mem_of_getElem? (i := 96) (by decide +kernel)) rfl, by decide +kernel⟩
theorem mi_X1_readItem : MI yX1_readItem := ⟨lg_in (List.mem_of_getElem? (i := 575) (by decide +kernel)) rfl, lg_in (List.mem_of_getElem? (i := 10) (by decide +kernel)) rfl⟩
theorem mv_X1_readPins : MV yX1_readPins cX1_readPins 3 none 1 := ⟨lg_in (List.mem_of_getElem? (i := 566) (by decide +kernel)) rfl, lg_in (List.mem_of_getElem? (i := 96) (by decide +kernel)) rfl, by decide +kernel⟩
theorem mi_X1_readPins : MI yX1_readPins := ⟨lg_in (List.mem_of_getElem? (i := 565) (by decide +kernel)) rfl, lg_in (List.mem_of_getElem? (i := 8) (by decide +kernel)) rfl⟩
theorem mv_X2_add : MV yX2_add cX2_add 3 (some .int) 2 := ⟨lg_in (List.mem_of_getElem? (i := 504) (by decide +kernel)) rfl, lg_in (List.mem_of_getElem? (i := 102) (by decide +kernel)) rfl, by decide +kernel⟩
theorem mi_X2_add : MI yX2_add := ⟨lg_in (List.mem_of_getElem? (i := 502) (by decide +kernel)) rfl, lg_in (List.mem_of_getElem? (i := 503) (by decide +kernel)) rfl⟩
theorem mv_X2_clear : MV yX2_clear cX2_clear 1 none 0 := ⟨lg_in (List.mem_of_getElem? (i := 461) (by decide +kernel)) rfl, lg_in (List.mem_of_getElem? (i := 102) (by decide +kernel)) rfl, by decide +kernel⟩
theorem mi_X2_clear : MI yX2_clear := ⟨lg_in (List.mem_of_getElem? (i := 459) (by decide +kernel)) rfl, lg_in (List.mem_of_getElem? (i := 460) (by decide +kernel)) rfl⟩
theorem mv_X2_endRule : MV yX2_endRule cX2_endRule 4 none 3 := ⟨lg_in (List.mem_of_getElem? (i := 538) (by decide +kernel)) rfl, lg_in (List.mem_of_getElem? (i := 102) (by decide +kernel)) rfl, by decide +kernel⟩
theorem mi_X2_endRule : MI yX2_endRule := ⟨lg_in (List.mem_of_getElem? (i := 536) (by decide +kernel)) rfl, lg_in (List.mem_of_getElem? (i := 537) (by decide +kernel)) rfl⟩
theorem mv_X2_landJumps : MV yX2_landJumps cX2_landJumps 5 none 1 := ⟨lg_in (List.mem_of_getElem? (i := 533) (by decide +kernel)) rfl, lg_in (List.mem_of_getElem? (i := 102) (by decide +kernel)) rfl, by decide +kernel⟩
theorem mi_X2_landJumps : MI yX2_landJumps := ⟨lg_in (List.mem_of_getElem? (i := 531) (by decide +kernel)) rfl, lg_in (List.mem_of_getElem? (i := 532) (by decide +kernel)) rfl⟩
theorem mv_X2_letterAt : MV yX2_letterAt cX2_letterAt 2 (some .int) 1 := ⟨lg_in (List.mem_of_getElem? (i := 489) (by decide +kernel)) rfl, lg_in (List.mem_of_getElem? (i := 102) (by decide +kernel)) rfl, by decide +kernel⟩
theorem ms_X2_letterAt : Cond.static yX2_letterAt ∈ lw_g := lg_in (List.mem_of_getElem? (i := 488) (by decide +kernel)) rfl
theorem mv_X3_mayOpen : MV yX3_mayOpen cX3_mayOpen 2 (some .boolean) 1 := ⟨lg_in (List.mem_of_getElem? (i := 495) (by decide +kernel)) rfl, lg_in (List.mem_of_getElem? (i := 103) (by decide +kernel)) rfl, by decide +kernel⟩
theorem mi_X3_mayOpen : MI yX3_mayOpen := ⟨lg_in (List.mem_of_getElem? (i := 494) (by decide +kernel)) rfl, lg_in (List.mem_of_getElem? (i := 4) (by decide +kernel)) rfl⟩
theorem mv_X3_readChoice : MV yX3_readChoice cX3_readChoice 4 none 1 := ⟨lg_in (List.mem_of_getElem? (i := 517) (by decide +kernel)) rfl, lg_in (List.mem_of_getElem? (i := 103) (by decide +kernel)) rfl, by decide +kernel⟩
theorem mi_X3_readChoice : MI yX3_readChoice := ⟨lg_in (List.mem_of_getElem? (i := 516) (by decide +kernel)) rfl, lg_in (List.mem_of_getElem? (i := 5) (by decide +kernel)) rfl⟩
theorem mv_X3_readFactor : MV yX3_readFactor cX3_readFactor 3 none 1 := ⟨lg_in (List.mem_of_getElem? (i := 486) (by decide +kernel)) rfl, lg_in (List.mem_of_getElem? (i := 103) (by decide +kernel)) rfl, by decide +kernel⟩
theorem mi_X3_readFactor : MI yX3_readFactor := ⟨lg_in (List.mem_of_getElem? (i := 485) (by decide +kernel)) rfl, lg_in (List.mem_of_getElem? (i := 3) (by decide +kernel)) rfl⟩
theorem mv_X3_readPart : MV yX3_readPart cX3_readPart 4 none 1 := ⟨lg_in (List.mem_of_getElem? (i := 521) (by decide +kernel)) rfl, lg_in (List.mem_of_getElem? (i := 103) (by decide +kernel)) rfl, by decide +kernel⟩
theorem mi_X3_readPart : MI yX3_readPart := ⟨lg_in (List.mem_of_getElem? (i := 520) (by decide +kernel)) rfl, lg_in (List.mem_of_getElem? (i := 6) (by decide +kernel)) rfl⟩
theorem mv_X3_readRule : MV yX3_readRule cX3_readRule 4 none 0 := ⟨lg_in (List.mem_of_getElem? (i := 469) (by decide +kernel)) rfl, lg_in (List.mem_of_getElem? (i := 103) (by decide +kernel)) rfl, by decide +kernel⟩
theorem mi_X3_readRule : MI yX3_readRule := ⟨lg_in (List.mem_of_getElem? (i := 468) (by decide +kernel)) rfl, lg_in (List.mem_of_getElem? (i := 0) (by decide +kernel)) rfl⟩
theorem mv_X3_readSum : MV yX3_readSum cX3_readSum 4 none 1 := ⟨lg_in (List.mem_of_getElem? (i := 478) (by decide +kernel)) rfl, lg_in (List.mem_of_getElem? (i := 103) (by decide +kernel)) rfl, by decide +kernel⟩
theorem mi_X3_readSum : MI yX3_readSum := ⟨lg_in (List.mem_of_getElem? (i := 477) (by decide +kernel)) rfl, lg_in (List.mem_of_getElem? (i := 1) (by decide +kernel)) rfl⟩
theorem mv_X3_readTerm : MV yX3_readTerm cX3_readTerm 4 none 1 := ⟨lg_in (List.mem_of_getElem? (i := 482) (by decide +kernel)) rfl, lg_in (List.mem_of_getElem? (i := 103) (by decide +kernel)) rfl, by decide +kernel⟩
theorem mi_X3_readTerm : MI yX3_readTerm := ⟨lg_in (List.mem_of_getElem? (i := 481) (by decide +kernel)) rfl, lg_in (List.mem_of_getElem? (i := 2) (by decide +kernel)) rfl⟩
theorem mv_X3_readTest : MV yX3_readTest cX3_readTest 3 none 1 := ⟨lg_in (List.mem_of_getElem? (i := 525) (by decide +kernel)) rfl, lg_in (List.mem_of_getElem? (i := 103) (by decide +kernel)) rfl, by decide +kernel⟩
theorem mi_X3_readTest : MI yX3_readTest := ⟨lg_in (List.mem_of_getElem? (i := 524) (by decide +kernel)) rfl, lg_in (List.mem_of_getElem? (i := 7) (by decide +kernel)) rfl⟩
theorem mv_X9_dress : MV yX9_dress cX9_dress 3 none 2 := ⟨lg_in (List.mem_of_getElem? (i := 595) (by decide +kernel)) rfl, lg_in (List.mem_of_getElem? (i := 99) (by decide +kernel)) rfl, by decide +kernel⟩
theorem mi_X9_dress : MI yX9_dress := ⟨lg_in (List.mem_of_getElem? (i := 593) (by decide +kernel)) rfl, lg_in (List.mem_of_getElem? (i := 594) (by decide +kernel)) rfl⟩
