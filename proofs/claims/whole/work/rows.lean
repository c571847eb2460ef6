section
-- ===== PART A: goes FIRST, ahead of the names: the tables' words, and 'selects' of the private methods out of them =====
/-- a private method of a class that the tables say can be made, by its rows of tables_1 -/
def lw_okq (q : MethodName × Nat) : Prop := (q.1.cls ≠ "java/lang/invoke/MethodHandle" ∧ q.1.cls ≠ "java/lang/invoke/VarHandle") ∧ Cond.instantiable q.1.cls q.2 ∈ tables_1 ∧ Cond.privateMethod q.1 ∈ tables_1 ∧ Cond.instanceMethod q.1 ∈ tables_1
theorem lw_p0 : lw_okq (⟨"HairpinLocks$LawReader", "readRule", "()V"⟩, 2) := ⟨⟨by decide +kernel, by decide +kernel⟩, List.mem_of_getElem? (i := 272) (by decide +kernel), List.mem_of_getElem? (i := 368) (by decide +kernel), List.mem_of_getElem? (i := 369) (by decide +kernel)⟩
theorem lw_p1 : lw_okq (⟨"HairpinLocks$LawReader", "readSum", "(I)V"⟩, 2) := ⟨⟨by decide +kernel, by decide +kernel⟩, List.mem_of_getElem? (i := 272) (by decide +kernel), List.mem_of_getElem? (i := 384) (by decide +kernel), List.mem_of_getElem? (i := 385) (by decide +kernel)⟩
theorem lw_p2 : lw_okq (⟨"HairpinLocks$LawReader", "readTerm", "(I)V"⟩, 2) := ⟨⟨by decide +kernel, by decide +kernel⟩, List.mem_of_getElem? (i := 272) (by decide +kernel), List.mem_of_getElem? (i := 388) (by decide +kernel), List.mem_of_getElem? (i := 389) (by decide +kernel)⟩
theorem lw_p3 : lw_okq (⟨"HairpinLocks$LawReader", "readFactor", "(I)V"⟩, 2) := ⟨⟨by decide +kernel, by decide +kernel⟩, List.mem_of_getElem? (i := 272) (by decide +kernel), List.mem_of_getElem? (i := 392) (by decide +kernel), List.mem_of_getElem? (i := 393) (by decide +kernel)⟩
theorem lw_p4 : lw_okq (⟨"HairpinLocks$LawReader", "mayOpen", "(I)Z"⟩, 2) := ⟨⟨by decide +kernel, by decide +kernel⟩, List.mem_of_getElem? (i := 272) (by decide +kernel), List.mem_of_getElem? (i := 401) (by decide +kernel), List.mem_of_getElem? (i := 402) (by decide +kernel)⟩
theorem lw_p5 : lw_okq (⟨"HairpinLocks$LawReader", "readChoice", "(I)V"⟩, 2) := ⟨⟨by decide +kernel, by decide +kernel⟩, List.mem_of_getElem? (i := 272) (by decide +kernel), List.mem_of_getElem? (i := 428) (by decide +kernel), List.mem_of_getElem? (i := 429) (by decide +kernel)⟩
theorem lw_p6 : lw_okq (⟨"HairpinLocks$LawReader", "readPart", "(I)V"⟩, 2) := ⟨⟨by decide +kernel, by decide +kernel⟩, List.mem_of_getElem? (i := 272) (by decide +kernel), List.mem_of_getElem? (i := 432) (by decide +kernel), List.mem_of_getElem? (i := 433) (by decide +kernel)⟩
theorem lw_p7 : lw_okq (⟨"HairpinLocks$LawReader", "readTest", "(I)V"⟩, 2) := ⟨⟨by decide +kernel, by decide +kernel⟩, List.mem_of_getElem? (i := 272) (by decide +kernel), List.mem_of_getElem? (i := 436) (by decide +kernel), List.mem_of_getElem? (i := 437) (by decide +kernel)⟩
theorem lw_p8 : lw_okq (⟨"HairpinLocks$LawReader", "readComparison", "(I)V"⟩, 2) := ⟨⟨by decide +kernel, by decide +kernel⟩, List.mem_of_getElem? (i := 272) (by decide +kernel), List.mem_of_getElem? (i := 440) (by decide +kernel), List.mem_of_getElem? (i := 441) (by decide +kernel)⟩
theorem lw_p9 : lw_okq (⟨"HairpinLocks$HairReader", "readPins", "(I)V"⟩, 4) := ⟨⟨by decide +kernel, by decide +kernel⟩, List.mem_of_getElem? (i := 65) (by decide +kernel), List.mem_of_getElem? (i := 475) (by decide +kernel), List.mem_of_getElem? (i := 476) (by decide +kernel)⟩
theorem lw_p10 : lw_okq (⟨"HairpinLocks$HairReader", "endsHere", "(I)Z"⟩, 4) := ⟨⟨by decide +kernel, by decide +kernel⟩, List.mem_of_getElem? (i := 65) (by decide +kernel), List.mem_of_getElem? (i := 486) (by decide +kernel), List.mem_of_getElem? (i := 487) (by decide +kernel)⟩
theorem lw_p11 : lw_okq (⟨"HairpinLocks$HairReader", "readItem", "(I)V"⟩, 4) := ⟨⟨by decide +kernel, by decide +kernel⟩, List.mem_of_getElem? (i := 65) (by decide +kernel), List.mem_of_getElem? (i := 492) (by decide +kernel), List.mem_of_getElem? (i := 493) (by decide +kernel)⟩
theorem lw_p12 : lw_okq (⟨"HairpinLocks$HairReader", "add", "(III)V"⟩, 4) := ⟨⟨by decide +kernel, by decide +kernel⟩, List.mem_of_getElem? (i := 65) (by decide +kernel), List.mem_of_getElem? (i := 497) (by decide +kernel), List.mem_of_getElem? (i := 498) (by decide +kernel)⟩
theorem lw_p13 : lw_okq (⟨"HairpinLocks$HairReader", "readGroup", "(II)V"⟩, 4) := ⟨⟨by decide +kernel, by decide +kernel⟩, List.mem_of_getElem? (i := 65) (by decide +kernel), List.mem_of_getElem? (i := 501) (by decide +kernel), List.mem_of_getElem? (i := 502) (by decide +kernel)⟩
theorem lw_p14 : lw_okq (⟨"HairpinLocks$OrdersReader", "readLine", "()V"⟩, 8) := ⟨⟨by decide +kernel, by decide +kernel⟩, List.mem_of_getElem? (i := 85) (by decide +kernel), List.mem_of_getElem? (i := 529) (by decide +kernel), List.mem_of_getElem? (i := 530) (by decide +kernel)⟩
theorem lw_p15 : lw_okq (⟨"HairpinLocks$OrdersReader", "readKind", "()V"⟩, 8) := ⟨⟨by decide +kernel, by decide +kernel⟩, List.mem_of_getElem? (i := 85) (by decide +kernel), List.mem_of_getElem? (i := 537) (by decide +kernel), List.mem_of_getElem? (i := 538) (by decide +kernel)⟩
def lw_privs_1 : List (MethodName × Nat) := [(⟨"HairpinLocks$LawReader", "readRule", "()V"⟩, 2), (⟨"HairpinLocks$LawReader", "readSum", "(I)V"⟩, 2), (⟨"HairpinLocks$LawReader", "readTerm", "(I)V"⟩, 2), (⟨"HairpinLocks$LawReader", "readFactor", "(I)V"⟩, 2), (⟨"HairpinLocks$LawReader", "mayOpen", "(I)Z"⟩, 2), (⟨"HairpinLocks$LawReader", "readChoice", "(I)V"⟩, 2), (⟨"HairpinLocks$LawReader", "readPart", "(I)V"⟩, 2), (⟨"HairpinLocks$LawReader", "readTest", "(I)V"⟩, 2), (⟨"HairpinLocks$LawReader", "readComparison", "(I)V"⟩, 2), (⟨"HairpinLocks$HairReader", "readPins", "(I)V"⟩, 4), (⟨"HairpinLocks$HairReader", "endsHere", "(I)Z"⟩, 4), (⟨"HairpinLocks$HairReader", "readItem", "(I)V"⟩, 4), (⟨"HairpinLocks$HairReader", "add", "(III)V"⟩, 4), (⟨"HairpinLocks$HairReader", "readGroup", "(II)V"⟩, 4), (⟨"HairpinLocks$OrdersReader", "readLine", "()V"⟩, 8), (⟨"HairpinLocks$OrdersReader", "readKind", "()V"⟩, 8)]
theorem lw_r1 : ∀ q ∈ lw_privs_1, lw_okq q := List.forall_mem_cons.mpr ⟨lw_p0, List.forall_mem_cons.mpr ⟨lw_p1, List.forall_mem_cons.mpr ⟨lw_p2, List.forall_mem_cons.mpr ⟨lw_p3, List.forall_mem_cons.mpr ⟨lw_p4, List.forall_mem_cons.mpr ⟨lw_p5, List.forall_mem_cons.mpr ⟨lw_p6, List.forall_mem_cons.mpr ⟨lw_p7, List.forall_mem_cons.mpr ⟨lw_p8, List.forall_mem_cons.mpr ⟨lw_p9, List.forall_mem_cons.mpr ⟨lw_p10, List.forall_mem_cons.mpr ⟨lw_p11, List.forall_mem_cons.mpr ⟨lw_p12, List.forall_mem_cons.mpr ⟨lw_p13, List.forall_mem_cons.mpr ⟨lw_p14, List.forall_mem_cons.mpr ⟨lw_p15, fun _ h => absurd h List.not_mem_nil⟩⟩⟩⟩⟩⟩⟩⟩⟩⟩⟩⟩⟩⟩⟩⟩
theorem lw_p16 : lw_okq (⟨"HairpinLocks$OrdersReader", "readDoor", "()V"⟩, 8) := ⟨⟨by decide +kernel, by decide +kernel⟩, List.mem_of_getElem? (i := 85) (by decide +kernel), List.mem_of_getElem? (i := 547) (by decide +kernel), List.mem_of_getElem? (i := 548) (by decide +kernel)⟩
theorem lw_p17 : lw_okq (⟨"HairpinLocks$OrdersReader", "readRooms", "()V"⟩, 8) := ⟨⟨by decide +kernel, by decide +kernel⟩, List.mem_of_getElem? (i := 85) (by decide +kernel), List.mem_of_getElem? (i := 552) (by decide +kernel), List.mem_of_getElem? (i := 553) (by decide +kernel)⟩
theorem lw_p18 : lw_okq (⟨"HairpinLocks$Walk", "step", "(LHairpinLocks$Town;LHairpinLocks$Doors;LHairpinLocks$Law;I)V"⟩, 3) := ⟨⟨by decide +kernel, by decide +kernel⟩, List.mem_of_getElem? (i := 195) (by decide +kernel), List.mem_of_getElem? (i := 595) (by decide +kernel), List.mem_of_getElem? (i := 596) (by decide +kernel)⟩
theorem lw_p19 : lw_okq (⟨"HairpinLocks$Walk", "knowWoman", "(LHairpinLocks$Town;I)V"⟩, 3) := ⟨⟨by decide +kernel, by decide +kernel⟩, List.mem_of_getElem? (i := 195) (by decide +kernel), List.mem_of_getElem? (i := 599) (by decide +kernel), List.mem_of_getElem? (i := 600) (by decide +kernel)⟩
theorem lw_p20 : lw_okq (⟨"HairpinLocks$Law", "reckon", "(II[I)I"⟩, 9) := ⟨⟨by decide +kernel, by decide +kernel⟩, List.mem_of_getElem? (i := 235) (by decide +kernel), List.mem_of_getElem? (i := 615) (by decide +kernel), List.mem_of_getElem? (i := 616) (by decide +kernel)⟩
theorem lw_p21 : lw_okq (⟨"HairpinLocks$Walk", "chooseDoor", "(LHairpinLocks$Town;LHairpinLocks$Doors;LHairpinLocks$Law;I)I"⟩, 3) := ⟨⟨by decide +kernel, by decide +kernel⟩, List.mem_of_getElem? (i := 195) (by decide +kernel), List.mem_of_getElem? (i := 625) (by decide +kernel), List.mem_of_getElem? (i := 626) (by decide +kernel)⟩
theorem lw_p22 : lw_okq (⟨"HairpinLocks$Walk", "knowDoor", "(LHairpinLocks$Town;LHairpinLocks$Doors;I)V"⟩, 3) := ⟨⟨by decide +kernel, by decide +kernel⟩, List.mem_of_getElem? (i := 195) (by decide +kernel), List.mem_of_getElem? (i := 645) (by decide +kernel), List.mem_of_getElem? (i := 646) (by decide +kernel)⟩
theorem lw_p23 : lw_okq (⟨"HairpinLocks", "canBeTried", "(I)Z"⟩, 14) := ⟨⟨by decide +kernel, by decide +kernel⟩, List.mem_of_getElem? (i := 19) (by decide +kernel), List.mem_of_getElem? (i := 694) (by decide +kernel), List.mem_of_getElem? (i := 695) (by decide +kernel)⟩
theorem lw_p24 : lw_okq (⟨"HairpinLocks$Reach", "joinRooms", "(LHairpinLocks$Doors;)V"⟩, 5) := ⟨⟨by decide +kernel, by decide +kernel⟩, List.mem_of_getElem? (i := 213) (by decide +kernel), List.mem_of_getElem? (i := 724) (by decide +kernel), List.mem_of_getElem? (i := 725) (by decide +kernel)⟩
theorem lw_p25 : lw_okq (⟨"HairpinLocks$Reach", "goOn", "(I)V"⟩, 5) := ⟨⟨by decide +kernel, by decide +kernel⟩, List.mem_of_getElem? (i := 213) (by decide +kernel), List.mem_of_getElem? (i := 731) (by decide +kernel), List.mem_of_getElem? (i := 732) (by decide +kernel)⟩
theorem lw_p26 : lw_okq (⟨"HairpinLocks$Reach", "freeKinds", "(I)I"⟩, 5) := ⟨⟨by decide +kernel, by decide +kernel⟩, List.mem_of_getElem? (i := 213) (by decide +kernel), List.mem_of_getElem? (i := 741) (by decide +kernel), List.mem_of_getElem? (i := 742) (by decide +kernel)⟩
theorem lw_p27 : lw_okq (⟨"HairpinLocks$Reach", "roomsNextTo", "(II)I"⟩, 5) := ⟨⟨by decide +kernel, by decide +kernel⟩, List.mem_of_getElem? (i := 213) (by decide +kernel), List.mem_of_getElem? (i := 745) (by decide +kernel), List.mem_of_getElem? (i := 746) (by decide +kernel)⟩
theorem lw_p28 : lw_okq (⟨"HairpinLocks$Reach", "lowestDoor", "(LHairpinLocks$Doors;III)I"⟩, 5) := ⟨⟨by decide +kernel, by decide +kernel⟩, List.mem_of_getElem? (i := 213) (by decide +kernel), List.mem_of_getElem? (i := 759) (by decide +kernel), List.mem_of_getElem? (i := 760) (by decide +kernel)⟩
theorem lw_p29 : lw_okq (⟨"HairpinLocks", "mostOpened", "(II)I"⟩, 14) := ⟨⟨by decide +kernel, by decide +kernel⟩, List.mem_of_getElem? (i := 19) (by decide +kernel), List.mem_of_getElem? (i := 778) (by decide +kernel), List.mem_of_getElem? (i := 779) (by decide +kernel)⟩
theorem lw_p30 : lw_okq (⟨"HairpinLocks$Doors", "opensAll", "(I)Z"⟩, 7) := ⟨⟨by decide +kernel, by decide +kernel⟩, List.mem_of_getElem? (i := 117) (by decide +kernel), List.mem_of_getElem? (i := 792) (by decide +kernel), List.mem_of_getElem? (i := 793) (by decide +kernel)⟩
theorem lw_p31 : lw_okq (⟨"HairpinLocks", "areDoorsWithKinds", "(I)Z"⟩, 14) := ⟨⟨by decide +kernel, by decide +kernel⟩, List.mem_of_getElem? (i := 19) (by decide +kernel), List.mem_of_getElem? (i := 805) (by decide +kernel), List.mem_of_getElem? (i := 806) (by decide +kernel)⟩
def lw_privs_2 : List (MethodName × Nat) := [(⟨"HairpinLocks$OrdersReader", "readDoor", "()V"⟩, 8), (⟨"HairpinLocks$OrdersReader", "readRooms", "()V"⟩, 8), (⟨"HairpinLocks$Walk", "step", "(LHairpinLocks$Town;LHairpinLocks$Doors;LHairpinLocks$Law;I)V"⟩, 3), (⟨"HairpinLocks$Walk", "knowWoman", "(LHairpinLocks$Town;I)V"⟩, 3), (⟨"HairpinLocks$Law", "reckon", "(II[I)I"⟩, 9), (⟨"HairpinLocks$Walk", "chooseDoor", "(LHairpinLocks$Town;LHairpinLocks$Doors;LHairpinLocks$Law;I)I"⟩, 3), (⟨"HairpinLocks$Walk", "knowDoor", "(LHairpinLocks$Town;LHairpinLocks$Doors;I)V"⟩, 3), (⟨"HairpinLocks", "canBeTried", "(I)Z"⟩, 14), (⟨"HairpinLocks$Reach", "joinRooms", "(LHairpinLocks$Doors;)V"⟩, 5), (⟨"HairpinLocks$Reach", "goOn", "(I)V"⟩, 5), (⟨"HairpinLocks$Reach", "freeKinds", "(I)I"⟩, 5), (⟨"HairpinLocks$Reach", "roomsNextTo", "(II)I"⟩, 5), (⟨"HairpinLocks$Reach", "lowestDoor", "(LHairpinLocks$Doors;III)I"⟩, 5), (⟨"HairpinLocks", "mostOpened", "(II)I"⟩, 14), (⟨"HairpinLocks$Doors", "opensAll", "(I)Z"⟩, 7), (⟨"HairpinLocks", "areDoorsWithKinds", "(I)Z"⟩, 14)]
theorem lw_r2 : ∀ q ∈ lw_privs_2, lw_okq q := List.forall_mem_cons.mpr ⟨lw_p16, List.forall_mem_cons.mpr ⟨lw_p17, List.forall_mem_cons.mpr ⟨lw_p18, List.forall_mem_cons.mpr ⟨lw_p19, List.forall_mem_cons.mpr ⟨lw_p20, List.forall_mem_cons.mpr ⟨lw_p21, List.forall_mem_cons.mpr ⟨lw_p22, List.forall_mem_cons.mpr ⟨lw_p23, List.forall_mem_cons.mpr ⟨lw_p24, List.forall_mem_cons.mpr ⟨lw_p25, List.forall_mem_cons.mpr ⟨lw_p26, List.forall_mem_cons.mpr ⟨lw_p27, List.forall_mem_cons.mpr ⟨lw_p28, List.forall_mem_cons.mpr ⟨lw_p29, List.forall_mem_cons.mpr ⟨lw_p30, List.forall_mem_cons.mpr ⟨lw_p31, fun _ h => absurd h List.not_mem_nil⟩⟩⟩⟩⟩⟩⟩⟩⟩⟩⟩⟩⟩⟩⟩⟩
theorem lw_p32 : lw_okq (⟨"HairpinLocks", "whoBent", "(I)I"⟩, 14) := ⟨⟨by decide +kernel, by decide +kernel⟩, List.mem_of_getElem? (i := 19) (by decide +kernel), List.mem_of_getElem? (i := 810) (by decide +kernel), List.mem_of_getElem? (i := 811) (by decide +kernel)⟩
theorem lw_p33 : lw_okq (⟨"HairpinLocks", "bentOf", "(II)I"⟩, 14) := ⟨⟨by decide +kernel, by decide +kernel⟩, List.mem_of_getElem? (i := 19) (by decide +kernel), List.mem_of_getElem? (i := 814) (by decide +kernel), List.mem_of_getElem? (i := 815) (by decide +kernel)⟩
theorem lw_p34 : lw_okq (⟨"HairpinLocksModel", "types", "(I)V"⟩, 58) := ⟨⟨by decide +kernel, by decide +kernel⟩, List.mem_of_getElem? (i := 941) (by decide +kernel), List.mem_of_getElem? (i := 1135) (by decide +kernel), List.mem_of_getElem? (i := 1136) (by decide +kernel)⟩
theorem lw_p35 : lw_okq (⟨"HairpinLocksModel", "beginsText", "(I)V"⟩, 58) := ⟨⟨by decide +kernel, by decide +kernel⟩, List.mem_of_getElem? (i := 941) (by decide +kernel), List.mem_of_getElem? (i := 1143) (by decide +kernel), List.mem_of_getElem? (i := 1144) (by decide +kernel)⟩
theorem lw_p36 : lw_okq (⟨"HairpinLocksModel", "readsRule", "()Z"⟩, 58) := ⟨⟨by decide +kernel, by decide +kernel⟩, List.mem_of_getElem? (i := 941) (by decide +kernel), List.mem_of_getElem? (i := 1147) (by decide +kernel), List.mem_of_getElem? (i := 1148) (by decide +kernel)⟩
theorem lw_p37 : lw_okq (⟨"HairpinLocksModel", "here", "()I"⟩, 58) := ⟨⟨by decide +kernel, by decide +kernel⟩, List.mem_of_getElem? (i := 941) (by decide +kernel), List.mem_of_getElem? (i := 1151) (by decide +kernel), List.mem_of_getElem? (i := 1152) (by decide +kernel)⟩
theorem lw_p38 : lw_okq (⟨"HairpinLocksModel", "wrongAt", "(II)Z"⟩, 58) := ⟨⟨by decide +kernel, by decide +kernel⟩, List.mem_of_getElem? (i := 941) (by decide +kernel), List.mem_of_getElem? (i := 1155) (by decide +kernel), List.mem_of_getElem? (i := 1156) (by decide +kernel)⟩
theorem lw_p39 : lw_okq (⟨"HairpinLocksModel", "readsSum", "()Z"⟩, 58) := ⟨⟨by decide +kernel, by decide +kernel⟩, List.mem_of_getElem? (i := 941) (by decide +kernel), List.mem_of_getElem? (i := 1159) (by decide +kernel), List.mem_of_getElem? (i := 1160) (by decide +kernel)⟩
theorem lw_p40 : lw_okq (⟨"HairpinLocksModel", "readsFactor", "()Z"⟩, 58) := ⟨⟨by decide +kernel, by decide +kernel⟩, List.mem_of_getElem? (i := 941) (by decide +kernel), List.mem_of_getElem? (i := 1163) (by decide +kernel), List.mem_of_getElem? (i := 1164) (by decide +kernel)⟩
theorem lw_p41 : lw_okq (⟨"HairpinLocksModel", "opens", "(I)Z"⟩, 58) := ⟨⟨by decide +kernel, by decide +kernel⟩, List.mem_of_getElem? (i := 941) (by decide +kernel), List.mem_of_getElem? (i := 1167) (by decide +kernel), List.mem_of_getElem? (i := 1168) (by decide +kernel)⟩
theorem lw_p42 : lw_okq (⟨"HairpinLocksModel", "isDigit", "()Z"⟩, 58) := ⟨⟨by decide +kernel, by decide +kernel⟩, List.mem_of_getElem? (i := 941) (by decide +kernel), List.mem_of_getElem? (i := 1172) (by decide +kernel), List.mem_of_getElem? (i := 1173) (by decide +kernel)⟩
theorem lw_p43 : lw_okq (⟨"HairpinLocksModel", "readsNumber", "()Z"⟩, 58) := ⟨⟨by decide +kernel, by decide +kernel⟩, List.mem_of_getElem? (i := 941) (by decide +kernel), List.mem_of_getElem? (i := 1176) (by decide +kernel), List.mem_of_getElem? (i := 1177) (by decide +kernel)⟩
theorem lw_p44 : lw_okq (⟨"HairpinLocksModel", "notes", "(II)V"⟩, 58) := ⟨⟨by decide +kernel, by decide +kernel⟩, List.mem_of_getElem? (i := 941) (by decide +kernel), List.mem_of_getElem? (i := 1180) (by decide +kernel), List.mem_of_getElem? (i := 1181) (by decide +kernel)⟩
theorem lw_p45 : lw_okq (⟨"HairpinLocksModel", "closesSums", "(Z)V"⟩, 58) := ⟨⟨by decide +kernel, by decide +kernel⟩, List.mem_of_getElem? (i := 941) (by decide +kernel), List.mem_of_getElem? (i := 1190) (by decide +kernel), List.mem_of_getElem? (i := 1191) (by decide +kernel)⟩
theorem lw_p46 : lw_okq (⟨"HairpinLocksModel", "waitTop", "()I"⟩, 58) := ⟨⟨by decide +kernel, by decide +kernel⟩, List.mem_of_getElem? (i := 941) (by decide +kernel), List.mem_of_getElem? (i := 1194) (by decide +kernel), List.mem_of_getElem? (i := 1195) (by decide +kernel)⟩
theorem lw_p47 : lw_okq (⟨"HairpinLocksModel", "hasOpenSum", "(I)Z"⟩, 58) := ⟨⟨by decide +kernel, by decide +kernel⟩, List.mem_of_getElem? (i := 941) (by decide +kernel), List.mem_of_getElem? (i := 1198) (by decide +kernel), List.mem_of_getElem? (i := 1199) (by decide +kernel)⟩
def lw_privs_3 : List (MethodName × Nat) := [(⟨"HairpinLocks", "whoBent", "(I)I"⟩, 14), (⟨"HairpinLocks", "bentOf", "(II)I"⟩, 14), (⟨"HairpinLocksModel", "types", "(I)V"⟩, 58), (⟨"HairpinLocksModel", "beginsText", "(I)V"⟩, 58), (⟨"HairpinLocksModel", "readsRule", "()Z"⟩, 58), (⟨"HairpinLocksModel", "here", "()I"⟩, 58), (⟨"HairpinLocksModel", "wrongAt", "(II)Z"⟩, 58), (⟨"HairpinLocksModel", "readsSum", "()Z"⟩, 58), (⟨"HairpinLocksModel", "readsFactor", "()Z"⟩, 58), (⟨"HairpinLocksModel", "opens", "(I)Z"⟩, 58), (⟨"HairpinLocksModel", "isDigit", "()Z"⟩, 58), (⟨"HairpinLocksModel", "readsNumber", "()Z"⟩, 58), (⟨"HairpinLocksModel", "notes", "(II)V"⟩, 58), (⟨"HairpinLocksModel", "closesSums", "(Z)V"⟩, 58), (⟨"HairpinLocksModel", "waitTop", "()I"⟩, 58), (⟨"HairpinLocksModel", "hasOpenSum", "(I)Z"⟩, 58)]
theorem lw_r3 : ∀ q ∈ lw_privs_3, lw_okq q := List.forall_mem_cons.mpr ⟨lw_p32, List.forall_mem_cons.mpr ⟨lw_p33, List.forall_mem_cons.mpr ⟨lw_p34, List.forall_mem_cons.mpr ⟨lw_p35, List.forall_mem_cons.mpr ⟨lw_p36, List.forall_mem_cons.mpr ⟨lw_p37, List.forall_mem_cons.mpr ⟨lw_p38, List.forall_mem_cons.mpr ⟨lw_p39, List.forall_mem_cons.mpr ⟨lw_p40, List.forall_mem_cons.mpr ⟨lw_p41, List.forall_mem_cons.mpr ⟨lw_p42, List.forall_mem_cons.mpr ⟨lw_p43, List.forall_mem_cons.mpr ⟨lw_p44, List.forall_mem_cons.mpr ⟨lw_p45, List.forall_mem_cons.mpr ⟨lw_p46, List.forall_mem_cons.mpr ⟨lw_p47, fun _ h => absurd h List.not_mem_nil⟩⟩⟩⟩⟩⟩⟩⟩⟩⟩⟩⟩⟩⟩⟩⟩
theorem lw_p48 : lw_okq (⟨"HairpinLocksModel", "readsCondition", "()Z"⟩, 58) := ⟨⟨by decide +kernel, by decide +kernel⟩, List.mem_of_getElem? (i := 941) (by decide +kernel), List.mem_of_getElem? (i := 1202) (by decide +kernel), List.mem_of_getElem? (i := 1203) (by decide +kernel)⟩
theorem lw_p49 : lw_okq (⟨"HairpinLocksModel", "readsCompared", "()Z"⟩, 58) := ⟨⟨by decide +kernel, by decide +kernel⟩, List.mem_of_getElem? (i := 941) (by decide +kernel), List.mem_of_getElem? (i := 1206) (by decide +kernel), List.mem_of_getElem? (i := 1207) (by decide +kernel)⟩
theorem lw_p50 : lw_okq (⟨"HairpinLocksModel", "endsPiece", "()V"⟩, 58) := ⟨⟨by decide +kernel, by decide +kernel⟩, List.mem_of_getElem? (i := 941) (by decide +kernel), List.mem_of_getElem? (i := 1210) (by decide +kernel), List.mem_of_getElem? (i := 1211) (by decide +kernel)⟩
theorem lw_p51 : lw_okq (⟨"HairpinLocksModel", "lands", "(Z)V"⟩, 58) := ⟨⟨by decide +kernel, by decide +kernel⟩, List.mem_of_getElem? (i := 941) (by decide +kernel), List.mem_of_getElem? (i := 1214) (by decide +kernel), List.mem_of_getElem? (i := 1215) (by decide +kernel)⟩
theorem lw_p52 : lw_okq (⟨"HairpinLocksModel", "jumps", "(I)V"⟩, 58) := ⟨⟨by decide +kernel, by decide +kernel⟩, List.mem_of_getElem? (i := 941) (by decide +kernel), List.mem_of_getElem? (i := 1218) (by decide +kernel), List.mem_of_getElem? (i := 1219) (by decide +kernel)⟩
theorem lw_p53 : lw_okq (⟨"HairpinLocksModel", "takes", "(I)Z"⟩, 58) := ⟨⟨by decide +kernel, by decide +kernel⟩, List.mem_of_getElem? (i := 941) (by decide +kernel), List.mem_of_getElem? (i := 1222) (by decide +kernel), List.mem_of_getElem? (i := 1223) (by decide +kernel)⟩
theorem lw_p54 : lw_okq (⟨"HairpinLocksModel", "isWoman", "(I)Z"⟩, 58) := ⟨⟨by decide +kernel, by decide +kernel⟩, List.mem_of_getElem? (i := 941) (by decide +kernel), List.mem_of_getElem? (i := 1230) (by decide +kernel), List.mem_of_getElem? (i := 1231) (by decide +kernel)⟩
theorem lw_p55 : lw_okq (⟨"HairpinLocksModel", "readsPin", "()Z"⟩, 58) := ⟨⟨by decide +kernel, by decide +kernel⟩, List.mem_of_getElem? (i := 941) (by decide +kernel), List.mem_of_getElem? (i := 1234) (by decide +kernel), List.mem_of_getElem? (i := 1235) (by decide +kernel)⟩
theorem lw_p56 : lw_okq (⟨"HairpinLocksModel", "readsTimes", "()V"⟩, 58) := ⟨⟨by decide +kernel, by decide +kernel⟩, List.mem_of_getElem? (i := 941) (by decide +kernel), List.mem_of_getElem? (i := 1238) (by decide +kernel), List.mem_of_getElem? (i := 1239) (by decide +kernel)⟩
theorem lw_p57 : lw_okq (⟨"HairpinLocksModel", "repeats", "(III)Z"⟩, 58) := ⟨⟨by decide +kernel, by decide +kernel⟩, List.mem_of_getElem? (i := 941) (by decide +kernel), List.mem_of_getElem? (i := 1242) (by decide +kernel), List.mem_of_getElem? (i := 1243) (by decide +kernel)⟩
theorem lw_p58 : lw_okq (⟨"HairpinLocksModel", "putsUp", "(I)I"⟩, 58) := ⟨⟨by decide +kernel, by decide +kernel⟩, List.mem_of_getElem? (i := 941) (by decide +kernel), List.mem_of_getElem? (i := 1246) (by decide +kernel), List.mem_of_getElem? (i := 1247) (by decide +kernel)⟩
theorem lw_p59 : lw_okq (⟨"HairpinLocksModel", "putsDoorsAside", "()V"⟩, 58) := ⟨⟨by decide +kernel, by decide +kernel⟩, List.mem_of_getElem? (i := 941) (by decide +kernel), List.mem_of_getElem? (i := 1261) (by decide +kernel), List.mem_of_getElem? (i := 1262) (by decide +kernel)⟩
theorem lw_p60 : lw_okq (⟨"HairpinLocksModel", "readsLine", "()Z"⟩, 58) := ⟨⟨by decide +kernel, by decide +kernel⟩, List.mem_of_getElem? (i := 941) (by decide +kernel), List.mem_of_getElem? (i := 1265) (by decide +kernel), List.mem_of_getElem? (i := 1266) (by decide +kernel)⟩
theorem lw_p61 : lw_okq (⟨"HairpinLocksModel", "readsKind", "()Z"⟩, 58) := ⟨⟨by decide +kernel, by decide +kernel⟩, List.mem_of_getElem? (i := 941) (by decide +kernel), List.mem_of_getElem? (i := 1269) (by decide +kernel), List.mem_of_getElem? (i := 1270) (by decide +kernel)⟩
theorem lw_p62 : lw_okq (⟨"HairpinLocksModel", "readsWithin", "(I)Z"⟩, 58) := ⟨⟨by decide +kernel, by decide +kernel⟩, List.mem_of_getElem? (i := 941) (by decide +kernel), List.mem_of_getElem? (i := 1273) (by decide +kernel), List.mem_of_getElem? (i := 1274) (by decide +kernel)⟩
theorem lw_p63 : lw_okq (⟨"HairpinLocksModel", "readsDoor", "()Z"⟩, 58) := ⟨⟨by decide +kernel, by decide +kernel⟩, List.mem_of_getElem? (i := 941) (by decide +kernel), List.mem_of_getElem? (i := 1277) (by decide +kernel), List.mem_of_getElem? (i := 1278) (by decide +kernel)⟩
def lw_privs_4 : List (MethodName × Nat) := [(⟨"HairpinLocksModel", "readsCondition", "()Z"⟩, 58), (⟨"HairpinLocksModel", "readsCompared", "()Z"⟩, 58), (⟨"HairpinLocksModel", "endsPiece", "()V"⟩, 58), (⟨"HairpinLocksModel", "lands", "(Z)V"⟩, 58), (⟨"HairpinLocksModel", "jumps", "(I)V"⟩, 58), (⟨"HairpinLocksModel", "takes", "(I)Z"⟩, 58), (⟨"HairpinLocksModel", "isWoman", "(I)Z"⟩, 58), (⟨"HairpinLocksModel", "readsPin", "()Z"⟩, 58), (⟨"HairpinLocksModel", "readsTimes", "()V"⟩, 58), (⟨"HairpinLocksModel", "repeats", "(III)Z"⟩, 58), (⟨"HairpinLocksModel", "putsUp", "(I)I"⟩, 58), (⟨"HairpinLocksModel", "putsDoorsAside", "()V"⟩, 58), (⟨"HairpinLocksModel", "readsLine", "()Z"⟩, 58), (⟨"HairpinLocksModel", "readsKind", "()Z"⟩, 58), (⟨"HairpinLocksModel", "readsWithin", "(I)Z"⟩, 58), (⟨"HairpinLocksModel", "readsDoor", "()Z"⟩, 58)]
theorem lw_r4 : ∀ q ∈ lw_privs_4, lw_okq q := List.forall_mem_cons.mpr ⟨lw_p48, List.forall_mem_cons.mpr ⟨lw_p49, List.forall_mem_cons.mpr ⟨lw_p50, List.forall_mem_cons.mpr ⟨lw_p51, List.forall_mem_cons.mpr ⟨lw_p52, List.forall_mem_cons.mpr ⟨lw_p53, List.forall_mem_cons.mpr ⟨lw_p54, List.forall_mem_cons.mpr ⟨lw_p55, List.forall_mem_cons.mpr ⟨lw_p56, List.forall_mem_cons.mpr ⟨lw_p57, List.forall_mem_cons.mpr ⟨lw_p58, List.forall_mem_cons.mpr ⟨lw_p59, List.forall_mem_cons.mpr ⟨lw_p60, List.forall_mem_cons.mpr ⟨lw_p61, List.forall_mem_cons.mpr ⟨lw_p62, List.forall_mem_cons.mpr ⟨lw_p63, fun _ h => absurd h List.not_mem_nil⟩⟩⟩⟩⟩⟩⟩⟩⟩⟩⟩⟩⟩⟩⟩⟩
theorem lw_p64 : lw_okq (⟨"HairpinLocksModel", "isDoor", "(I)Z"⟩, 58) := ⟨⟨by decide +kernel, by decide +kernel⟩, List.mem_of_getElem? (i := 941) (by decide +kernel), List.mem_of_getElem? (i := 1281) (by decide +kernel), List.mem_of_getElem? (i := 1282) (by decide +kernel)⟩
theorem lw_p65 : lw_okq (⟨"HairpinLocksModel", "readsRooms", "(I)Z"⟩, 58) := ⟨⟨by decide +kernel, by decide +kernel⟩, List.mem_of_getElem? (i := 941) (by decide +kernel), List.mem_of_getElem? (i := 1288) (by decide +kernel), List.mem_of_getElem? (i := 1289) (by decide +kernel)⟩
theorem lw_p66 : lw_okq (⟨"HairpinLocksModel", "putsDoorsBack", "()V"⟩, 58) := ⟨⟨by decide +kernel, by decide +kernel⟩, List.mem_of_getElem? (i := 941) (by decide +kernel), List.mem_of_getElem? (i := 1292) (by decide +kernel), List.mem_of_getElem? (i := 1293) (by decide +kernel)⟩
theorem lw_p67 : lw_okq (⟨"HairpinLocksModel", "roundsGo", "(I)V"⟩, 58) := ⟨⟨by decide +kernel, by decide +kernel⟩, List.mem_of_getElem? (i := 941) (by decide +kernel), List.mem_of_getElem? (i := 1300) (by decide +kernel), List.mem_of_getElem? (i := 1301) (by decide +kernel)⟩
theorem lw_p68 : lw_okq (⟨"HairpinLocksModel", "turnOf", "(I)V"⟩, 58) := ⟨⟨by decide +kernel, by decide +kernel⟩, List.mem_of_getElem? (i := 941) (by decide +kernel), List.mem_of_getElem? (i := 1304) (by decide +kernel), List.mem_of_getElem? (i := 1305) (by decide +kernel)⟩
theorem lw_p69 : lw_okq (⟨"HairpinLocksModel", "feels", "(I)V"⟩, 58) := ⟨⟨by decide +kernel, by decide +kernel⟩, List.mem_of_getElem? (i := 941) (by decide +kernel), List.mem_of_getElem? (i := 1308) (by decide +kernel), List.mem_of_getElem? (i := 1309) (by decide +kernel)⟩
theorem lw_p70 : lw_okq (⟨"HairpinLocksModel", "pinsOf", "(I)I"⟩, 58) := ⟨⟨by decide +kernel, by decide +kernel⟩, List.mem_of_getElem? (i := 941) (by decide +kernel), List.mem_of_getElem? (i := 1312) (by decide +kernel), List.mem_of_getElem? (i := 1313) (by decide +kernel)⟩
theorem lw_p71 : lw_okq (⟨"HairpinLocksModel", "holdsAny", "(I)Z"⟩, 58) := ⟨⟨by decide +kernel, by decide +kernel⟩, List.mem_of_getElem? (i := 941) (by decide +kernel), List.mem_of_getElem? (i := 1316) (by decide +kernel), List.mem_of_getElem? (i := 1317) (by decide +kernel)⟩
theorem lw_p72 : lw_okq (⟨"HairpinLocksModel", "reckonsTo", "(II)I"⟩, 58) := ⟨⟨by decide +kernel, by decide +kernel⟩, List.mem_of_getElem? (i := 941) (by decide +kernel), List.mem_of_getElem? (i := 1320) (by decide +kernel), List.mem_of_getElem? (i := 1321) (by decide +kernel)⟩
theorem lw_p73 : lw_okq (⟨"HairpinLocksModel", "chosenBy", "(I)I"⟩, 58) := ⟨⟨by decide +kernel, by decide +kernel⟩, List.mem_of_getElem? (i := 941) (by decide +kernel), List.mem_of_getElem? (i := 1327) (by decide +kernel), List.mem_of_getElem? (i := 1328) (by decide +kernel)⟩
theorem lw_p74 : lw_okq (⟨"HairpinLocksModel", "canOpen", "(I)Z"⟩, 58) := ⟨⟨by decide +kernel, by decide +kernel⟩, List.mem_of_getElem? (i := 941) (by decide +kernel), List.mem_of_getElem? (i := 1331) (by decide +kernel), List.mem_of_getElem? (i := 1332) (by decide +kernel)⟩
theorem lw_p75 : lw_okq (⟨"HairpinLocksModel", "behind", "(II)I"⟩, 58) := ⟨⟨by decide +kernel, by decide +kernel⟩, List.mem_of_getElem? (i := 941) (by decide +kernel), List.mem_of_getElem? (i := 1335) (by decide +kernel), List.mem_of_getElem? (i := 1336) (by decide +kernel)⟩
theorem lw_p76 : lw_okq (⟨"HairpinLocksModel", "kindFor", "(II)I"⟩, 58) := ⟨⟨by decide +kernel, by decide +kernel⟩, List.mem_of_getElem? (i := 941) (by decide +kernel), List.mem_of_getElem? (i := 1339) (by decide +kernel), List.mem_of_getElem? (i := 1340) (by decide +kernel)⟩
theorem lw_p77 : lw_okq (⟨"HairpinLocksModel", "fits", "(II)Z"⟩, 58) := ⟨⟨by decide +kernel, by decide +kernel⟩, List.mem_of_getElem? (i := 941) (by decide +kernel), List.mem_of_getElem? (i := 1343) (by decide +kernel), List.mem_of_getElem? (i := 1344) (by decide +kernel)⟩
theorem lw_p78 : lw_okq (⟨"HairpinLocksModel", "feelsDoor", "(II)V"⟩, 58) := ⟨⟨by decide +kernel, by decide +kernel⟩, List.mem_of_getElem? (i := 941) (by decide +kernel), List.mem_of_getElem? (i := 1347) (by decide +kernel), List.mem_of_getElem? (i := 1348) (by decide +kernel)⟩
theorem lw_p79 : lw_okq (⟨"HairpinLocksModel", "womenIn", "(I)I"⟩, 58) := ⟨⟨by decide +kernel, by decide +kernel⟩, List.mem_of_getElem? (i := 941) (by decide +kernel), List.mem_of_getElem? (i := 1351) (by decide +kernel), List.mem_of_getElem? (i := 1352) (by decide +kernel)⟩
def lw_privs_5 : List (MethodName × Nat) := [(⟨"HairpinLocksModel", "isDoor", "(I)Z"⟩, 58), (⟨"HairpinLocksModel", "readsRooms", "(I)Z"⟩, 58), (⟨"HairpinLocksModel", "putsDoorsBack", "()V"⟩, 58), (⟨"HairpinLocksModel", "roundsGo", "(I)V"⟩, 58), (⟨"HairpinLocksModel", "turnOf", "(I)V"⟩, 58), (⟨"HairpinLocksModel", "feels", "(I)V"⟩, 58), (⟨"HairpinLocksModel", "pinsOf", "(I)I"⟩, 58), (⟨"HairpinLocksModel", "holdsAny", "(I)Z"⟩, 58), (⟨"HairpinLocksModel", "reckonsTo", "(II)I"⟩, 58), (⟨"HairpinLocksModel", "chosenBy", "(I)I"⟩, 58), (⟨"HairpinLocksModel", "canOpen", "(I)Z"⟩, 58), (⟨"HairpinLocksModel", "behind", "(II)I"⟩, 58), (⟨"HairpinLocksModel", "kindFor", "(II)I"⟩, 58), (⟨"HairpinLocksModel", "fits", "(II)Z"⟩, 58), (⟨"HairpinLocksModel", "feelsDoor", "(II)V"⟩, 58), (⟨"HairpinLocksModel", "womenIn", "(I)I"⟩, 58)]
theorem lw_r5 : ∀ q ∈ lw_privs_5, lw_okq q := List.forall_mem_cons.mpr ⟨lw_p64, List.forall_mem_cons.mpr ⟨lw_p65, List.forall_mem_cons.mpr ⟨lw_p66, List.forall_mem_cons.mpr ⟨lw_p67, List.forall_mem_cons.mpr ⟨lw_p68, List.forall_mem_cons.mpr ⟨lw_p69, List.forall_mem_cons.mpr ⟨lw_p70, List.forall_mem_cons.mpr ⟨lw_p71, List.forall_mem_cons.mpr ⟨lw_p72, List.forall_mem_cons.mpr ⟨lw_p73, List.forall_mem_cons.mpr ⟨lw_p74, List.forall_mem_cons.mpr ⟨lw_p75, List.forall_mem_cons.mpr ⟨lw_p76, List.forall_mem_cons.mpr ⟨lw_p77, List.forall_mem_cons.mpr ⟨lw_p78, List.forall_mem_cons.mpr ⟨lw_p79, fun _ h => absurd h List.not_mem_nil⟩⟩⟩⟩⟩⟩⟩⟩⟩⟩⟩⟩⟩⟩⟩⟩
theorem lw_p80 : lw_okq (⟨"HairpinLocksModel", "byLaw", "(II)I"⟩, 58) := ⟨⟨by decide +kernel, by decide +kernel⟩, List.mem_of_getElem? (i := 941) (by decide +kernel), List.mem_of_getElem? (i := 1358) (by decide +kernel), List.mem_of_getElem? (i := 1359) (by decide +kernel)⟩
theorem lw_p81 : lw_okq (⟨"HairpinLocksModel", "fitting", "(I)I"⟩, 58) := ⟨⟨by decide +kernel, by decide +kernel⟩, List.mem_of_getElem? (i := 941) (by decide +kernel), List.mem_of_getElem? (i := 1378) (by decide +kernel), List.mem_of_getElem? (i := 1379) (by decide +kernel)⟩
theorem lw_p82 : lw_okq (⟨"HairpinLocksModel", "laysWays", "(I)V"⟩, 58) := ⟨⟨by decide +kernel, by decide +kernel⟩, List.mem_of_getElem? (i := 941) (by decide +kernel), List.mem_of_getElem? (i := 1390) (by decide +kernel), List.mem_of_getElem? (i := 1391) (by decide +kernel)⟩
theorem lw_p83 : lw_okq (⟨"HairpinLocksModel", "goesOn", "(IIII)V"⟩, 58) := ⟨⟨by decide +kernel, by decide +kernel⟩, List.mem_of_getElem? (i := 941) (by decide +kernel), List.mem_of_getElem? (i := 1398) (by decide +kernel), List.mem_of_getElem? (i := 1399) (by decide +kernel)⟩
theorem lw_p84 : lw_okq (⟨"HairpinLocksModel", "clearsWays", "()V"⟩, 58) := ⟨⟨by decide +kernel, by decide +kernel⟩, List.mem_of_getElem? (i := 941) (by decide +kernel), List.mem_of_getElem? (i := 1405) (by decide +kernel), List.mem_of_getElem? (i := 1406) (by decide +kernel)⟩
theorem lw_p85 : lw_okq (⟨"HairpinLocksModel", "areEnough", "(I)Z"⟩, 58) := ⟨⟨by decide +kernel, by decide +kernel⟩, List.mem_of_getElem? (i := 941) (by decide +kernel), List.mem_of_getElem? (i := 1426) (by decide +kernel), List.mem_of_getElem? (i := 1427) (by decide +kernel)⟩
theorem lw_p86 : lw_okq (⟨"HairpinLocksModel", "octet", "(I)I"⟩, 58) := ⟨⟨by decide +kernel, by decide +kernel⟩, List.mem_of_getElem? (i := 941) (by decide +kernel), List.mem_of_getElem? (i := 1434) (by decide +kernel), List.mem_of_getElem? (i := 1435) (by decide +kernel)⟩
theorem lw_p87 : lw_okq (⟨"HairpinLocksModel", "groupOf", "(II)I"⟩, 58) := ⟨⟨by decide +kernel, by decide +kernel⟩, List.mem_of_getElem? (i := 941) (by decide +kernel), List.mem_of_getElem? (i := 1446) (by decide +kernel), List.mem_of_getElem? (i := 1447) (by decide +kernel)⟩
theorem lw_p88 : lw_okq (⟨"HairpinLocksModel", "groups", "(I)I"⟩, 58) := ⟨⟨by decide +kernel, by decide +kernel⟩, List.mem_of_getElem? (i := 941) (by decide +kernel), List.mem_of_getElem? (i := 1450) (by decide +kernel), List.mem_of_getElem? (i := 1451) (by decide +kernel)⟩
theorem lw_p89 : lw_okq (⟨"HairpinLocksModel", "fitsGuess", "(II)Z"⟩, 58) := ⟨⟨by decide +kernel, by decide +kernel⟩, List.mem_of_getElem? (i := 941) (by decide +kernel), List.mem_of_getElem? (i := 1458) (by decide +kernel), List.mem_of_getElem? (i := 1459) (by decide +kernel)⟩
theorem lw_p90 : lw_okq (⟨"HairpinLocksModel", "alikeTo", "(II)I"⟩, 58) := ⟨⟨by decide +kernel, by decide +kernel⟩, List.mem_of_getElem? (i := 941) (by decide +kernel), List.mem_of_getElem? (i := 1477) (by decide +kernel), List.mem_of_getElem? (i := 1478) (by decide +kernel)⟩
theorem lw_p91 : lw_okq (⟨"HairpinLocksModel", "toldWomen", "()I"⟩, 58) := ⟨⟨by decide +kernel, by decide +kernel⟩, List.mem_of_getElem? (i := 941) (by decide +kernel), List.mem_of_getElem? (i := 1509) (by decide +kernel), List.mem_of_getElem? (i := 1510) (by decide +kernel)⟩
theorem lw_p92 : lw_okq (⟨"HairpinLocksModel", "pinsOfAll", "()I"⟩, 58) := ⟨⟨by decide +kernel, by decide +kernel⟩, List.mem_of_getElem? (i := 941) (by decide +kernel), List.mem_of_getElem? (i := 1513) (by decide +kernel), List.mem_of_getElem? (i := 1514) (by decide +kernel)⟩
def lw_privs_6 : List (MethodName × Nat) := [(⟨"HairpinLocksModel", "byLaw", "(II)I"⟩, 58), (⟨"HairpinLocksModel", "fitting", "(I)I"⟩, 58), (⟨"HairpinLocksModel", "laysWays", "(I)V"⟩, 58), (⟨"HairpinLocksModel", "goesOn", "(IIII)V"⟩, 58), (⟨"HairpinLocksModel", "clearsWays", "()V"⟩, 58), (⟨"HairpinLocksModel", "areEnough", "(I)Z"⟩, 58), (⟨"HairpinLocksModel", "octet", "(I)I"⟩, 58), (⟨"HairpinLocksModel", "groupOf", "(II)I"⟩, 58), (⟨"HairpinLocksModel", "groups", "(I)I"⟩, 58), (⟨"HairpinLocksModel", "fitsGuess", "(II)Z"⟩, 58), (⟨"HairpinLocksModel", "alikeTo", "(II)I"⟩, 58), (⟨"HairpinLocksModel", "toldWomen", "()I"⟩, 58), (⟨"HairpinLocksModel", "pinsOfAll", "()I"⟩, 58)]
theorem lw_r6 : ∀ q ∈ lw_privs_6, lw_okq q := List.forall_mem_cons.mpr ⟨lw_p80, List.forall_mem_cons.mpr ⟨lw_p81, List.forall_mem_cons.mpr ⟨lw_p82, List.forall_mem_cons.mpr ⟨lw_p83, List.forall_mem_cons.mpr ⟨lw_p84, List.forall_mem_cons.mpr ⟨lw_p85, List.forall_mem_cons.mpr ⟨lw_p86, List.forall_mem_cons.mpr ⟨lw_p87, List.forall_mem_cons.mpr ⟨lw_p88, List.forall_mem_cons.mpr ⟨lw_p89, List.forall_mem_cons.mpr ⟨lw_p90, List.forall_mem_cons.mpr ⟨lw_p91, List.forall_mem_cons.mpr ⟨lw_p92, fun _ h => absurd h List.not_mem_nil⟩⟩⟩⟩⟩⟩⟩⟩⟩⟩⟩⟩⟩
def lw_privs : List (MethodName × Nat) := lw_privs_1 ++ (lw_privs_2 ++ (lw_privs_3 ++ (lw_privs_4 ++ (lw_privs_5 ++ (lw_privs_6)))))
def lw_tbl : List Cond := k2_sels lw_privs ++ tables_1
theorem lw_privs_ok : ∀ q ∈ lw_privs, lw_okq q := by
  show ∀ q ∈ lw_privs_1 ++ (lw_privs_2 ++ (lw_privs_3 ++ (lw_privs_4 ++ (lw_privs_5 ++ (lw_privs_6))))), lw_okq q
  exact List.forall_mem_append.mpr ⟨lw_r1, List.forall_mem_append.mpr ⟨lw_r2, List.forall_mem_append.mpr ⟨lw_r3, List.forall_mem_append.mpr ⟨lw_r4, List.forall_mem_append.mpr ⟨lw_r5, lw_r6⟩⟩⟩⟩⟩
-- ===== end of PART A; then your names; then what follows =====
end
section
def RX0 : String := "HairpinLocks$Doors"
def TX0 : u_T := fun k => match k with
  | 0 => ("HairpinLocks$Doors", "one", "[I", true)
  | 1 => ("HairpinLocks$Doors", "other", "[I", true)
  | 2 => ("HairpinLocks$Doors", "wards", "[I", true)
  | 3 => ("HairpinLocks$Doors", "fits", "[I", true)
  | 4 => ("HairpinLocks$Doors", "bent", "[I", true)
  | 5 => ("HairpinLocks$Doors", "told", "I", false)
  | _ => ("HairpinLocks$Doors", "barred", "I", false)
def tyX0 : Nat → FieldType := fun k => match k with
  | 0 => .array .int
  | 1 => .array .int
  | 2 => .array .int
  | 3 => .array .int
  | 4 => .array .int
  | 5 => .int
  | _ => .int
abbrev wsX00 : List Cond := u_ws RX0 TX0 7
theorem nmX0 : ∀ a, a < 7 → ∀ b, b < 7 → a ≠ b → (TX0 a).2.1 ≠ (TX0 b).2.1 := by decide +kernel
theorem tyX0_ok : ∀ k, k < 7 → parseFieldDescriptor (TX0 k).2.2.1 = some (tyX0 k) := by decide +kernel
abbrev cX0_init : ByteArray := prog_2_method_1_code
def yX0_init : MethodName := ⟨RX0, "<init>", "()V"⟩
abbrev cX0_isTold : ByteArray := prog_2_method_2_code
def yX0_isTold : MethodName := ⟨RX0, "isTold", "(I)Z"⟩
abbrev cX0_unbarred : ByteArray := prog_2_method_3_code
def yX0_unbarred : MethodName := ⟨RX0, "unbarred", "()I"⟩
abbrev cX0_tell : ByteArray := prog_2_method_4_code
def yX0_tell : MethodName := ⟨RX0, "tell", "(IIII)V"⟩
abbrev cX0_bar : ByteArray := prog_2_method_5_code
def yX0_bar : MethodName := ⟨RX0, "bar", "(IZ)V"⟩
abbrev cX0_bend : ByteArray := prog_2_method_6_code
def yX0_bend : MethodName := ⟨RX0, "bend", "(II)V"⟩
abbrev cX0_fitAll : ByteArray := prog_2_method_7_code
def yX0_fitAll : MethodName := ⟨RX0, "fitAll", "()V"⟩
abbrev cX0_behind : ByteArray := prog_2_method_8_code
def yX0_behind : MethodName := ⟨RX0, "behind", "(II)I"⟩
abbrev cX0_ofRoom : ByteArray := prog_2_method_9_code
def yX0_ofRoom : MethodName := ⟨RX0, "ofRoom", "(I)I"⟩
abbrev cX0_fewestKinds : ByteArray := prog_2_method_10_code
def yX0_fewestKinds : MethodName := ⟨RX0, "fewestKinds", "()I"⟩
abbrev cX0_opensAll : ByteArray := prog_2_method_11_code
def yX0_opensAll : MethodName := ⟨RX0, "opensAll", "(I)Z"⟩
abbrev cX0_groupOf : ByteArray := prog_2_method_12_code
def yX0_groupOf : MethodName := ⟨RX0, "groupOf", "(II)I"⟩
abbrev cX0_groups : ByteArray := prog_2_method_13_code
def yX0_groups : MethodName := ⟨RX0, "groups", "()I"⟩
abbrev cX0_onlyWays : ByteArray := prog_2_method_14_code
def yX0_onlyWays : MethodName := ⟨RX0, "onlyWays", "()I"⟩
def RX1 : String := "HairpinLocks$HairReader"
def TX1 : u_T := fun k => match k with
  | 0 => ("HairpinLocks$HairReader", "script", "LHairpinLocks$Script;", true)
  | 1 => ("HairpinLocks$HairReader", "pins", "[I", true)
  | 2 => ("HairpinLocks$HairReader", "levels", "[I", true)
  | _ => ("HairpinLocks$HairReader", "sums", "[I", true)
def tyX1 : Nat → FieldType := fun k => match k with
  | 0 => .object "HairpinLocks$Script"
  | 1 => .array .int
  | 2 => .array .int
  | _ => .array .int
abbrev wsX10 : List Cond := u_ws RX1 TX1 4
theorem nmX1 : ∀ a, a < 4 → ∀ b, b < 4 → a ≠ b → (TX1 a).2.1 ≠ (TX1 b).2.1 := by decide +kernel
theorem tyX1_ok : ∀ k, k < 4 → parseFieldDescriptor (TX1 k).2.2.1 = some (tyX1 k) := by decide +kernel
abbrev cX1_init : ByteArray := prog_3_method_1_code
def yX1_init : MethodName := ⟨RX1, "<init>", "(LHairpinLocks$Script;)V"⟩
abbrev cX1_read : ByteArray := prog_3_method_2_code
def yX1_read : MethodName := ⟨RX1, "read", "()V"⟩
abbrev cX1_readPins : ByteArray := prog_3_method_3_code
def yX1_readPins : MethodName := ⟨RX1, "readPins", "(I)V"⟩
abbrev cX1_endsHere : ByteArray := prog_3_method_4_code
def yX1_endsHere : MethodName := ⟨RX1, "endsHere", "(I)Z"⟩
abbrev cX1_readItem : ByteArray := prog_3_method_5_code
def yX1_readItem : MethodName := ⟨RX1, "readItem", "(I)V"⟩
abbrev cX1_readGroup : ByteArray := prog_3_method_6_code
def yX1_readGroup : MethodName := ⟨RX1, "readGroup", "(II)V"⟩
abbrev cX1_add : ByteArray := prog_3_method_7_code
def yX1_add : MethodName := ⟨RX1, "add", "(III)V"⟩
def RX2 : String := "HairpinLocks$Law"
def TX2 : u_T := fun k => match k with
  | 0 => ("HairpinLocks$Law", "signs", "[I", true)
  | 1 => ("HairpinLocks$Law", "values", "[I", true)
  | 2 => ("HairpinLocks$Law", "stack", "[I", true)
  | 3 => ("HairpinLocks$Law", "letters", "[I", true)
  | 4 => ("HairpinLocks$Law", "amounts", "[I", true)
  | 5 => ("HairpinLocks$Law", "conditions", "[I", true)
  | 6 => ("HairpinLocks$Law", "ends", "[I", true)
  | 7 => ("HairpinLocks$Law", "size", "I", false)
  | _ => ("HairpinLocks$Law", "rules", "I", false)
def tyX2 : Nat → FieldType := fun k => match k with
  | 0 => .array .int
  | 1 => .array .int
  | 2 => .array .int
  | 3 => .array .int
  | 4 => .array .int
  | 5 => .array .int
  | 6 => .array .int
  | 7 => .int
  | _ => .int
abbrev wsX20 : List Cond := u_ws RX2 TX2 9
theorem nmX2 : ∀ a, a < 9 → ∀ b, b < 9 → a ≠ b → (TX2 a).2.1 ≠ (TX2 b).2.1 := by decide +kernel
theorem tyX2_ok : ∀ k, k < 9 → parseFieldDescriptor (TX2 k).2.2.1 = some (tyX2 k) := by decide +kernel
abbrev cX2_init : ByteArray := prog_4_method_1_code
def yX2_init : MethodName := ⟨RX2, "<init>", "()V"⟩
abbrev cX2_letterAt : ByteArray := prog_4_method_2_code
def yX2_letterAt : MethodName := ⟨RX2, "letterAt", "(I)I"⟩
abbrev cX2_clear : ByteArray := prog_4_method_3_code
def yX2_clear : MethodName := ⟨RX2, "clear", "()V"⟩
abbrev cX2_add : ByteArray := prog_4_method_4_code
def yX2_add : MethodName := ⟨RX2, "add", "(II)I"⟩
abbrev cX2_landJumps : ByteArray := prog_4_method_5_code
def yX2_landJumps : MethodName := ⟨RX2, "landJumps", "(I)V"⟩
abbrev cX2_endRule : ByteArray := prog_4_method_6_code
def yX2_endRule : MethodName := ⟨RX2, "endRule", "(III)V"⟩
abbrev cX2_isAnyTrue : ByteArray := prog_4_method_7_code
def yX2_isAnyTrue : MethodName := ⟨RX2, "isAnyTrue", "(I[I)Z"⟩
abbrev cX2_amountOf : ByteArray := prog_4_method_8_code
def yX2_amountOf : MethodName := ⟨RX2, "amountOf", "(II[I)I"⟩
abbrev cX2_reckon : ByteArray := prog_4_method_9_code
def yX2_reckon : MethodName := ⟨RX2, "reckon", "(II[I)I"⟩
abbrev cX2_letterValue : ByteArray := prog_4_method_10_code
def yX2_letterValue : MethodName := ⟨RX2, "letterValue", "(I[I)I"⟩
abbrev cX2_joined : ByteArray := prog_4_method_11_code
def yX2_joined : MethodName := ⟨RX2, "joined", "(III)I"⟩
def RX3 : String := "HairpinLocks$LawReader"
def TX3 : u_T := fun k => match k with
  | 0 => ("HairpinLocks$LawReader", "script", "LHairpinLocks$Script;", true)
  | _ => ("HairpinLocks$LawReader", "law", "LHairpinLocks$Law;", false)
def tyX3 : Nat → FieldType := fun k => match k with
  | 0 => .object "HairpinLocks$Script"
  | _ => .object "HairpinLocks$Law"
abbrev wsX30 : List Cond := u_ws RX3 TX3 2
theorem nmX3 : ∀ a, a < 2 → ∀ b, b < 2 → a ≠ b → (TX3 a).2.1 ≠ (TX3 b).2.1 := by decide +kernel
theorem tyX3_ok : ∀ k, k < 2 → parseFieldDescriptor (TX3 k).2.2.1 = some (tyX3 k) := by decide +kernel
abbrev cX3_init : ByteArray := prog_5_method_1_code
def yX3_init : MethodName := ⟨RX3, "<init>", "(LHairpinLocks$Script;LHairpinLocks$Law;)V"⟩
abbrev cX3_read : ByteArray := prog_5_method_2_code
def yX3_read : MethodName := ⟨RX3, "read", "(LHairpinLocks$Law;)V"⟩
abbrev cX3_readRule : ByteArray := prog_5_method_3_code
def yX3_readRule : MethodName := ⟨RX3, "readRule", "()V"⟩
abbrev cX3_mayOpen : ByteArray := prog_5_method_4_code
def yX3_mayOpen : MethodName := ⟨RX3, "mayOpen", "(I)Z"⟩
abbrev cX3_readChoice : ByteArray := prog_5_method_5_code
def yX3_readChoice : MethodName := ⟨RX3, "readChoice", "(I)V"⟩
abbrev cX3_readPart : ByteArray := prog_5_method_6_code
def yX3_readPart : MethodName := ⟨RX3, "readPart", "(I)V"⟩
abbrev cX3_readTest : ByteArray := prog_5_method_7_code
def yX3_readTest : MethodName := ⟨RX3, "readTest", "(I)V"⟩
abbrev cX3_readComparison : ByteArray := prog_5_method_8_code
def yX3_readComparison : MethodName := ⟨RX3, "readComparison", "(I)V"⟩
abbrev cX3_readSum : ByteArray := prog_5_method_9_code
def yX3_readSum : MethodName := ⟨RX3, "readSum", "(I)V"⟩
abbrev cX3_readTerm : ByteArray := prog_5_method_10_code
def yX3_readTerm : MethodName := ⟨RX3, "readTerm", "(I)V"⟩
abbrev cX3_readFactor : ByteArray := prog_5_method_11_code
def yX3_readFactor : MethodName := ⟨RX3, "readFactor", "(I)V"⟩
def RX4 : String := "HairpinLocks$OrdersReader"
def TX4 : u_T := fun k => match k with
  | 0 => ("HairpinLocks$OrdersReader", "script", "LHairpinLocks$Script;", true)
  | 1 => ("HairpinLocks$OrdersReader", "sorts", "[I", true)
  | 2 => ("HairpinLocks$OrdersReader", "numbers", "[I", true)
  | 3 => ("HairpinLocks$OrdersReader", "ones", "[I", true)
  | 4 => ("HairpinLocks$OrdersReader", "others", "[I", true)
  | 5 => ("HairpinLocks$OrdersReader", "values", "[I", true)
  | 6 => ("HairpinLocks$OrdersReader", "lines", "I", false)
  | _ => ("HairpinLocks$OrdersReader", "told", "I", false)
def tyX4 : Nat → FieldType := fun k => match k with
  | 0 => .object "HairpinLocks$Script"
  | 1 => .array .int
  | 2 => .array .int
  | 3 => .array .int
  | 4 => .array .int
  | 5 => .array .int
  | 6 => .int
  | _ => .int
abbrev wsX40 : List Cond := u_ws RX4 TX4 8
theorem nmX4 : ∀ a, a < 8 → ∀ b, b < 8 → a ≠ b → (TX4 a).2.1 ≠ (TX4 b).2.1 := by decide +kernel
theorem tyX4_ok : ∀ k, k < 8 → parseFieldDescriptor (TX4 k).2.2.1 = some (tyX4 k) := by decide +kernel
abbrev cX4_init : ByteArray := prog_6_method_1_code
def yX4_init : MethodName := ⟨RX4, "<init>", "(LHairpinLocks$Script;)V"⟩
abbrev cX4_read : ByteArray := prog_6_method_2_code
def yX4_read : MethodName := ⟨RX4, "read", "(I)V"⟩
abbrev cX4_readLine : ByteArray := prog_6_method_3_code
def yX4_readLine : MethodName := ⟨RX4, "readLine", "()V"⟩
abbrev cX4_readKind : ByteArray := prog_6_method_4_code
def yX4_readKind : MethodName := ⟨RX4, "readKind", "()V"⟩
abbrev cX4_readDoor : ByteArray := prog_6_method_5_code
def yX4_readDoor : MethodName := ⟨RX4, "readDoor", "()V"⟩
abbrev cX4_readRooms : ByteArray := prog_6_method_6_code
def yX4_readRooms : MethodName := ⟨RX4, "readRooms", "()V"⟩
abbrev cX4_carryOut : ByteArray := prog_6_method_7_code
def yX4_carryOut : MethodName := ⟨RX4, "carryOut", "(LHairpinLocks$Doors;LHairpinLocks$Town;)V"⟩
def RX5 : String := "HairpinLocks$Puzzles"
def TX5 : u_T := fun k => match k with
  | _ => ("", "", "", false)
def tyX5 : Nat → FieldType := fun k => match k with
  | _ => .int
abbrev wsX50 : List Cond := u_ws RX5 TX5 0
theorem nmX5 : ∀ a, a < 0 → ∀ b, b < 0 → a ≠ b → (TX5 a).2.1 ≠ (TX5 b).2.1 := by decide +kernel
theorem tyX5_ok : ∀ k, k < 0 → parseFieldDescriptor (TX5 k).2.2.1 = some (tyX5 k) := by decide +kernel
abbrev cX5_areColours : ByteArray := prog_7_method_2_code
def yX5_areColours : MethodName := ⟨RX5, "areColours", "(LHairpinLocks$Tape;I)Z"⟩
abbrev cX5_howManyCurls : ByteArray := prog_7_method_3_code
def yX5_howManyCurls : MethodName := ⟨RX5, "howManyCurls", "(LHairpinLocks$Tape;I)I"⟩
abbrev cX5_leastCurls : ByteArray := prog_7_method_4_code
def yX5_leastCurls : MethodName := ⟨RX5, "leastCurls", "(LHairpinLocks$Tape;I)I"⟩
abbrev cX5_couldBe : ByteArray := prog_7_method_5_code
def yX5_couldBe : MethodName := ⟨RX5, "couldBe", "(LHairpinLocks$Tape;II)Z"⟩
abbrev cX5_rightOnes : ByteArray := prog_7_method_6_code
def yX5_rightOnes : MethodName := ⟨RX5, "rightOnes", "(LHairpinLocks$Tape;II)I"⟩
abbrev cX5_sharedOnes : ByteArray := prog_7_method_7_code
def yX5_sharedOnes : MethodName := ⟨RX5, "sharedOnes", "(LHairpinLocks$Tape;II)I"⟩
abbrev cX5_ringMoves : ByteArray := prog_7_method_8_code
def yX5_ringMoves : MethodName := ⟨RX5, "ringMoves", "(I)I"⟩
abbrev cX5_areDials : ByteArray := prog_7_method_9_code
def yX5_areDials : MethodName := ⟨RX5, "areDials", "(LHairpinLocks$Tape;I)Z"⟩
abbrev cX5_dialTurns : ByteArray := prog_7_method_10_code
def yX5_dialTurns : MethodName := ⟨RX5, "dialTurns", "(LHairpinLocks$Tape;I)I"⟩
abbrev cX5_turnsFrom : ByteArray := prog_7_method_11_code
def yX5_turnsFrom : MethodName := ⟨RX5, "turnsFrom", "(LHairpinLocks$Tape;II)I"⟩
abbrev cX5_mostWeight : ByteArray := prog_7_method_12_code
def yX5_mostWeight : MethodName := ⟨RX5, "mostWeight", "(LHairpinLocks$Tape;I)I"⟩
abbrev cX5_howManyWeigh : ByteArray := prog_7_method_13_code
def yX5_howManyWeigh : MethodName := ⟨RX5, "howManyWeigh", "(LHairpinLocks$Tape;II)I"⟩
abbrev cX5_firstOfAnother : ByteArray := prog_7_method_14_code
def yX5_firstOfAnother : MethodName := ⟨RX5, "firstOfAnother", "(LHairpinLocks$Tape;II)I"⟩
abbrev cX5_weekSteps : ByteArray := prog_7_method_15_code
def yX5_weekSteps : MethodName := ⟨RX5, "weekSteps", "(LHairpinLocks$Tape;)I"⟩
abbrev cX5_stepsFrom : ByteArray := prog_7_method_16_code
def yX5_stepsFrom : MethodName := ⟨RX5, "stepsFrom", "(LHairpinLocks$Tape;II)I"⟩
def RX6 : String := "HairpinLocks$Reach"
def TX6 : u_T := fun k => match k with
  | 0 => ("HairpinLocks$Reach", "next", "[I", true)
  | 1 => ("HairpinLocks$Reach", "left", "[I", true)
  | 2 => ("HairpinLocks$Reach", "used", "[I", true)
  | 3 => ("HairpinLocks$Reach", "rooms", "[I", true)
  | _ => ("HairpinLocks$Reach", "size", "I", false)
def tyX6 : Nat → FieldType := fun k => match k with
  | 0 => .array .int
  | 1 => .array .int
  | 2 => .array .int
  | 3 => .array .int
  | _ => .int
abbrev wsX60 : List Cond := u_ws RX6 TX6 5
theorem nmX6 : ∀ a, a < 5 → ∀ b, b < 5 → a ≠ b → (TX6 a).2.1 ≠ (TX6 b).2.1 := by decide +kernel
theorem tyX6_ok : ∀ k, k < 5 → parseFieldDescriptor (TX6 k).2.2.1 = some (tyX6 k) := by decide +kernel
abbrev cX6_init : ByteArray := prog_8_method_1_code
def yX6_init : MethodName := ⟨RX6, "<init>", "()V"⟩
abbrev cX6_spread : ByteArray := prog_8_method_2_code
def yX6_spread : MethodName := ⟨RX6, "spread", "(LHairpinLocks$Doors;LHairpinLocks$Town;II)V"⟩
abbrev cX6_joinRooms : ByteArray := prog_8_method_3_code
def yX6_joinRooms : MethodName := ⟨RX6, "joinRooms", "(LHairpinLocks$Doors;)V"⟩
abbrev cX6_goOn : ByteArray := prog_8_method_4_code
def yX6_goOn : MethodName := ⟨RX6, "goOn", "(I)V"⟩
abbrev cX6_roomsNextTo : ByteArray := prog_8_method_5_code
def yX6_roomsNextTo : MethodName := ⟨RX6, "roomsNextTo", "(II)I"⟩
abbrev cX6_freeKinds : ByteArray := prog_8_method_6_code
def yX6_freeKinds : MethodName := ⟨RX6, "freeKinds", "(I)I"⟩
abbrev cX6_placeOf : ByteArray := prog_8_method_7_code
def yX6_placeOf : MethodName := ⟨RX6, "placeOf", "(I)I"⟩
abbrev cX6_allRooms : ByteArray := prog_8_method_8_code
def yX6_allRooms : MethodName := ⟨RX6, "allRooms", "()I"⟩
abbrev cX6_fewestTo : ByteArray := prog_8_method_9_code
def yX6_fewestTo : MethodName := ⟨RX6, "fewestTo", "(I)I"⟩
abbrev cX6_firstDoor : ByteArray := prog_8_method_10_code
def yX6_firstDoor : MethodName := ⟨RX6, "firstDoor", "(LHairpinLocks$Doors;II)I"⟩
abbrev cX6_lowestDoor : ByteArray := prog_8_method_11_code
def yX6_lowestDoor : MethodName := ⟨RX6, "lowestDoor", "(LHairpinLocks$Doors;III)I"⟩
def RX7 : String := "HairpinLocks$Script"
def TX7 : u_T := fun k => match k with
  | 0 => ("HairpinLocks$Script", "tape", "LHairpinLocks$Tape;", true)
  | 1 => ("HairpinLocks$Script", "end", "I", false)
  | 2 => ("HairpinLocks$Script", "place", "I", false)
  | _ => ("HairpinLocks$Script", "fault", "I", false)
def tyX7 : Nat → FieldType := fun k => match k with
  | 0 => .object "HairpinLocks$Tape"
  | 1 => .int
  | 2 => .int
  | _ => .int
abbrev wsX70 : List Cond := u_ws RX7 TX7 4
theorem nmX7 : ∀ a, a < 4 → ∀ b, b < 4 → a ≠ b → (TX7 a).2.1 ≠ (TX7 b).2.1 := by decide +kernel
theorem tyX7_ok : ∀ k, k < 4 → parseFieldDescriptor (TX7 k).2.2.1 = some (tyX7 k) := by decide +kernel
abbrev cX7_init : ByteArray := prog_9_method_1_code
def yX7_init : MethodName := ⟨RX7, "<init>", "(LHairpinLocks$Tape;)V"⟩
abbrev cX7_open : ByteArray := prog_9_method_2_code
def yX7_open : MethodName := ⟨RX7, "open", "(I)V"⟩
abbrev cX7_isSound : ByteArray := prog_9_method_3_code
def yX7_isSound : MethodName := ⟨RX7, "isSound", "()Z"⟩
abbrev cX7_isAtEnd : ByteArray := prog_9_method_4_code
def yX7_isAtEnd : MethodName := ⟨RX7, "isAtEnd", "()Z"⟩
abbrev cX7_sign : ByteArray := prog_9_method_5_code
def yX7_sign : MethodName := ⟨RX7, "sign", "()I"⟩
abbrev cX7_isDigit : ByteArray := prog_9_method_6_code
def yX7_isDigit : MethodName := ⟨RX7, "isDigit", "()Z"⟩
abbrev cX7_fail : ByteArray := prog_9_method_7_code
def yX7_fail : MethodName := ⟨RX7, "fail", "(II)V"⟩
abbrev cX7_take : ByteArray := prog_9_method_8_code
def yX7_take : MethodName := ⟨RX7, "take", "(I)Z"⟩
abbrev cX7_want : ByteArray := prog_9_method_9_code
def yX7_want : MethodName := ⟨RX7, "want", "(I)V"⟩
abbrev cX7_number : ByteArray := prog_9_method_10_code
def yX7_number : MethodName := ⟨RX7, "number", "(I)I"⟩
abbrev cX7_numberUpTo : ByteArray := prog_9_method_11_code
def yX7_numberUpTo : MethodName := ⟨RX7, "numberUpTo", "(I)I"⟩
def RX8 : String := "HairpinLocks$Tape"
def TX8 : u_T := fun k => match k with
  | 0 => ("HairpinLocks$Tape", "bytes", "[I", true)
  | _ => ("HairpinLocks$Tape", "size", "I", false)
def tyX8 : Nat → FieldType := fun k => match k with
  | 0 => .array .int
  | _ => .int
abbrev wsX80 : List Cond := u_ws RX8 TX8 2
theorem nmX8 : ∀ a, a < 2 → ∀ b, b < 2 → a ≠ b → (TX8 a).2.1 ≠ (TX8 b).2.1 := by decide +kernel
theorem tyX8_ok : ∀ k, k < 2 → parseFieldDescriptor (TX8 k).2.2.1 = some (tyX8 k) := by decide +kernel
abbrev cX8_init : ByteArray := prog_10_method_1_code
def yX8_init : MethodName := ⟨RX8, "<init>", "()V"⟩
abbrev cX8_add : ByteArray := prog_10_method_2_code
def yX8_add : MethodName := ⟨RX8, "add", "(I)V"⟩
abbrev cX8_at : ByteArray := prog_10_method_3_code
def yX8_at : MethodName := ⟨RX8, "at", "(I)I"⟩
abbrev cX8_clear : ByteArray := prog_10_method_4_code
def yX8_clear : MethodName := ⟨RX8, "clear", "()V"⟩
def RX9 : String := "HairpinLocks$Town"
def TX9 : u_T := fun k => match k with
  | 0 => ("HairpinLocks$Town", "rust", "[I", true)
  | 1 => ("HairpinLocks$Town", "rooms", "[I", true)
  | 2 => ("HairpinLocks$Town", "hair", "[I", true)
  | 3 => ("HairpinLocks$Town", "pins", "[I", true)
  | 4 => ("HairpinLocks$Town", "told", "I", false)
  | 5 => ("HairpinLocks$Town", "round", "I", false)
  | _ => ("HairpinLocks$Town", "x", "I", false)
def tyX9 : Nat → FieldType := fun k => match k with
  | 0 => .array .int
  | 1 => .array .int
  | 2 => .array .int
  | 3 => .array .int
  | 4 => .int
  | 5 => .int
  | _ => .int
abbrev wsX90 : List Cond := u_ws RX9 TX9 7
theorem nmX9 : ∀ a, a < 7 → ∀ b, b < 7 → a ≠ b → (TX9 a).2.1 ≠ (TX9 b).2.1 := by decide +kernel
theorem tyX9_ok : ∀ k, k < 7 → parseFieldDescriptor (TX9 k).2.2.1 = some (tyX9 k) := by decide +kernel
abbrev cX9_init : ByteArray := prog_11_method_1_code
def yX9_init : MethodName := ⟨RX9, "<init>", "()V"⟩
abbrev cX9_copy : ByteArray := prog_11_method_2_code
def yX9_copy : MethodName := ⟨RX9, "copy", "(LHairpinLocks$Town;)V"⟩
abbrev cX9_isTold : ByteArray := prog_11_method_3_code
def yX9_isTold : MethodName := ⟨RX9, "isTold", "(I)Z"⟩
abbrev cX9_put : ByteArray := prog_11_method_4_code
def yX9_put : MethodName := ⟨RX9, "put", "(II)V"⟩
abbrev cX9_dress : ByteArray := prog_11_method_5_code
def yX9_dress : MethodName := ⟨RX9, "dress", "(I[I)V"⟩
abbrev cX9_unrust : ByteArray := prog_11_method_6_code
def yX9_unrust : MethodName := ⟨RX9, "unrust", "(I)V"⟩
abbrev cX9_roomOf : ByteArray := prog_11_method_7_code
def yX9_roomOf : MethodName := ⟨RX9, "roomOf", "(I)I"⟩
abbrev cX9_pinsOf : ByteArray := prog_11_method_8_code
def yX9_pinsOf : MethodName := ⟨RX9, "pinsOf", "(I)I"⟩
abbrev cX9_pinsOfAll : ByteArray := prog_11_method_9_code
def yX9_pinsOfAll : MethodName := ⟨RX9, "pinsOfAll", "()I"⟩
abbrev cX9_kindsLeft : ByteArray := prog_11_method_10_code
def yX9_kindsLeft : MethodName := ⟨RX9, "kindsLeft", "(I)I"⟩
abbrev cX9_inRoom : ByteArray := prog_11_method_11_code
def yX9_inRoom : MethodName := ⟨RX9, "inRoom", "(I)I"⟩
abbrev cX9_whoPutUp : ByteArray := prog_11_method_12_code
def yX9_whoPutUp : MethodName := ⟨RX9, "whoPutUp", "(II)I"⟩
abbrev cX9_draw : ByteArray := prog_11_method_13_code
def yX9_draw : MethodName := ⟨RX9, "draw", "()I"⟩
def RX10 : String := "HairpinLocks$Walk"
def TX10 : u_T := fun k => match k with
  | 0 => ("HairpinLocks$Walk", "known", "[I", true)
  | 1 => ("HairpinLocks$Walk", "passed", "I", false)
  | _ => ("HairpinLocks$Walk", "jammed", "I", false)
def tyX10 : Nat → FieldType := fun k => match k with
  | 0 => .array .int
  | 1 => .int
  | _ => .int
abbrev wsX100 : List Cond := u_ws RX10 TX10 3
theorem nmX10 : ∀ a, a < 3 → ∀ b, b < 3 → a ≠ b → (TX10 a).2.1 ≠ (TX10 b).2.1 := by decide +kernel
theorem tyX10_ok : ∀ k, k < 3 → parseFieldDescriptor (TX10 k).2.2.1 = some (tyX10 k) := by decide +kernel
abbrev cX10_init : ByteArray := prog_12_method_1_code
def yX10_init : MethodName := ⟨RX10, "<init>", "()V"⟩
abbrev cX10_go : ByteArray := prog_12_method_2_code
def yX10_go : MethodName := ⟨RX10, "go", "(LHairpinLocks$Town;LHairpinLocks$Doors;LHairpinLocks$Law;I)V"⟩
abbrev cX10_step : ByteArray := prog_12_method_3_code
def yX10_step : MethodName := ⟨RX10, "step", "(LHairpinLocks$Town;LHairpinLocks$Doors;LHairpinLocks$Law;I)V"⟩
abbrev cX10_chooseDoor : ByteArray := prog_12_method_4_code
def yX10_chooseDoor : MethodName := ⟨RX10, "chooseDoor", "(LHairpinLocks$Town;LHairpinLocks$Doors;LHairpinLocks$Law;I)I"⟩
abbrev cX10_knowWoman : ByteArray := prog_12_method_5_code
def yX10_knowWoman : MethodName := ⟨RX10, "knowWoman", "(LHairpinLocks$Town;I)V"⟩
abbrev cX10_knowDoor : ByteArray := prog_12_method_6_code
def yX10_knowDoor : MethodName := ⟨RX10, "knowDoor", "(LHairpinLocks$Town;LHairpinLocks$Doors;I)V"⟩
def RX11 : String := "HairpinLocks"
def TX11 : u_T := fun k => match k with
  | 0 => ("HairpinLocks", "tape", "LHairpinLocks$Tape;", true)
  | 1 => ("HairpinLocks", "script", "LHairpinLocks$Script;", true)
  | 2 => ("HairpinLocks", "hairReader", "LHairpinLocks$HairReader;", true)
  | 3 => ("HairpinLocks", "ordersReader", "LHairpinLocks$OrdersReader;", true)
  | 4 => ("HairpinLocks", "lawReader", "LHairpinLocks$LawReader;", true)
  | 5 => ("HairpinLocks", "doors", "LHairpinLocks$Doors;", true)
  | 6 => ("HairpinLocks", "town", "LHairpinLocks$Town;", true)
  | 7 => ("HairpinLocks", "kept", "LHairpinLocks$Town;", true)
  | 8 => ("HairpinLocks", "trial", "LHairpinLocks$Town;", true)
  | 9 => ("HairpinLocks", "walk", "LHairpinLocks$Walk;", true)
  | 10 => ("HairpinLocks", "reach", "LHairpinLocks$Reach;", true)
  | 11 => ("HairpinLocks", "lawNow", "LHairpinLocks$Law;", false)
  | 12 => ("HairpinLocks", "lawSpare", "LHairpinLocks$Law;", false)
  | _ => ("HairpinLocks", "isKept", "Z", false)
def tyX11 : Nat → FieldType := fun k => match k with
  | 0 => .object "HairpinLocks$Tape"
  | 1 => .object "HairpinLocks$Script"
  | 2 => .object "HairpinLocks$HairReader"
  | 3 => .object "HairpinLocks$OrdersReader"
  | 4 => .object "HairpinLocks$LawReader"
  | 5 => .object "HairpinLocks$Doors"
  | 6 => .object "HairpinLocks$Town"
  | 7 => .object "HairpinLocks$Town"
  | 8 => .object "HairpinLocks$Town"
  | 9 => .object "HairpinLocks$Walk"
  | 10 => .object "HairpinLocks$Reach"
  | 11 => .object "HairpinLocks$Law"
  | 12 => .object "HairpinLocks$Law"
  | _ => .boolean
abbrev wsX110 : List Cond := u_ws RX11 TX11 14
theorem nmX11 : ∀ a, a < 14 → ∀ b, b < 14 → a ≠ b → (TX11 a).2.1 ≠ (TX11 b).2.1 := by decide +kernel
theorem tyX11_ok : ∀ k, k < 14 → parseFieldDescriptor (TX11 k).2.2.1 = some (tyX11 k) := by decide +kernel
abbrev cX11_init : ByteArray := prog_1_method_1_code
def yX11_init : MethodName := ⟨RX11, "<init>", "()V"⟩
abbrev cX11_woman : ByteArray := prog_1_method_2_code
def yX11_woman : MethodName := ⟨RX11, "woman", "(II)Z"⟩
abbrev cX11_feed : ByteArray := prog_1_method_3_code
def yX11_feed : MethodName := ⟨RX11, "feed", "(IIIII)I"⟩
abbrev cX11_law : ByteArray := prog_1_method_4_code
def yX11_law : MethodName := ⟨RX11, "law", "(I)I"⟩
abbrev cX11_hair : ByteArray := prog_1_method_5_code
def yX11_hair : MethodName := ⟨RX11, "hair", "(II)I"⟩
abbrev cX11_orders : ByteArray := prog_1_method_6_code
def yX11_orders : MethodName := ⟨RX11, "orders", "(I)I"⟩
abbrev cX11_rounds : ByteArray := prog_1_method_7_code
def yX11_rounds : MethodName := ⟨RX11, "rounds", "(I)I"⟩
abbrev cX11_night : ByteArray := prog_1_method_8_code
def yX11_night : MethodName := ⟨RX11, "night", "()I"⟩
abbrev cX11_tried : ByteArray := prog_1_method_9_code
def yX11_tried : MethodName := ⟨RX11, "tried", "(II)I"⟩
abbrev cX11_womanIs : ByteArray := prog_1_method_10_code
def yX11_womanIs : MethodName := ⟨RX11, "womanIs", "(II)I"⟩
abbrev cX11_doorIs : ByteArray := prog_1_method_11_code
def yX11_doorIs : MethodName := ⟨RX11, "doorIs", "(II)I"⟩
abbrev cX11_kindIs : ByteArray := prog_1_method_12_code
def yX11_kindIs : MethodName := ⟨RX11, "kindIs", "(I)I"⟩
abbrev cX11_getsTo : ByteArray := prog_1_method_13_code
def yX11_getsTo : MethodName := ⟨RX11, "getsTo", "(III)I"⟩
abbrev cX11_near : ByteArray := prog_1_method_14_code
def yX11_near : MethodName := ⟨RX11, "near", "(I)I"⟩
abbrev cX11_atOnce : ByteArray := prog_1_method_15_code
def yX11_atOnce : MethodName := ⟨RX11, "atOnce", "(II)I"⟩
abbrev cX11_enough : ByteArray := prog_1_method_16_code
def yX11_enough : MethodName := ⟨RX11, "enough", "(I)I"⟩
abbrev cX11_nothingFits : ByteArray := prog_1_method_17_code
def yX11_nothingFits : MethodName := ⟨RX11, "nothingFits", "()I"⟩
abbrev cX11_bent : ByteArray := prog_1_method_18_code
def yX11_bent : MethodName := ⟨RX11, "bent", "(I)I"⟩
abbrev cX11_prongs : ByteArray := prog_1_method_19_code
def yX11_prongs : MethodName := ⟨RX11, "prongs", "(II)I"⟩
abbrev cX11_landings : ByteArray := prog_1_method_20_code
def yX11_landings : MethodName := ⟨RX11, "landings", "(I)I"⟩
abbrev cX11_curls : ByteArray := prog_1_method_21_code
def yX11_curls : MethodName := ⟨RX11, "curls", "(II)I"⟩
abbrev cX11_rings : ByteArray := prog_1_method_22_code
def yX11_rings : MethodName := ⟨RX11, "rings", "(II)I"⟩
abbrev cX11_dials : ByteArray := prog_1_method_23_code
def yX11_dials : MethodName := ⟨RX11, "dials", "(I)I"⟩
abbrev cX11_dish : ByteArray := prog_1_method_24_code
def yX11_dish : MethodName := ⟨RX11, "dish", "(II)I"⟩
abbrev cX11_thursday : ByteArray := prog_1_method_25_code
def yX11_thursday : MethodName := ⟨RX11, "thursday", "()I"⟩
abbrev cX11_seed : ByteArray := prog_1_method_26_code
def yX11_seed : MethodName := ⟨RX11, "seed", "(I)Z"⟩
abbrev cX11_keep : ByteArray := prog_1_method_27_code
def yX11_keep : MethodName := ⟨RX11, "keep", "()I"⟩
abbrev cX11_undo : ByteArray := prog_1_method_28_code
def yX11_undo : MethodName := ⟨RX11, "undo", "()Z"⟩
abbrev cX11_check : ByteArray := prog_1_method_29_code
def yX11_check : MethodName := ⟨RX11, "check", "(I)I"⟩
abbrev cX11_count : ByteArray := prog_1_method_30_code
def yX11_count : MethodName := ⟨RX11, "count", "(I)I"⟩
abbrev cX11_isWithin : ByteArray := prog_1_method_31_code
def yX11_isWithin : MethodName := ⟨RX11, "isWithin", "(III)Z"⟩
abbrev cX11_canBeTried : ByteArray := prog_1_method_32_code
def yX11_canBeTried : MethodName := ⟨RX11, "canBeTried", "(I)Z"⟩
abbrev cX11_mostOpened : ByteArray := prog_1_method_33_code
def yX11_mostOpened : MethodName := ⟨RX11, "mostOpened", "(II)I"⟩
abbrev cX11_areDoorsWithKinds : ByteArray := prog_1_method_34_code
def yX11_areDoorsWithKinds : MethodName := ⟨RX11, "areDoorsWithKinds", "(I)Z"⟩
abbrev cX11_whoBent : ByteArray := prog_1_method_35_code
def yX11_whoBent : MethodName := ⟨RX11, "whoBent", "(I)I"⟩
abbrev cX11_bentOf : ByteArray := prog_1_method_36_code
def yX11_bentOf : MethodName := ⟨RX11, "bentOf", "(II)I"⟩
def RX12 : String := "HairpinLocksModel"
def TX12 : u_T := fun k => match k with
  | 0 => ("HairpinLocksModel", "now", "[I", true)
  | 1 => ("HairpinLocksModel", "aside", "[I", true)
  | 2 => ("HairpinLocksModel", "kept", "[I", true)
  | 3 => ("HairpinLocksModel", "prongsOf", "[I", true)
  | 4 => ("HairpinLocksModel", "oneOf", "[I", true)
  | 5 => ("HairpinLocksModel", "otherOf", "[I", true)
  | 6 => ("HairpinLocksModel", "wardsOf", "[I", true)
  | 7 => ("HairpinLocksModel", "wasProngs", "[I", true)
  | 8 => ("HairpinLocksModel", "wasOne", "[I", true)
  | 9 => ("HairpinLocksModel", "wasOther", "[I", true)
  | 10 => ("HairpinLocksModel", "wasWards", "[I", true)
  | 11 => ("HairpinLocksModel", "toldDoors", "I", false)
  | 12 => ("HairpinLocksModel", "barredDoors", "I", false)
  | 13 => ("HairpinLocksModel", "tape", "[B", true)
  | 14 => ("HairpinLocksModel", "taped", "I", false)
  | 15 => ("HairpinLocksModel", "place0", "I", false)
  | 16 => ("HairpinLocksModel", "length0", "I", false)
  | 17 => ("HairpinLocksModel", "fault", "I", false)
  | 18 => ("HairpinLocksModel", "number0", "I", false)
  | 19 => ("HairpinLocksModel", "open", "I", false)
  | 20 => ("HairpinLocksModel", "codeMany", "I", false)
  | 21 => ("HairpinLocksModel", "waiting", "I", false)
  | 22 => ("HairpinLocksModel", "saidMany", "I", false)
  | 23 => ("HairpinLocksModel", "clauses", "I", false)
  | 24 => ("HairpinLocksModel", "said", "[I", true)
  | 25 => ("HairpinLocksModel", "waitsAt", "[I", true)
  | 26 => ("HairpinLocksModel", "saidLetter", "[I", true)
  | 27 => ("HairpinLocksModel", "saidFrom", "[I", true)
  | 28 => ("HairpinLocksModel", "saidHalf", "[I", true)
  | 29 => ("HairpinLocksModel", "saidTo", "[I", true)
  | 30 => ("HairpinLocksModel", "codes", "[I", true)
  | 31 => ("HairpinLocksModel", "clauseOf", "[I", true)
  | 32 => ("HairpinLocksModel", "codeFrom", "[I", true)
  | 33 => ("HairpinLocksModel", "codeHalf", "[I", true)
  | 34 => ("HairpinLocksModel", "codeTo", "[I", true)
  | 35 => ("HairpinLocksModel", "stack", "[I", true)
  | 36 => ("HairpinLocksModel", "facts", "[I", true)
  | 37 => ("HairpinLocksModel", "newPins", "[I", true)
  | 38 => ("HairpinLocksModel", "roundFrom", "[I", true)
  | 39 => ("HairpinLocksModel", "roundAt", "[I", true)
  | 40 => ("HairpinLocksModel", "roundTimes", "[I", true)
  | 41 => ("HairpinLocksModel", "newMany", "I", false)
  | 42 => ("HairpinLocksModel", "rounds", "I", false)
  | 43 => ("HairpinLocksModel", "pinFrom", "I", false)
  | 44 => ("HairpinLocksModel", "pinTimes", "I", false)
  | 45 => ("HairpinLocksModel", "lines", "I", false)
  | 46 => ("HairpinLocksModel", "wasTold", "I", false)
  | 47 => ("HairpinLocksModel", "wasBarred", "I", false)
  | 48 => ("HairpinLocksModel", "goesNow", "I", false)
  | 49 => ("HairpinLocksModel", "jamsNow", "I", false)
  | 50 => ("HairpinLocksModel", "stepsTo", "[B", true)
  | 51 => ("HairpinLocksModel", "firstBy", "[B", true)
  | 52 => ("HairpinLocksModel", "queue", "[I", true)
  | 53 => ("HairpinLocksModel", "queued", "I", false)
  | 54 => ("HairpinLocksModel", "needOf", "[I", true)
  | 55 => ("HairpinLocksModel", "turnsOf", "[I", true)
  | 56 => ("HairpinLocksModel", "carriedTo", "[I", true)
  | _ => ("HairpinLocksModel", "isKept", "Z", false)
def tyX12 : Nat → FieldType := fun k => match k with
  | 0 => .array .int
  | 1 => .array .int
  | 2 => .array .int
  | 3 => .array .int
  | 4 => .array .int
  | 5 => .array .int
  | 6 => .array .int
  | 7 => .array .int
  | 8 => .array .int
  | 9 => .array .int
  | 10 => .array .int
  | 11 => .int
  | 12 => .int
  | 13 => .array .byte
  | 14 => .int
  | 15 => .int
  | 16 => .int
  | 17 => .int
  | 18 => .int
  | 19 => .int
  | 20 => .int
  | 21 => .int
  | 22 => .int
  | 23 => .int
  | 24 => .array .int
  | 25 => .array .int
  | 26 => .array .int
  | 27 => .array .int
  | 28 => .array .int
  | 29 => .array .int
  | 30 => .array .int
  | 31 => .array .int
  | 32 => .array .int
  | 33 => .array .int
  | 34 => .array .int
  | 35 => .array .int
  | 36 => .array .int
  | 37 => .array .int
  | 38 => .array .int
  | 39 => .array .int
  | 40 => .array .int
  | 41 => .int
  | 42 => .int
  | 43 => .int
  | 44 => .int
  | 45 => .int
  | 46 => .int
  | 47 => .int
  | 48 => .int
  | 49 => .int
  | 50 => .array .byte
  | 51 => .array .byte
  | 52 => .array .int
  | 53 => .int
  | 54 => .array .int
  | 55 => .array .int
  | 56 => .array .int
  | _ => .boolean
abbrev wsX120 : List Cond := u_ws RX12 TX12 58
theorem nmX12 : ∀ a, a < 58 → ∀ b, b < 58 → a ≠ b → (TX12 a).2.1 ≠ (TX12 b).2.1 := by decide +kernel
theorem tyX12_ok : ∀ k, k < 58 → parseFieldDescriptor (TX12 k).2.2.1 = some (tyX12 k) := by decide +kernel
abbrev cX12_init : ByteArray := prog_14_method_1_code
def yX12_init : MethodName := ⟨RX12, "<init>", "()V"⟩
abbrev cX12_in : ByteArray := prog_14_method_2_code
def yX12_in : MethodName := ⟨RX12, "in", "(III)Z"⟩
abbrev cX12_min : ByteArray := prog_14_method_3_code
def yX12_min : MethodName := ⟨RX12, "min", "(II)I"⟩
abbrev cX12_size : ByteArray := prog_14_method_5_code
def yX12_size : MethodName := ⟨RX12, "size", "(I)I"⟩
abbrev cX12_has : ByteArray := prog_14_method_6_code
def yX12_has : MethodName := ⟨RX12, "has", "(II)Z"⟩
abbrev cX12_bits : ByteArray := prog_14_method_7_code
def yX12_bits : MethodName := ⟨RX12, "bits", "(I)I"⟩
abbrev cX12_copies : ByteArray := prog_14_method_8_code
def yX12_copies : MethodName := ⟨RX12, "copies", "([I[I)V"⟩
abbrev cX12_isWoman : ByteArray := prog_14_method_9_code
def yX12_isWoman : MethodName := ⟨RX12, "isWoman", "(I)Z"⟩
abbrev cX12_isDoor : ByteArray := prog_14_method_10_code
def yX12_isDoor : MethodName := ⟨RX12, "isDoor", "(I)Z"⟩
abbrev cX12_canOpen : ByteArray := prog_14_method_11_code
def yX12_canOpen : MethodName := ⟨RX12, "canOpen", "(I)Z"⟩
abbrev cX12_behind : ByteArray := prog_14_method_12_code
def yX12_behind : MethodName := ⟨RX12, "behind", "(II)I"⟩
abbrev cX12_fits : ByteArray := prog_14_method_13_code
def yX12_fits : MethodName := ⟨RX12, "fits", "(II)Z"⟩
abbrev cX12_fitting : ByteArray := prog_14_method_14_code
def yX12_fitting : MethodName := ⟨RX12, "fitting", "(I)I"⟩
abbrev cX12_pinsOf : ByteArray := prog_14_method_15_code
def yX12_pinsOf : MethodName := ⟨RX12, "pinsOf", "(I)I"⟩
abbrev cX12_woman : ByteArray := prog_14_method_16_code
def yX12_woman : MethodName := ⟨RX12, "woman", "(II)Z"⟩
abbrev cX12_types : ByteArray := prog_14_method_17_code
def yX12_types : MethodName := ⟨RX12, "types", "(I)V"⟩
abbrev cX12_feed : ByteArray := prog_14_method_18_code
def yX12_feed : MethodName := ⟨RX12, "feed", "(IIIII)I"⟩
abbrev cX12_octet : ByteArray := prog_14_method_19_code
def yX12_octet : MethodName := ⟨RX12, "octet", "(I)I"⟩
abbrev cX12_here : ByteArray := prog_14_method_20_code
def yX12_here : MethodName := ⟨RX12, "here", "()I"⟩
abbrev cX12_isDigit : ByteArray := prog_14_method_21_code
def yX12_isDigit : MethodName := ⟨RX12, "isDigit", "()Z"⟩
abbrev cX12_wrongAt : ByteArray := prog_14_method_22_code
def yX12_wrongAt : MethodName := ⟨RX12, "wrongAt", "(II)Z"⟩
abbrev cX12_takes : ByteArray := prog_14_method_23_code
def yX12_takes : MethodName := ⟨RX12, "takes", "(I)Z"⟩
abbrev cX12_readsNumber : ByteArray := prog_14_method_24_code
def yX12_readsNumber : MethodName := ⟨RX12, "readsNumber", "()Z"⟩
abbrev cX12_notes : ByteArray := prog_14_method_25_code
def yX12_notes : MethodName := ⟨RX12, "notes", "(II)V"⟩
abbrev cX12_opens : ByteArray := prog_14_method_26_code
def yX12_opens : MethodName := ⟨RX12, "opens", "(I)Z"⟩
abbrev cX12_waitTop : ByteArray := prog_14_method_27_code
def yX12_waitTop : MethodName := ⟨RX12, "waitTop", "()I"⟩
abbrev cX12_factOf : ByteArray := prog_14_method_28_code
def yX12_factOf : MethodName := ⟨RX12, "factOf", "(I)I"⟩
abbrev cX12_sumSign : ByteArray := prog_14_method_29_code
def yX12_sumSign : MethodName := ⟨RX12, "sumSign", "(I)I"⟩
abbrev cX12_closesSums : ByteArray := prog_14_method_30_code
def yX12_closesSums : MethodName := ⟨RX12, "closesSums", "(Z)V"⟩
abbrev cX12_readsFactor : ByteArray := prog_14_method_31_code
def yX12_readsFactor : MethodName := ⟨RX12, "readsFactor", "()Z"⟩
abbrev cX12_hasOpenSum : ByteArray := prog_14_method_32_code
def yX12_hasOpenSum : MethodName := ⟨RX12, "hasOpenSum", "(I)Z"⟩
abbrev cX12_readsSum : ByteArray := prog_14_method_33_code
def yX12_readsSum : MethodName := ⟨RX12, "readsSum", "()Z"⟩
abbrev cX12_endsPiece : ByteArray := prog_14_method_34_code
def yX12_endsPiece : MethodName := ⟨RX12, "endsPiece", "()V"⟩
abbrev cX12_lands : ByteArray := prog_14_method_35_code
def yX12_lands : MethodName := ⟨RX12, "lands", "(Z)V"⟩
abbrev cX12_jumps : ByteArray := prog_14_method_36_code
def yX12_jumps : MethodName := ⟨RX12, "jumps", "(I)V"⟩
abbrev cX12_readsCompared : ByteArray := prog_14_method_37_code
def yX12_readsCompared : MethodName := ⟨RX12, "readsCompared", "()Z"⟩
abbrev cX12_readsCondition : ByteArray := prog_14_method_38_code
def yX12_readsCondition : MethodName := ⟨RX12, "readsCondition", "()Z"⟩
abbrev cX12_readsRule : ByteArray := prog_14_method_39_code
def yX12_readsRule : MethodName := ⟨RX12, "readsRule", "()Z"⟩
abbrev cX12_beginsText : ByteArray := prog_14_method_40_code
def yX12_beginsText : MethodName := ⟨RX12, "beginsText", "(I)V"⟩
abbrev cX12_law : ByteArray := prog_14_method_41_code
def yX12_law : MethodName := ⟨RX12, "law", "(I)I"⟩
abbrev cX12_reckon : ByteArray := prog_14_method_42_code
def yX12_reckon : MethodName := ⟨RX12, "reckon", "(III)I"⟩
abbrev cX12_reckonsTo : ByteArray := prog_14_method_43_code
def yX12_reckonsTo : MethodName := ⟨RX12, "reckonsTo", "(II)I"⟩
abbrev cX12_byLaw : ByteArray := prog_14_method_44_code
def yX12_byLaw : MethodName := ⟨RX12, "byLaw", "(II)I"⟩
abbrev cX12_holdsAny : ByteArray := prog_14_method_45_code
def yX12_holdsAny : MethodName := ⟨RX12, "holdsAny", "(I)Z"⟩
abbrev cX12_readsTimes : ByteArray := prog_14_method_46_code
def yX12_readsTimes : MethodName := ⟨RX12, "readsTimes", "()V"⟩
abbrev cX12_repeats : ByteArray := prog_14_method_47_code
def yX12_repeats : MethodName := ⟨RX12, "repeats", "(III)Z"⟩
abbrev cX12_readsPin : ByteArray := prog_14_method_48_code
def yX12_readsPin : MethodName := ⟨RX12, "readsPin", "()Z"⟩
abbrev cX12_hair : ByteArray := prog_14_method_49_code
def yX12_hair : MethodName := ⟨RX12, "hair", "(II)I"⟩
abbrev cX12_putsUp : ByteArray := prog_14_method_50_code
def yX12_putsUp : MethodName := ⟨RX12, "putsUp", "(I)I"⟩
abbrev cX12_night : ByteArray := prog_14_method_51_code
def yX12_night : MethodName := ⟨RX12, "night", "()I"⟩
abbrev cX12_readsWithin : ByteArray := prog_14_method_52_code
def yX12_readsWithin : MethodName := ⟨RX12, "readsWithin", "(I)Z"⟩
abbrev cX12_readsRooms : ByteArray := prog_14_method_53_code
def yX12_readsRooms : MethodName := ⟨RX12, "readsRooms", "(I)Z"⟩
abbrev cX12_readsDoor : ByteArray := prog_14_method_54_code
def yX12_readsDoor : MethodName := ⟨RX12, "readsDoor", "()Z"⟩
abbrev cX12_readsKind : ByteArray := prog_14_method_55_code
def yX12_readsKind : MethodName := ⟨RX12, "readsKind", "()Z"⟩
abbrev cX12_readsLine : ByteArray := prog_14_method_56_code
def yX12_readsLine : MethodName := ⟨RX12, "readsLine", "()Z"⟩
abbrev cX12_putsDoorsAside : ByteArray := prog_14_method_57_code
def yX12_putsDoorsAside : MethodName := ⟨RX12, "putsDoorsAside", "()V"⟩
abbrev cX12_putsDoorsBack : ByteArray := prog_14_method_58_code
def yX12_putsDoorsBack : MethodName := ⟨RX12, "putsDoorsBack", "()V"⟩
abbrev cX12_orders : ByteArray := prog_14_method_59_code
def yX12_orders : MethodName := ⟨RX12, "orders", "(I)I"⟩
abbrev cX12_womenIn : ByteArray := prog_14_method_60_code
def yX12_womenIn : MethodName := ⟨RX12, "womenIn", "(I)I"⟩
abbrev cX12_feels : ByteArray := prog_14_method_61_code
def yX12_feels : MethodName := ⟨RX12, "feels", "(I)V"⟩
abbrev cX12_kindFor : ByteArray := prog_14_method_62_code
def yX12_kindFor : MethodName := ⟨RX12, "kindFor", "(II)I"⟩
abbrev cX12_feelsDoor : ByteArray := prog_14_method_63_code
def yX12_feelsDoor : MethodName := ⟨RX12, "feelsDoor", "(II)V"⟩
abbrev cX12_chosenBy : ByteArray := prog_14_method_64_code
def yX12_chosenBy : MethodName := ⟨RX12, "chosenBy", "(I)I"⟩
abbrev cX12_turnOf : ByteArray := prog_14_method_65_code
def yX12_turnOf : MethodName := ⟨RX12, "turnOf", "(I)V"⟩
abbrev cX12_roundsGo : ByteArray := prog_14_method_66_code
def yX12_roundsGo : MethodName := ⟨RX12, "roundsGo", "(I)V"⟩
abbrev cX12_rounds : ByteArray := prog_14_method_67_code
def yX12_rounds : MethodName := ⟨RX12, "rounds", "(I)I"⟩
abbrev cX12_tried : ByteArray := prog_14_method_68_code
def yX12_tried : MethodName := ⟨RX12, "tried", "(II)I"⟩
abbrev cX12_womanIs : ByteArray := prog_14_method_69_code
def yX12_womanIs : MethodName := ⟨RX12, "womanIs", "(II)I"⟩
abbrev cX12_doorIs : ByteArray := prog_14_method_70_code
def yX12_doorIs : MethodName := ⟨RX12, "doorIs", "(II)I"⟩
abbrev cX12_kindIs : ByteArray := prog_14_method_71_code
def yX12_kindIs : MethodName := ⟨RX12, "kindIs", "(I)I"⟩
abbrev cX12_goneOf : ByteArray := prog_14_method_72_code
def yX12_goneOf : MethodName := ⟨RX12, "goneOf", "(II)I"⟩
abbrev cX12_sevenTo : ByteArray := prog_14_method_73_code
def yX12_sevenTo : MethodName := ⟨RX12, "sevenTo", "(I)I"⟩
abbrev cX12_goesOn : ByteArray := prog_14_method_74_code
def yX12_goesOn : MethodName := ⟨RX12, "goesOn", "(IIII)V"⟩
abbrev cX12_laysWays : ByteArray := prog_14_method_75_code
def yX12_laysWays : MethodName := ⟨RX12, "laysWays", "(I)V"⟩
abbrev cX12_clearsWays : ByteArray := prog_14_method_76_code
def yX12_clearsWays : MethodName := ⟨RX12, "clearsWays", "()V"⟩
abbrev cX12_getsTo : ByteArray := prog_14_method_77_code
def yX12_getsTo : MethodName := ⟨RX12, "getsTo", "(III)I"⟩
abbrev cX12_near : ByteArray := prog_14_method_78_code
def yX12_near : MethodName := ⟨RX12, "near", "(I)I"⟩
abbrev cX12_atOnce : ByteArray := prog_14_method_79_code
def yX12_atOnce : MethodName := ⟨RX12, "atOnce", "(II)I"⟩
abbrev cX12_nothingFits : ByteArray := prog_14_method_80_code
def yX12_nothingFits : MethodName := ⟨RX12, "nothingFits", "()I"⟩
abbrev cX12_areEnough : ByteArray := prog_14_method_81_code
def yX12_areEnough : MethodName := ⟨RX12, "areEnough", "(I)Z"⟩
abbrev cX12_enough : ByteArray := prog_14_method_82_code
def yX12_enough : MethodName := ⟨RX12, "enough", "(I)I"⟩
abbrev cX12_bent : ByteArray := prog_14_method_83_code
def yX12_bent : MethodName := ⟨RX12, "bent", "(I)I"⟩
abbrev cX12_prongs : ByteArray := prog_14_method_84_code
def yX12_prongs : MethodName := ⟨RX12, "prongs", "(II)I"⟩
abbrev cX12_groupOf : ByteArray := prog_14_method_85_code
def yX12_groupOf : MethodName := ⟨RX12, "groupOf", "(II)I"⟩
abbrev cX12_groups : ByteArray := prog_14_method_86_code
def yX12_groups : MethodName := ⟨RX12, "groups", "(I)I"⟩
abbrev cX12_landings : ByteArray := prog_14_method_87_code
def yX12_landings : MethodName := ⟨RX12, "landings", "(I)I"⟩
abbrev cX12_curlOf : ByteArray := prog_14_method_88_code
def yX12_curlOf : MethodName := ⟨RX12, "curlOf", "(II)I"⟩
abbrev cX12_fitsGuess : ByteArray := prog_14_method_89_code
def yX12_fitsGuess : MethodName := ⟨RX12, "fitsGuess", "(II)Z"⟩
abbrev cX12_curls : ByteArray := prog_14_method_90_code
def yX12_curls : MethodName := ⟨RX12, "curls", "(II)I"⟩
abbrev cX12_rings : ByteArray := prog_14_method_91_code
def yX12_rings : MethodName := ⟨RX12, "rings", "(II)I"⟩
abbrev cX12_dials : ByteArray := prog_14_method_92_code
def yX12_dials : MethodName := ⟨RX12, "dials", "(I)I"⟩
abbrev cX12_alikeTo : ByteArray := prog_14_method_93_code
def yX12_alikeTo : MethodName := ⟨RX12, "alikeTo", "(II)I"⟩
abbrev cX12_dish : ByteArray := prog_14_method_94_code
def yX12_dish : MethodName := ⟨RX12, "dish", "(II)I"⟩
abbrev cX12_thursday : ByteArray := prog_14_method_95_code
def yX12_thursday : MethodName := ⟨RX12, "thursday", "()I"⟩
abbrev cX12_seed : ByteArray := prog_14_method_96_code
def yX12_seed : MethodName := ⟨RX12, "seed", "(I)Z"⟩
abbrev cX12_keep : ByteArray := prog_14_method_97_code
def yX12_keep : MethodName := ⟨RX12, "keep", "()I"⟩
abbrev cX12_undo : ByteArray := prog_14_method_98_code
def yX12_undo : MethodName := ⟨RX12, "undo", "()Z"⟩
abbrev cX12_check : ByteArray := prog_14_method_99_code
def yX12_check : MethodName := ⟨RX12, "check", "(I)I"⟩
abbrev cX12_toldWomen : ByteArray := prog_14_method_100_code
def yX12_toldWomen : MethodName := ⟨RX12, "toldWomen", "()I"⟩
abbrev cX12_pinsOfAll : ByteArray := prog_14_method_101_code
def yX12_pinsOfAll : MethodName := ⟨RX12, "pinsOfAll", "()I"⟩
abbrev cX12_count : ByteArray := prog_14_method_102_code
def yX12_count : MethodName := ⟨RX12, "count", "(I)I"⟩
def RJ6 : String := "java/lang/Integer"
def TJ6 : u_T := fun k => match k with
  | _ => ("", "", "", false)
def tyJ6 : Nat → FieldType := fun k => match k with
  | _ => .int
abbrev wsJ60 : List Cond := u_ws RJ6 TJ6 0
theorem nmJ6 : ∀ a, a < 0 → ∀ b, b < 0 → a ≠ b → (TJ6 a).2.1 ≠ (TJ6 b).2.1 := by decide +kernel
theorem tyJ6_ok : ∀ k, k < 0 → parseFieldDescriptor (TJ6 k).2.2.1 = some (tyJ6 k) := by decide +kernel
abbrev cJ6_numberOfTrailingZeros_0f7a4 : ByteArray := prog_15_method_48_code
def yJ6_numberOfTrailingZeros_0f7a4 : MethodName := ⟨RJ6, "numberOfTrailingZeros", "(I)I"⟩
abbrev cJ6_bitCount_0f7a4 : ByteArray := prog_15_method_49_code
def yJ6_bitCount_0f7a4 : MethodName := ⟨RJ6, "bitCount", "(I)I"⟩
def RJ9 : String := "java/lang/Math"
def TJ9 : u_T := fun k => match k with
  | _ => ("", "", "", false)
def tyJ9 : Nat → FieldType := fun k => match k with
  | _ => .int
abbrev wsJ90 : List Cond := u_ws RJ9 TJ9 0
theorem nmJ9 : ∀ a, a < 0 → ∀ b, b < 0 → a ≠ b → (TJ9 a).2.1 ≠ (TJ9 b).2.1 := by decide +kernel
theorem tyJ9_ok : ∀ k, k < 0 → parseFieldDescriptor (TJ9 k).2.2.1 = some (tyJ9 k) := by decide +kernel
abbrev cJ9_floorMod_7cf53 : ByteArray := prog_16_method_50_code
def yJ9_floorMod_7cf53 : MethodName := ⟨RJ9, "floorMod", "(II)I"⟩
abbrev cJ9_abs_0f7a4 : ByteArray := prog_16_method_59_code
def yJ9_abs_0f7a4 : MethodName := ⟨RJ9, "abs", "(I)I"⟩
abbrev cJ9_max_7cf53 : ByteArray := prog_16_method_65_code
def yJ9_max_7cf53 : MethodName := ⟨RJ9, "max", "(II)I"⟩
abbrev cJ9_min_7cf53 : ByteArray := prog_16_method_69_code
def yJ9_min_7cf53 : MethodName := ⟨RJ9, "min", "(II)I"⟩
def RJ10 : String := "java/lang/System"
def TJ10 : u_T := fun k => match k with
  | _ => ("", "", "", false)
def tyJ10 : Nat → FieldType := fun k => match k with
  | _ => .int
abbrev wsJ100 : List Cond := u_ws RJ10 TJ10 0
theorem nmJ10 : ∀ a, a < 0 → ∀ b, b < 0 → a ≠ b → (TJ10 a).2.1 ≠ (TJ10 b).2.1 := by decide +kernel
theorem tyJ10_ok : ∀ k, k < 0 → parseFieldDescriptor (TJ10 k).2.2.1 = some (tyJ10 k) := by decide +kernel
def RJ7 : String := "java/util/Arrays"
def TJ7 : u_T := fun k => match k with
  | _ => ("", "", "", false)
def tyJ7 : Nat → FieldType := fun k => match k with
  | _ => .int
abbrev wsJ70 : List Cond := u_ws RJ7 TJ7 0
theorem nmJ7 : ∀ a, a < 0 → ∀ b, b < 0 → a ≠ b → (TJ7 a).2.1 ≠ (TJ7 b).2.1 := by decide +kernel
theorem tyJ7_ok : ∀ k, k < 0 → parseFieldDescriptor (TJ7 k).2.2.1 = some (tyJ7 k) := by decide +kernel
abbrev cJ7_rangeCheck_23922 : ByteArray := prog_18_method_30_code
def yJ7_rangeCheck_23922 : MethodName := ⟨RJ7, "rangeCheck", "(III)V"⟩
abbrev cJ7_fill_53178 : ByteArray := prog_18_method_103_code
def yJ7_fill_53178 : MethodName := ⟨RJ7, "fill", "([II)V"⟩
abbrev cJ7_fill_fda19 : ByteArray := prog_18_method_104_code
def yJ7_fill_fda19 : MethodName := ⟨RJ7, "fill", "([IIII)V"⟩
def RL : String := "HairpinLocksLaw"
abbrev cL_law : ByteArray := code
def yL_law : MethodName := ⟨RL, "law", "([I)Z"⟩
end
section
/-! MY LAYER: one judgement Gx over the kit's W, one contract form Cn, a row an instruction -/
abbrev cls : List vw_C := [(RX0, TX0, 7), (RX1, TX1, 4), (RX2, TX2, 9), (RX3, TX3, 2), (RX4, TX4, 8), (RX6, TX6, 5), (RX7, TX7, 4), (RX8, TX8, 2), (RX9, TX9, 7), (RX10, TX10, 3), (RX11, TX11, 14), (RX12, TX12, 58)]
def lw_g : List Cond := lw_tbl.filter goodWord
theorem lg_in {w : Cond} (h : w ∈ lw_tbl) (h2 : goodWord w = true) : w ∈ lw_g := List.mem_filter.mpr ⟨h, h2⟩
theorem lg_good : GoodIn lw_g lw_g := fun w h => ⟨h, good_of_word (List.mem_filter.mp h).2⟩
theorem lg_goodC {w : Cond} (h : w ∈ lw_g) : GoodIn lw_g (w :: lw_g) := fun v hv => by
  rcases List.mem_cons.mp hv with rfl | h1
  · exact lg_good _ h
  · exact lg_good _ h1
def isNest : Cond → Bool
  | .methodLinkNest _ _ _ _ => true
  | _ => false
def nwl : List Cond := lw_tbl.filter isNest
theorem nw_moved {s U : State} (hW : s.WarmedH U.vm) (h : ∀ w ∈ nwl, va_Nw w s) : ∀ w ∈ nwl, va_Nw w U := by
  intro w hw
  have h1 := h w hw
  have h2 := (List.mem_filter.mp hw).2
  cases w <;> first | exact va_Nw.warmM hW h1 | (simp [isNest] at h2)
theorem nw_same {s U : State} (e : s.vm = U.vm) (h : ∀ w ∈ nwl, va_Nw w s) : ∀ w ∈ nwl, va_Nw w U := by
  intro w hw
  have h1 := h w hw
  have h2 := (List.mem_filter.mp hw).2
  cases w <;> first | exact va_Nw.same rfl e h1 | (simp [isNest] at h2)
def ltL : List Int32 := [119, 114, 100, 111, 117, 107, 110, 112, 99, 116]
def chL : List Int32 := [0, 0, 0, 0, 0, 0, 1, 7, 28, 84, 210, 462, 0, 0, 0, 0, 0, 1, 6, 21, 56, 126, 252, 462, 0, 0, 0, 0, 1, 5, 15, 35, 70, 126, 210, 330, 0, 0, 0, 1, 4, 10, 20, 35, 56, 84, 120, 165, 0, 0, 1, 3, 6, 10, 15, 21, 28, 36, 45, 55, 0, 1, 2, 3, 4, 5, 6, 7, 8, 9, 10, 11]
def ltF : Nat → Int32 := fun j => ltL.getD j 0
def chF : Nat → Int32 := fun j => chL.getD j 0
/-- the statics: two arrays that nothing writes, below B; and the nest's links -/
def SF (B : Nat) (U : State) (H : Heap) : Prop := (∃ t, va_Z RX2 "LETTERS" "[C" (.ref t) (fun q => B ≤ q) U H ∧ va_T .char t 10 (fun j => .int (ltF j)) (fun q => B ≤ q) U H) ∧ (∃ t, va_Z RX6 "CHOOSE" "[I" (.ref t) (fun q => B ≤ q) U H ∧ va_T .int t 72 (fun j => .int (chF j)) (fun q => B ≤ q) U H) ∧ ∀ w ∈ nwl, va_Nw w U
theorem SF.moved {B : Nat} {s U : State} {H : Heap} (hW : s.WarmedH U.vm) (h : SF B s H) : SF B U H := by
  obtain ⟨⟨t, z1, t1⟩, ⟨u, z2, t2⟩, n⟩ := h
  exact ⟨⟨t, z1.moved hW.alike, t1.moved hW.alike⟩, ⟨u, z2.moved hW.alike, t2.moved hW.alike⟩, nw_moved hW n⟩
theorem SF.same {B : Nat} {s U : State} {H : Heap} (e : s.vm = U.vm) (h : SF B s H) : SF B U H := by
  obtain ⟨⟨t, z1, t1⟩, ⟨u, z2, t2⟩, n⟩ := h
  have hv : s.vm.Alike U.vm := by rw [e]; exact Vm.Alike.refl _
  exact ⟨⟨t, z1.moved hv, t1.moved hv⟩, ⟨u, z2.moved hv, t2.moved hv⟩, nw_same e n⟩
theorem SF.kept {B : Nat} {s : State} {H H1 : Heap} {A : Nat → Prop} {locs : List Loc} (hA : ∀ q, A q → B ≤ q) (hS : va_S A H H1 locs) (h : SF B s H) : SF B s H1 := by
  obtain ⟨⟨t, z1, t1⟩, ⟨u, z2, t2⟩, n⟩ := h
  have hk : ∀ a : Nat, a < H.size → ¬ (B ≤ a) → H1[a]? = H[a]? := fun a h1 h2 => hS.2.1 a h1 (fun z => h2 (hA a z))
  exact ⟨⟨t, z1.kept hk, t1.kept hk⟩, ⟨u, z2.kept hk, t2.kept hk⟩, n⟩
abbrev GE : Type := va_G × ClassId × ClassId × Nat
abbrev gty (E : GE) : List (ClassId × FieldType) := [(E.2.1, .int), (E.2.2.1, .byte)]
abbrev GC : Type := Program × Launch × Env × Room × State × MethodId × Array Value × List Frame × Method × Code × (Nat → Prop) × Nat × (State → Prop)
def Pw (E : GE) (wc : va_W) (sz : Nat) (U : State) : Prop := U.heap.size = sz ∧ va_P E.1 cls wc U.heap ∧ va_K E.1 cls (gty E) U ∧ va_D (fun q => E.2.2.2 ≤ q) wc ∧ E.2.2.2 ≤ sz ∧ SF E.2.2.2 U U.heap
def Qw (E : GE) (B : va_W → Prop) (wc : va_W) (sz : Nat) (rv : Option Value) : Array Value → State → Outcome → State → Prop := fun _ st oc t => (∃ w', oc = .returned rv ∧ B w' ∧ va_P E.1 cls w' t.heap ∧ va_D (va_A wc sz) w') ∧ va_F (va_A wc sz) st t
def rmk (rk mc ms : Nat) : Room := { frames := rk + 1, cells := mc, slots := ms, locals := 64 * (rk + 1) }
def Cn (l : Launch) (E : GE) (y : MethodName) (bytes : ByteArray) (maxL : Nat) (ret : Option FieldType) (rk mc ms : Nat) (av : List Value) (wc : va_W) (B : va_W → Prop) (rv : Option Value) : Prop := ∀ sz, Met l y (.code y bytes maxL ret :: lw_g) (rmk rk mc ms) (va_Pc av (Pw E wc sz)) (Qw E B wc sz rv) mc ms (va_A wc sz)
def Cx (X : GC) (E : GE) (cc : ByteArray) (own : String) (rk mx : Nat) : Prop := match X with
  | (p, _, _, R, s, m, args, _, meth, c, A, nL, _) => p.tables.exec = Jvm.exec ∧ c.code = cc ∧ c.maxLocals = nL ∧ s.vm.findClass own = some m.cls ∧ (∀ w ∈ lw_g, w.before args s = true) ∧ va_K E.1 cls (gty E) s ∧ (∀ q, s.heap.size ≤ q → A q) ∧ (∀ q, A q → E.2.2.2 ≤ q) ∧ SF E.2.2.2 s s.heap ∧ (rk + 1 ≤ R.frames ∧ 64 * (rk + 1) ≤ R.locals) ∧ E.2.2.2 ≤ s.heap.size ∧ meth.locks = false ∧ nL = mx
def Gx (X : GC) (E : GE) (kc ks : Nat) (ws : va_W) (pc : Nat) (lv : List (Nat × Value)) (st : List Value) : Prop := match X with
  | (p, l, e, R, s, m, args, below, meth, c, A, nL, Q) => ∀ (H : Heap) (locs : List Loc) (ls : Array Slot), va_P E.1 cls ws H → va_D A ws → va_S A s.heap H locs → lv_has ls nL lv → W p l e R s m args below meth c H locs kc ks Q (F0 m pc ls st)
/-- the end: what the walk must come to -/
def RtI (X : GC) (E : GE) (cc : ByteArray) (ty : FieldType) (mc ms : Nat) (B : va_W → Prop) (v : Int32) : Prop := ∀ (pc : Nat) (lv : List (Nat × Value)) (w : va_W), decode cc pc = .ok (.ireturn, 1) → narrow ty (.int v) = .int v → B w → Gx X E mc ms w pc lv [.int v]
def RtV (X : GC) (E : GE) (cc : ByteArray) (mc ms : Nat) (B : va_W → Prop) : Prop := ∀ (pc : Nat) (lv : List (Nat × Value)) (w : va_W), decode cc pc = .ok (.return_, 1) → B w → Gx X E mc ms w pc lv []
theorem Cn.ofI {l : Launch} {E : GE} {y : MethodName} {bytes : ByteArray} {maxL : Nat} {ty : FieldType} {rk mc ms : Nat} {av : List Value} {wc : va_W} {B : va_W → Prop} {v : Int32} (hy : plainName y.cls = true) (hn : (lg_sl av).length ≤ maxL)
    (h : ∀ X : GC, X.2.1 = l → X.2.2.2.1 = rmk rk mc ms → Cx X E bytes y.cls rk maxL → RtI X E bytes ty mc ms B v → Gx X E 0 0 wc 0 (lv_args 0 av) []) : Cn l E y bytes maxL (some ty) rk mc ms av wc B (some (.int v)) := by
  intro sz
  refine Met.ofW (cc := bytes) (maxL := maxL) (ret := some ty) hy rfl ?_
  intro p e s m args below meth c s₁ Bo hml hv
  obtain ⟨rfl, rfl, hP, hK, hD0, hB0, hSF⟩ := hv
  have hts := atoms_spec (ws := .code y bytes maxL (some ty) :: lw_g) Bo.pre
  have hown : s.vm.findClass y.cls = some m.cls := findClass_of_methodNamed Bo.named
  have hlocks := Bo.notSynchronized
  have hl := lv_entry av (n := maxL) hn
  rw [lg_entry_eq]
  refine h (p, l, e, rmk rk mc ms, s, m, av.toArray, below, meth, c, va_A wc s.heap.size, maxL, MQ below (Qw E B wc s.heap.size (some (.int v))) av.toArray s mc ms (va_A wc s.heap.size)) rfl rfl ?_ ?_ s.heap [] _ hP (hD0.self) va_S.rf hl
  · refine ⟨Bo.exec, Bo.bytes, hml, hown, fun w hw => hts w (List.mem_cons_of_mem _ hw), hK, fun q hq => Or.inr hq, ?_, hSF, ⟨Nat.le_refl _, Nat.le_refl _⟩, hB0, hlocks, rfl⟩
    intro q hq
    rcases hq with ⟨k, e, hk⟩ | hq
    · exact hD0.2 k _ hk
    · exact Nat.le_trans hB0 hq
  · intro pc lv w hd hn hBw H locs ls hP hD hS hl
    exact W.zret Bo.exec Bo.bytes Bo.returns hn (fun t ht hW => ⟨⟨w, rfl, hBw, by rw [ht]; exact hP, hD⟩, hS.F ht⟩) hS.2.2 hd
theorem Cn.ofV {l : Launch} {E : GE} {y : MethodName} {bytes : ByteArray} {maxL : Nat} {rk mc ms : Nat} {av : List Value} {wc : va_W} {B : va_W → Prop} (hy : plainName y.cls = true) (hn : (lg_sl av).length ≤ maxL)
    (h : ∀ X : GC, X.2.1 = l → X.2.2.2.1 = rmk rk mc ms → Cx X E bytes y.cls rk maxL → RtV X E bytes mc ms B → Gx X E 0 0 wc 0 (lv_args 0 av) []) : Cn l E y bytes maxL none rk mc ms av wc B none := by
  intro sz
  refine Met.ofW (cc := bytes) (maxL := maxL) (ret := none) hy rfl ?_
  intro p e s m args below meth c s₁ Bo hml hv
  obtain ⟨rfl, rfl, hP, hK, hD0, hB0, hSF⟩ := hv
  have hts := atoms_spec (ws := .code y bytes maxL none :: lw_g) Bo.pre
  have hown : s.vm.findClass y.cls = some m.cls := findClass_of_methodNamed Bo.named
  have hlocks := Bo.notSynchronized
  have hl := lv_entry av (n := maxL) hn
  rw [lg_entry_eq]
  refine h (p, l, e, rmk rk mc ms, s, m, av.toArray, below, meth, c, va_A wc s.heap.size, maxL, MQ below (Qw E B wc s.heap.size none) av.toArray s mc ms (va_A wc s.heap.size)) rfl rfl ?_ ?_ s.heap [] _ hP (hD0.self) va_S.rf hl
  · refine ⟨Bo.exec, Bo.bytes, hml, hown, fun w hw => hts w (List.mem_cons_of_mem _ hw), hK, fun q hq => Or.inr hq, ?_, hSF, ⟨Nat.le_refl _, Nat.le_refl _⟩, hB0, hlocks, rfl⟩
    intro q hq
    rcases hq with ⟨k, e, hk⟩ | hq
    · exact hD0.2 k _ hk
    · exact Nat.le_trans hB0 hq
  · intro pc lv w hd hBw H locs ls hP hD hS hl
    exact W.vret Bo.exec Bo.bytes Bo.returns (fun t ht hW => ⟨⟨w, rfl, hBw, by rw [ht]; exact hP, hD⟩, hS.F ht⟩) hS.2.2 hd
theorem Pw.blind {E : GE} {wc : va_W} {sz : Nat} {av : List Value} : FrameBlind (va_Pc av (Pw E wc sz)) := by
  intro a U g mk h
  obtain ⟨h0, h1, h2, h3, h4, h5, h6⟩ := h
  exact ⟨h0, h1, h2, va_K.moved (u := U) (U := U.calling g mk a) (Vm.Alike.refl U.vm) h3, h4, h5, SF.same (s := U) (U := U.calling g mk a) (H := U.heap) rfl h6⟩
def lp {S β : Type} (body : (S → Option β) → S → Option β) : Nat → S → Option β
  | 0, _ => none
  | n + 1, s => body (lp body n) s
theorem lp_ind {S β : Type} {body : (S → Option β) → S → Option β} {r : β} (P : S → Prop) (hb : ∀ go : S → Option β, (∀ s, go s = some r → P s) → ∀ s, body go s = some r → P s) : ∀ (n : Nat) (s : S), lp body n s = some r → P s := by
  intro n
  induction n with
  | zero => intro s h; cases h
  | succ n ih => intro s h; exact hb _ ih s h
def jn {S β : Type} (J : S → Option β) (M : (S → Option β) → Option β) : Option β := M J
def fu : Nat := 20000
theorem bs {α β : Type} {x : Option α} {F : α → Option β} {r : β} (h : x.bind F = some r) : ∃ u, x = some u ∧ F u = some r := Option.bind_eq_some_iff.mp h
theorem ite_cs {α : Type} {c : Prop} [Decidable c] {P Q : Option α} {r : α} (h : (if c then P else Q) = some r) : (c ∧ P = some r) ∨ (¬ c ∧ Q = some r) := by
  split at h
  · exact Or.inl ⟨‹_›, h⟩
  · exact Or.inr ⟨‹_›, h⟩
end
section
section GR
variable {X : GC} {E : GE} {cc : ByteArray} {own : String} {rk mx kc ks : Nat} {ws : va_W} {pc : Nat} {lv : List (Nat × Value)} {st : List Value} {α : Type} {r : α}
def nm {α β : Type} (x : α) (f : α → β) : β := f x
def rd {β : Type} (f : Nat → Int32) (n : Nat) (i : Int32) (k : Int32 → Option β) : Option β := if 0 ≤ i.toInt ∧ i.toInt < n then k (f i.toNatClampNeg) else none
def wr {β : Type} (f : Nat → Int32) (n : Nat) (i x : Int32) (k : (Nat → Int32) → Option β) : Option β := if 0 ≤ i.toInt ∧ i.toInt < n then k (upd f i.toNatClampNeg x) else none
def dv {β : Type} (a b : Int32) (k : Int32 → Option β) : Option β := if b = 0 then none else k (a / b)
def rm {β : Type} (a b : Int32) (k : Int32 → Option β) : Option β := if b = 0 then none else k (a - a / b * b)
def gb {β : Type} (v : Int32) (k : Option β) : Option β := if v = 0 ∨ v = 1 then k else none
theorem gb_is {β : Type} {v : Int32} {k : Option β} {r : β} (h : gb v k = some r) : narrow .boolean (.int v) = .int v ∧ k = some r := by
  unfold gb at h
  split at h
  · rename_i hv
    refine ⟨?_, h⟩
    rcases hv with rfl | rfl <;> decide
  · cases h
theorem ite_some {α : Type} {c : Prop} [Decidable c] {P : Option α} {r : α} (h : (if c then P else none) = some r) : c ∧ P = some r := by
  split at h
  · exact ⟨‹_›, h⟩
  · cases h
theorem ite_someN {α : Type} {c : Prop} [Decidable c] {P : Option α} {r : α} (h : (if c then none else P) = some r) : ¬ c ∧ P = some r := by
  split at h
  · cases h
  · exact ⟨‹_›, h⟩
theorem rd_is {β : Type} {f : Nat → Int32} {n : Nat} {i : Int32} {k : Int32 → Option β} {r : β} (h : rd f n i k = some r) : vp_in i n ∧ k (f i.toNatClampNeg) = some r := ⟨vp_in_iff.mpr (ite_some h).1, (ite_some h).2⟩
theorem wr_is {β : Type} {f : Nat → Int32} {n : Nat} {i x : Int32} {k : (Nat → Int32) → Option β} {r : β} (h : wr f n i x k = some r) : vp_in i n ∧ k (upd f i.toNatClampNeg x) = some r := ⟨vp_in_iff.mpr (ite_some h).1, (ite_some h).2⟩
theorem g_nm {x : Int32} {F : Int32 → Option α} (h : nm x F = some r) (k : ∀ v, F v = some r → Gx X E kc ks ws pc lv (.int v :: st)) : Gx X E kc ks ws pc lv (.int x :: st) := k x h
theorem g_jn {S : Type} {J : S → Option α} {M : (S → Option α) → Option α} (P : S → Prop) (h : jn J M = some r) (hJ : ∀ s, J s = some r → P s) (k : ∀ j : S → Option α, (∀ s, j s = some r → P s) → M j = some r → Gx X E kc ks ws pc lv st) : Gx X E kc ks ws pc lv st := k J hJ h
theorem g_sub {lv' : List (Nat × Value)} (is : List Nat) (hl : lv_pick lv is = lv') (k : Gx X E kc ks ws pc lv' st) : Gx X E kc ks ws pc lv st := by
  obtain ⟨p, l, e, R, s, m, args, below, meth, c, A, nL, Q⟩ := X
  intro H locs ls hP hD hS h
  exact k H locs ls hP hD hS (lv_sub h is hl)
theorem g_iconst (C : Cx X E cc own rk mx) {n : Int} {v : Int32} (hd : decode cc pc = .ok (.iconst n, 1)) (hv : Int32.ofInt n = v) (k : Gx X E kc ks ws (pc + 1) lv (.int v :: st)) : Gx X E kc ks ws pc lv (st) := by
  obtain ⟨p, l, e, R, s, m, args, below, meth, c, A, nL, Q⟩ := X
  obtain ⟨hx, hb, hml, hown, hts, hK, hA, hAB, hSF, hR, hB0, hlk, hmx⟩ := C
  intro H locs ls hP hD hS hl
  exact lv_iconst hx hb hd hv (k H locs ls hP hD hS hl)
theorem g_bipush (C : Cx X E cc own rk mx) {n : Int} {v : Int32} (hd : decode cc pc = .ok (.bipush n, 2)) (hv : (Int8.ofInt n).toInt32 = v) (k : Gx X E kc ks ws (pc + 2) lv (.int v :: st)) : Gx X E kc ks ws pc lv (st) := by
  obtain ⟨p, l, e, R, s, m, args, below, meth, c, A, nL, Q⟩ := X
  obtain ⟨hx, hb, hml, hown, hts, hK, hA, hAB, hSF, hR, hB0, hlk, hmx⟩ := C
  intro H locs ls hP hD hS hl
  exact lv_bipush hx hb hd hv (k H locs ls hP hD hS hl)
theorem g_sipush (C : Cx X E cc own rk mx) {n : Int} {v : Int32} (hd : decode cc pc = .ok (.sipush n, 3)) (hv : (Int16.ofInt n).toInt32 = v) (k : Gx X E kc ks ws (pc + 3) lv (.int v :: st)) : Gx X E kc ks ws pc lv (st) := by
  obtain ⟨p, l, e, R, s, m, args, below, meth, c, A, nL, Q⟩ := X
  obtain ⟨hx, hb, hml, hown, hts, hK, hA, hAB, hSF, hR, hB0, hlk, hmx⟩ := C
  intro H locs ls hP hD hS hl
  exact lv_sipush hx hb hd hv (k H locs ls hP hD hS hl)
theorem g_ldc (C : Cx X E cc own rk mx) {i : Nat} {v : Int32} (hd : decode cc pc = .ok (.ldc i, 2)) (hw : Cond.constant own i v ∈ lw_g) (k : Gx X E kc ks ws (pc + 2) lv (.int v :: st)) : Gx X E kc ks ws pc lv (st) := by
  obtain ⟨p, l, e, R, s, m, args, below, meth, c, A, nL, Q⟩ := X
  obtain ⟨hx, hb, hml, hown, hts, hK, hA, hAB, hSF, hR, hB0, hlk, hmx⟩ := C
  intro H locs ls hP hD hS hl
  exact lv_ldc hx hb hown (hts _ hw) hd (k H locs ls hP hD hS hl)
theorem g_ldcw (C : Cx X E cc own rk mx) {i : Nat} {v : Int32} (hd : decode cc pc = .ok (.ldc_w i, 3)) (hw : Cond.constant own i v ∈ lw_g) (k : Gx X E kc ks ws (pc + 3) lv (.int v :: st)) : Gx X E kc ks ws pc lv (st) := by
  obtain ⟨p, l, e, R, s, m, args, below, meth, c, A, nL, Q⟩ := X
  obtain ⟨hx, hb, hml, hown, hts, hK, hA, hAB, hSF, hR, hB0, hlk, hmx⟩ := C
  intro H locs ls hP hD hS hl
  exact lv_ldcw hx hb hown (hts _ hw) hd (k H locs ls hP hD hS hl)
theorem g_iload_n (C : Cx X E cc own rk mx) {n : Fin 4} {i : Nat} {x : Int32} (hd : decode cc pc = .ok (.iload_n n, 1)) (hi : (n : Nat) = i) (j : Nat) (hj : lv[j]? = some (i, .int x)) (k : Gx X E kc ks ws (pc + 1) lv (.int x :: st)) : Gx X E kc ks ws pc lv (st) := by
  obtain ⟨p, l, e, R, s, m, args, below, meth, c, A, nL, Q⟩ := X
  obtain ⟨hx, hb, hml, hown, hts, hK, hA, hAB, hSF, hR, hB0, hlk, hmx⟩ := C
  intro H locs ls hP hD hS hl
  exact lv_iload_n hx hb hd hi (lv_at hl j hj) (k H locs ls hP hD hS hl)
theorem g_iload (C : Cx X E cc own rk mx) {i : Nat} {x : Int32} (hd : decode cc pc = .ok (.iload i, 2)) (j : Nat) (hj : lv[j]? = some (i, .int x)) (k : Gx X E kc ks ws (pc + 2) lv (.int x :: st)) : Gx X E kc ks ws pc lv (st) := by
  obtain ⟨p, l, e, R, s, m, args, below, meth, c, A, nL, Q⟩ := X
  obtain ⟨hx, hb, hml, hown, hts, hK, hA, hAB, hSF, hR, hB0, hlk, hmx⟩ := C
  intro H locs ls hP hD hS hl
  exact lv_iload hx hb hd (lv_at hl j hj) (k H locs ls hP hD hS hl)
theorem g_aload_n (C : Cx X E cc own rk mx) {n : Fin 4} {i : Nat} {x : Nat} (hd : decode cc pc = .ok (.aload_n n, 1)) (hi : (n : Nat) = i) (j : Nat) (hj : lv[j]? = some (i, .ref x)) (k : Gx X E kc ks ws (pc + 1) lv (.ref x :: st)) : Gx X E kc ks ws pc lv (st) := by
  obtain ⟨p, l, e, R, s, m, args, below, meth, c, A, nL, Q⟩ := X
  obtain ⟨hx, hb, hml, hown, hts, hK, hA, hAB, hSF, hR, hB0, hlk, hmx⟩ := C
  intro H locs ls hP hD hS hl
  exact lv_aload_n hx hb hd hi (lv_at hl j hj) (k H locs ls hP hD hS hl)
theorem g_aload (C : Cx X E cc own rk mx) {i : Nat} {x : Nat} (hd : decode cc pc = .ok (.aload i, 2)) (j : Nat) (hj : lv[j]? = some (i, .ref x)) (k : Gx X E kc ks ws (pc + 2) lv (.ref x :: st)) : Gx X E kc ks ws pc lv (st) := by
  obtain ⟨p, l, e, R, s, m, args, below, meth, c, A, nL, Q⟩ := X
  obtain ⟨hx, hb, hml, hown, hts, hK, hA, hAB, hSF, hR, hB0, hlk, hmx⟩ := C
  intro H locs ls hP hD hS hl
  exact lv_aload hx hb hd (lv_at hl j hj) (k H locs ls hP hD hS hl)
theorem g_istore_n (C : Cx X E cc own rk mx) {n : Fin 4} {i : Nat} {x : Int32} {lv' : List (Nat × Value)} (hd : decode cc pc = .ok (.istore_n n, 1)) (hi : (n : Nat) = i) (hn : i < mx) (hl' : (i, Value.int x) :: lv.filter (fun q => !(q.1 == i) && !(q.1 + 1 == i && q.2.category == 2)) = lv') (k : Gx X E kc ks ws (pc + 1) lv' st) : Gx X E kc ks ws pc lv (Value.int x :: st) := by
  obtain ⟨p, l, e, R, s, m, args, below, meth, c, A, nL, Q⟩ := X
  obtain ⟨hx, hb, hml, hown, hts, hK, hA, hAB, hSF, hR, hB0, hlk, hmx⟩ := C
  intro H locs ls hP hD hS hl
  exact lv_istore_n hx hb hd hi hl (hmx ▸ hn) hl' (fun ls hl => (k H locs ls hP hD hS hl))
theorem g_istore (C : Cx X E cc own rk mx) {i : Nat} {x : Int32} {lv' : List (Nat × Value)} (hd : decode cc pc = .ok (.istore i, 2))  (hn : i < mx) (hl' : (i, Value.int x) :: lv.filter (fun q => !(q.1 == i) && !(q.1 + 1 == i && q.2.category == 2)) = lv') (k : Gx X E kc ks ws (pc + 2) lv' st) : Gx X E kc ks ws pc lv (Value.int x :: st) := by
  obtain ⟨p, l, e, R, s, m, args, below, meth, c, A, nL, Q⟩ := X
  obtain ⟨hx, hb, hml, hown, hts, hK, hA, hAB, hSF, hR, hB0, hlk, hmx⟩ := C
  intro H locs ls hP hD hS hl
  exact lv_istore hx hb hd hl (hmx ▸ hn) hl' (fun ls hl => (k H locs ls hP hD hS hl))
theorem g_astore_n (C : Cx X E cc own rk mx) {n : Fin 4} {i : Nat} {x : Nat} {lv' : List (Nat × Value)} (hd : decode cc pc = .ok (.astore_n n, 1)) (hi : (n : Nat) = i) (hn : i < mx) (hl' : (i, Value.ref x) :: lv.filter (fun q => !(q.1 == i) && !(q.1 + 1 == i && q.2.category == 2)) = lv') (k : Gx X E kc ks ws (pc + 1) lv' st) : Gx X E kc ks ws pc lv (Value.ref x :: st) := by
  obtain ⟨p, l, e, R, s, m, args, below, meth, c, A, nL, Q⟩ := X
  obtain ⟨hx, hb, hml, hown, hts, hK, hA, hAB, hSF, hR, hB0, hlk, hmx⟩ := C
  intro H locs ls hP hD hS hl
  exact lv_astore_n hx hb hd hi hl (hmx ▸ hn) hl' (fun ls hl => (k H locs ls hP hD hS hl))
theorem g_iinc (C : Cx X E cc own rk mx) {i j : Nat} {n : Int} {x v : Int32} {lv' : List (Nat × Value)} (hd : decode cc pc = .ok (.iinc i n, 3)) (hj : lv[j]? = some (i, .int x)) (hv : x + Int32.ofInt n = v) (hn : i < mx) (hl' : (i, Value.int v) :: lv.filter (fun q => !(q.1 == i) && !(q.1 + 1 == i && q.2.category == 2)) = lv') (k : Gx X E kc ks ws (pc + 3) lv' st) : Gx X E kc ks ws pc lv st := by
  obtain ⟨p, l, e, R, s, m, args, below, meth, c, A, nL, Q⟩ := X
  obtain ⟨hx, hb, hml, hown, hts, hK, hA, hAB, hSF, hR, hB0, hlk, hmx⟩ := C
  intro H locs ls hP hD hS hl
  exact lv_iinc hx hb hd hl hj hv (hmx ▸ hn) hl' (fun ls hl => (k H locs ls hP hD hS hl))
theorem g_iadd (C : Cx X E cc own rk mx) {x y : Int32} (hd : decode cc pc = .ok (.iadd, 1))  (k : Gx X E kc ks ws (pc + 1) lv (.int (x + y) :: st)) : Gx X E kc ks ws pc lv (.int y :: .int x :: st) := by
  obtain ⟨p, l, e, R, s, m, args, below, meth, c, A, nL, Q⟩ := X
  obtain ⟨hx, hb, hml, hown, hts, hK, hA, hAB, hSF, hR, hB0, hlk, hmx⟩ := C
  intro H locs ls hP hD hS hl
  exact lv_iadd hx hb hd (k H locs ls hP hD hS hl)
theorem g_isub (C : Cx X E cc own rk mx) {x y : Int32} (hd : decode cc pc = .ok (.isub, 1))  (k : Gx X E kc ks ws (pc + 1) lv (.int (x - y) :: st)) : Gx X E kc ks ws pc lv (.int y :: .int x :: st) := by
  obtain ⟨p, l, e, R, s, m, args, below, meth, c, A, nL, Q⟩ := X
  obtain ⟨hx, hb, hml, hown, hts, hK, hA, hAB, hSF, hR, hB0, hlk, hmx⟩ := C
  intro H locs ls hP hD hS hl
  exact lv_isub hx hb hd (k H locs ls hP hD hS hl)
theorem g_imul (C : Cx X E cc own rk mx) {x y : Int32} (hd : decode cc pc = .ok (.imul, 1))  (k : Gx X E kc ks ws (pc + 1) lv (.int (x * y) :: st)) : Gx X E kc ks ws pc lv (.int y :: .int x :: st) := by
  obtain ⟨p, l, e, R, s, m, args, below, meth, c, A, nL, Q⟩ := X
  obtain ⟨hx, hb, hml, hown, hts, hK, hA, hAB, hSF, hR, hB0, hlk, hmx⟩ := C
  intro H locs ls hP hD hS hl
  exact lv_imul hx hb hd (k H locs ls hP hD hS hl)
theorem g_iand (C : Cx X E cc own rk mx) {x y : Int32} (hd : decode cc pc = .ok (.iand, 1))  (k : Gx X E kc ks ws (pc + 1) lv (.int (x &&& y) :: st)) : Gx X E kc ks ws pc lv (.int y :: .int x :: st) := by
  obtain ⟨p, l, e, R, s, m, args, below, meth, c, A, nL, Q⟩ := X
  obtain ⟨hx, hb, hml, hown, hts, hK, hA, hAB, hSF, hR, hB0, hlk, hmx⟩ := C
  intro H locs ls hP hD hS hl
  exact lv_iand hx hb hd (k H locs ls hP hD hS hl)
theorem g_ior (C : Cx X E cc own rk mx) {x y : Int32} (hd : decode cc pc = .ok (.ior, 1))  (k : Gx X E kc ks ws (pc + 1) lv (.int (x ||| y) :: st)) : Gx X E kc ks ws pc lv (.int y :: .int x :: st) := by
  obtain ⟨p, l, e, R, s, m, args, below, meth, c, A, nL, Q⟩ := X
  obtain ⟨hx, hb, hml, hown, hts, hK, hA, hAB, hSF, hR, hB0, hlk, hmx⟩ := C
  intro H locs ls hP hD hS hl
  exact lv_ior hx hb hd (k H locs ls hP hD hS hl)
theorem g_ixor (C : Cx X E cc own rk mx) {x y : Int32} (hd : decode cc pc = .ok (.ixor, 1))  (k : Gx X E kc ks ws (pc + 1) lv (.int (x ^^^ y) :: st)) : Gx X E kc ks ws pc lv (.int y :: .int x :: st) := by
  obtain ⟨p, l, e, R, s, m, args, below, meth, c, A, nL, Q⟩ := X
  obtain ⟨hx, hb, hml, hown, hts, hK, hA, hAB, hSF, hR, hB0, hlk, hmx⟩ := C
  intro H locs ls hP hD hS hl
  exact lv_ixor hx hb hd (k H locs ls hP hD hS hl)
theorem g_ishl (C : Cx X E cc own rk mx) {x y : Int32} (hd : decode cc pc = .ok (.ishl, 1))  (k : Gx X E kc ks ws (pc + 1) lv (.int (x <<< (y &&& 31)) :: st)) : Gx X E kc ks ws pc lv (.int y :: .int x :: st) := by
  obtain ⟨p, l, e, R, s, m, args, below, meth, c, A, nL, Q⟩ := X
  obtain ⟨hx, hb, hml, hown, hts, hK, hA, hAB, hSF, hR, hB0, hlk, hmx⟩ := C
  intro H locs ls hP hD hS hl
  exact lv_ishl hx hb hd (k H locs ls hP hD hS hl)
theorem g_ishr (C : Cx X E cc own rk mx) {x y : Int32} (hd : decode cc pc = .ok (.ishr, 1))  (k : Gx X E kc ks ws (pc + 1) lv (.int (x >>> (y &&& 31)) :: st)) : Gx X E kc ks ws pc lv (.int y :: .int x :: st) := by
  obtain ⟨p, l, e, R, s, m, args, below, meth, c, A, nL, Q⟩ := X
  obtain ⟨hx, hb, hml, hown, hts, hK, hA, hAB, hSF, hR, hB0, hlk, hmx⟩ := C
  intro H locs ls hP hD hS hl
  exact lv_ishr hx hb hd (k H locs ls hP hD hS hl)
theorem g_iushr (C : Cx X E cc own rk mx) {x y : Int32} (hd : decode cc pc = .ok (.iushr, 1))  (k : Gx X E kc ks ws (pc + 1) lv (.int ((x.toUInt32 >>> (y.toUInt32 &&& Int32.toUInt32 31)).toInt32) :: st)) : Gx X E kc ks ws pc lv (.int y :: .int x :: st) := by
  obtain ⟨p, l, e, R, s, m, args, below, meth, c, A, nL, Q⟩ := X
  obtain ⟨hx, hb, hml, hown, hts, hK, hA, hAB, hSF, hR, hB0, hlk, hmx⟩ := C
  intro H locs ls hP hD hS hl
  exact lv_iushr hx hb hd rfl (k H locs ls hP hD hS hl)
theorem g_ineg (C : Cx X E cc own rk mx) {x : Int32} (hd : decode cc pc = .ok (.ineg, 1))  (k : Gx X E kc ks ws (pc + 1) lv (.int (-x) :: st)) : Gx X E kc ks ws pc lv (.int x :: st) := by
  obtain ⟨p, l, e, R, s, m, args, below, meth, c, A, nL, Q⟩ := X
  obtain ⟨hx, hb, hml, hown, hts, hK, hA, hAB, hSF, hR, hB0, hlk, hmx⟩ := C
  intro H locs ls hP hD hS hl
  exact lv_ineg hx hb hd (k H locs ls hP hD hS hl)
theorem g_i2b (C : Cx X E cc own rk mx) {x : Int32} (hd : decode cc pc = .ok (.i2b, 1))  (k : Gx X E kc ks ws (pc + 1) lv (.int (x.toInt8.toInt32) :: st)) : Gx X E kc ks ws pc lv (.int x :: st) := by
  obtain ⟨p, l, e, R, s, m, args, below, meth, c, A, nL, Q⟩ := X
  obtain ⟨hx, hb, hml, hown, hts, hK, hA, hAB, hSF, hR, hB0, hlk, hmx⟩ := C
  intro H locs ls hP hD hS hl
  exact lv_i2b hx hb hd rfl (k H locs ls hP hD hS hl)
theorem g_idiv (C : Cx X E cc own rk mx) {x y : Int32} {F : Int32 → Option α} (hd : decode cc pc = .ok (.idiv, 1)) (h : dv x y F = some r) (k : ∀ v, F v = some r → Gx X E kc ks ws (pc + 1) lv (.int v :: st)) : Gx X E kc ks ws pc lv (.int y :: .int x :: st) := by
  obtain ⟨p, l, e, R, s, m, args, below, meth, c, A, nL, Q⟩ := X
  obtain ⟨hx, hb, hml, hown, hts, hK, hA, hAB, hSF, hR, hB0, hlk, hmx⟩ := C
  intro H locs ls hP hD hS hl
  exact lv_idiv hx hb hd (ite_someN h).1 (k _ (ite_someN h).2 H locs ls hP hD hS hl)
theorem g_irem (C : Cx X E cc own rk mx) {x y : Int32} {F : Int32 → Option α} (hd : decode cc pc = .ok (.irem, 1)) (h : rm x y F = some r) (k : ∀ v, F v = some r → Gx X E kc ks ws (pc + 1) lv (.int v :: st)) : Gx X E kc ks ws pc lv (.int y :: .int x :: st) := by
  obtain ⟨p, l, e, R, s, m, args, below, meth, c, A, nL, Q⟩ := X
  obtain ⟨hx, hb, hml, hown, hts, hK, hA, hAB, hSF, hR, hB0, hlk, hmx⟩ := C
  intro H locs ls hP hD hS hl
  exact lv_irem hx hb hd (ite_someN h).1 (k _ (ite_someN h).2 H locs ls hP hD hS hl)
theorem g_dup (C : Cx X E cc own rk mx) {v : Value} (hd : decode cc pc = .ok (.dup, 1)) (hv : v.category = 1) (k : Gx X E kc ks ws (pc + 1) lv (v :: v :: st)) : Gx X E kc ks ws pc lv (v :: st) := by
  obtain ⟨p, l, e, R, s, m, args, below, meth, c, A, nL, Q⟩ := X
  obtain ⟨hx, hb, hml, hown, hts, hK, hA, hAB, hSF, hR, hB0, hlk, hmx⟩ := C
  intro H locs ls hP hD hS hl
  exact lv_dup hx hb hd hv (k H locs ls hP hD hS hl)
theorem g_pop (C : Cx X E cc own rk mx) {v : Value} (hd : decode cc pc = .ok (.pop, 1)) (hv : v.category = 1) (k : Gx X E kc ks ws (pc + 1) lv (st)) : Gx X E kc ks ws pc lv (v :: st) := by
  obtain ⟨p, l, e, R, s, m, args, below, meth, c, A, nL, Q⟩ := X
  obtain ⟨hx, hb, hml, hown, hts, hK, hA, hAB, hSF, hR, hB0, hlk, hmx⟩ := C
  intro H locs ls hP hD hS hl
  exact lv_pop hx hb hd hv (k H locs ls hP hD hS hl)
theorem g_dup2 (C : Cx X E cc own rk mx) {va vb : Value} (hd : decode cc pc = .ok (.dup2, 1)) (hv : va.category = 1) (hv2 : vb.category = 1) (k : Gx X E kc ks ws (pc + 1) lv (va :: vb :: va :: vb :: st)) : Gx X E kc ks ws pc lv (va :: vb :: st) := by
  obtain ⟨p, l, e, R, s, m, args, below, meth, c, A, nL, Q⟩ := X
  obtain ⟨hx, hb, hml, hown, hts, hK, hA, hAB, hSF, hR, hB0, hlk, hmx⟩ := C
  intro H locs ls hP hD hS hl
  exact lv_dup2_11 hx hb hd hv hv2 (k H locs ls hP hD hS hl)
theorem g_goto (C : Cx X E cc own rk mx) {off : Int} {tgt : Nat} (hd : decode cc pc = .ok (.goto off, 3)) (ht : (pc : Int) + off = (tgt : Int)) (k : Gx X E kc ks ws tgt lv st) : Gx X E kc ks ws pc lv st := by
  obtain ⟨p, l, e, R, s, m, args, below, meth, c, A, nL, Q⟩ := X
  obtain ⟨hx, hb, hml, hown, hts, hK, hA, hAB, hSF, hR, hB0, hlk, hmx⟩ := C
  intro H locs ls hP hD hS hl
  exact lv_goto hx hb hd ht (k H locs ls hP hD hS hl)
theorem g_icmp_eq (C : Cx X E cc own rk mx) {x y : Int32} {off : Int} {tgt : Nat} {P Q : Option α} (hd : decode cc pc = .ok (.if_icmp .eq off, 3)) (ht : (pc : Int) + off = (tgt : Int)) (h : (if x = y then P else Q) = some r) (kt : P = some r → Gx X E kc ks ws tgt lv st) (kf : Q = some r → Gx X E kc ks ws (pc + 3) lv st) : Gx X E kc ks ws pc lv (.int y :: .int x :: st) := by
  obtain ⟨p, l, e, R, s, m, args, below, meth, c, A, nL, Q⟩ := X
  obtain ⟨hx, hb, hml, hown, hts, hK, hA, hAB, hSF, hR, hB0, hlk, hmx⟩ := C
  intro H locs ls hP hD hS hl
  exact lv_icmp_eq hx hb hd ht (fun c => kt ((if_pos c).symm.trans h) H locs ls hP hD hS hl) (fun c => kf ((if_neg c).symm.trans h) H locs ls hP hD hS hl)
theorem g_icmp_ne (C : Cx X E cc own rk mx) {x y : Int32} {off : Int} {tgt : Nat} {P Q : Option α} (hd : decode cc pc = .ok (.if_icmp .ne off, 3)) (ht : (pc : Int) + off = (tgt : Int)) (h : (if x = y then P else Q) = some r) (kt : Q = some r → Gx X E kc ks ws tgt lv st) (kf : P = some r → Gx X E kc ks ws (pc + 3) lv st) : Gx X E kc ks ws pc lv (.int y :: .int x :: st) := by
  obtain ⟨p, l, e, R, s, m, args, below, meth, c, A, nL, Q⟩ := X
  obtain ⟨hx, hb, hml, hown, hts, hK, hA, hAB, hSF, hR, hB0, hlk, hmx⟩ := C
  intro H locs ls hP hD hS hl
  exact lv_icmp_ne hx hb hd ht (fun c => kt ((if_neg c).symm.trans h) H locs ls hP hD hS hl) (fun c => kf ((if_pos c).symm.trans h) H locs ls hP hD hS hl)
theorem g_icmp_lt (C : Cx X E cc own rk mx) {x y : Int32} {off : Int} {tgt : Nat} {P Q : Option α} (hd : decode cc pc = .ok (.if_icmp .lt off, 3)) (ht : (pc : Int) + off = (tgt : Int)) (h : (if x < y then P else Q) = some r) (kt : P = some r → Gx X E kc ks ws tgt lv st) (kf : Q = some r → Gx X E kc ks ws (pc + 3) lv st) : Gx X E kc ks ws pc lv (.int y :: .int x :: st) := by
  obtain ⟨p, l, e, R, s, m, args, below, meth, c, A, nL, Q⟩ := X
  obtain ⟨hx, hb, hml, hown, hts, hK, hA, hAB, hSF, hR, hB0, hlk, hmx⟩ := C
  intro H locs ls hP hD hS hl
  exact lv_icmp_lt hx hb hd ht (fun c => kt ((if_pos c).symm.trans h) H locs ls hP hD hS hl) (fun c => kf ((if_neg c).symm.trans h) H locs ls hP hD hS hl)
theorem g_icmp_ge (C : Cx X E cc own rk mx) {x y : Int32} {off : Int} {tgt : Nat} {P Q : Option α} (hd : decode cc pc = .ok (.if_icmp .ge off, 3)) (ht : (pc : Int) + off = (tgt : Int)) (h : (if y ≤ x then P else Q) = some r) (kt : P = some r → Gx X E kc ks ws tgt lv st) (kf : Q = some r → Gx X E kc ks ws (pc + 3) lv st) : Gx X E kc ks ws pc lv (.int y :: .int x :: st) := by
  obtain ⟨p, l, e, R, s, m, args, below, meth, c, A, nL, Q⟩ := X
  obtain ⟨hx, hb, hml, hown, hts, hK, hA, hAB, hSF, hR, hB0, hlk, hmx⟩ := C
  intro H locs ls hP hD hS hl
  exact lv_icmp_ge hx hb hd ht (fun c => kt ((if_pos c).symm.trans h) H locs ls hP hD hS hl) (fun c => kf ((if_neg c).symm.trans h) H locs ls hP hD hS hl)
theorem g_icmp_gt (C : Cx X E cc own rk mx) {x y : Int32} {off : Int} {tgt : Nat} {P Q : Option α} (hd : decode cc pc = .ok (.if_icmp .gt off, 3)) (ht : (pc : Int) + off = (tgt : Int)) (h : (if y < x then P else Q) = some r) (kt : P = some r → Gx X E kc ks ws tgt lv st) (kf : Q = some r → Gx X E kc ks ws (pc + 3) lv st) : Gx X E kc ks ws pc lv (.int y :: .int x :: st) := by
  obtain ⟨p, l, e, R, s, m, args, below, meth, c, A, nL, Q⟩ := X
  obtain ⟨hx, hb, hml, hown, hts, hK, hA, hAB, hSF, hR, hB0, hlk, hmx⟩ := C
  intro H locs ls hP hD hS hl
  exact lv_icmp_gt hx hb hd ht (fun c => kt ((if_pos c).symm.trans h) H locs ls hP hD hS hl) (fun c => kf ((if_neg c).symm.trans h) H locs ls hP hD hS hl)
theorem g_icmp_le (C : Cx X E cc own rk mx) {x y : Int32} {off : Int} {tgt : Nat} {P Q : Option α} (hd : decode cc pc = .ok (.if_icmp .le off, 3)) (ht : (pc : Int) + off = (tgt : Int)) (h : (if x ≤ y then P else Q) = some r) (kt : P = some r → Gx X E kc ks ws tgt lv st) (kf : Q = some r → Gx X E kc ks ws (pc + 3) lv st) : Gx X E kc ks ws pc lv (.int y :: .int x :: st) := by
  obtain ⟨p, l, e, R, s, m, args, below, meth, c, A, nL, Q⟩ := X
  obtain ⟨hx, hb, hml, hown, hts, hK, hA, hAB, hSF, hR, hB0, hlk, hmx⟩ := C
  intro H locs ls hP hD hS hl
  exact lv_icmp_le hx hb hd ht (fun c => kt ((if_pos c).symm.trans h) H locs ls hP hD hS hl) (fun c => kf ((if_neg c).symm.trans h) H locs ls hP hD hS hl)
theorem g_if_eq (C : Cx X E cc own rk mx) {x : Int32} {off : Int} {tgt : Nat} {P Q : Option α} (hd : decode cc pc = .ok (.ifCond .eq off, 3)) (ht : (pc : Int) + off = (tgt : Int)) (h : (if x = 0 then P else Q) = some r) (kt : P = some r → Gx X E kc ks ws tgt lv st) (kf : Q = some r → Gx X E kc ks ws (pc + 3) lv st) : Gx X E kc ks ws pc lv (.int x :: st) := by
  obtain ⟨p, l, e, R, s, m, args, below, meth, c, A, nL, Q⟩ := X
  obtain ⟨hx, hb, hml, hown, hts, hK, hA, hAB, hSF, hR, hB0, hlk, hmx⟩ := C
  intro H locs ls hP hD hS hl
  exact lv_if_eq hx hb hd ht (fun c => kt ((if_pos c).symm.trans h) H locs ls hP hD hS hl) (fun c => kf ((if_neg c).symm.trans h) H locs ls hP hD hS hl)
theorem g_if_ne (C : Cx X E cc own rk mx) {x : Int32} {off : Int} {tgt : Nat} {P Q : Option α} (hd : decode cc pc = .ok (.ifCond .ne off, 3)) (ht : (pc : Int) + off = (tgt : Int)) (h : (if x = 0 then P else Q) = some r) (kt : Q = some r → Gx X E kc ks ws tgt lv st) (kf : P = some r → Gx X E kc ks ws (pc + 3) lv st) : Gx X E kc ks ws pc lv (.int x :: st) := by
  obtain ⟨p, l, e, R, s, m, args, below, meth, c, A, nL, Q⟩ := X
  obtain ⟨hx, hb, hml, hown, hts, hK, hA, hAB, hSF, hR, hB0, hlk, hmx⟩ := C
  intro H locs ls hP hD hS hl
  exact lv_if_ne hx hb hd ht (fun c => kt ((if_neg c).symm.trans h) H locs ls hP hD hS hl) (fun c => kf ((if_pos c).symm.trans h) H locs ls hP hD hS hl)
theorem g_if_lt (C : Cx X E cc own rk mx) {x : Int32} {off : Int} {tgt : Nat} {P Q : Option α} (hd : decode cc pc = .ok (.ifCond .lt off, 3)) (ht : (pc : Int) + off = (tgt : Int)) (h : (if x < 0 then P else Q) = some r) (kt : P = some r → Gx X E kc ks ws tgt lv st) (kf : Q = some r → Gx X E kc ks ws (pc + 3) lv st) : Gx X E kc ks ws pc lv (.int x :: st) := by
  obtain ⟨p, l, e, R, s, m, args, below, meth, c, A, nL, Q⟩ := X
  obtain ⟨hx, hb, hml, hown, hts, hK, hA, hAB, hSF, hR, hB0, hlk, hmx⟩ := C
  intro H locs ls hP hD hS hl
  exact lv_if_lt hx hb hd ht (fun c => kt ((if_pos c).symm.trans h) H locs ls hP hD hS hl) (fun c => kf ((if_neg c).symm.trans h) H locs ls hP hD hS hl)
theorem g_if_ge (C : Cx X E cc own rk mx) {x : Int32} {off : Int} {tgt : Nat} {P Q : Option α} (hd : decode cc pc = .ok (.ifCond .ge off, 3)) (ht : (pc : Int) + off = (tgt : Int)) (h : (if 0 ≤ x then P else Q) = some r) (kt : P = some r → Gx X E kc ks ws tgt lv st) (kf : Q = some r → Gx X E kc ks ws (pc + 3) lv st) : Gx X E kc ks ws pc lv (.int x :: st) := by
  obtain ⟨p, l, e, R, s, m, args, below, meth, c, A, nL, Q⟩ := X
  obtain ⟨hx, hb, hml, hown, hts, hK, hA, hAB, hSF, hR, hB0, hlk, hmx⟩ := C
  intro H locs ls hP hD hS hl
  exact lv_if_ge hx hb hd ht (fun c => kt ((if_pos c).symm.trans h) H locs ls hP hD hS hl) (fun c => kf ((if_neg c).symm.trans h) H locs ls hP hD hS hl)
theorem g_if_gt (C : Cx X E cc own rk mx) {x : Int32} {off : Int} {tgt : Nat} {P Q : Option α} (hd : decode cc pc = .ok (.ifCond .gt off, 3)) (ht : (pc : Int) + off = (tgt : Int)) (h : (if 0 < x then P else Q) = some r) (kt : P = some r → Gx X E kc ks ws tgt lv st) (kf : Q = some r → Gx X E kc ks ws (pc + 3) lv st) : Gx X E kc ks ws pc lv (.int x :: st) := by
  obtain ⟨p, l, e, R, s, m, args, below, meth, c, A, nL, Q⟩ := X
  obtain ⟨hx, hb, hml, hown, hts, hK, hA, hAB, hSF, hR, hB0, hlk, hmx⟩ := C
  intro H locs ls hP hD hS hl
  exact lv_if_gt hx hb hd ht (fun c => kt ((if_pos c).symm.trans h) H locs ls hP hD hS hl) (fun c => kf ((if_neg c).symm.trans h) H locs ls hP hD hS hl)
theorem g_if_le (C : Cx X E cc own rk mx) {x : Int32} {off : Int} {tgt : Nat} {P Q : Option α} (hd : decode cc pc = .ok (.ifCond .le off, 3)) (ht : (pc : Int) + off = (tgt : Int)) (h : (if x ≤ 0 then P else Q) = some r) (kt : P = some r → Gx X E kc ks ws tgt lv st) (kf : Q = some r → Gx X E kc ks ws (pc + 3) lv st) : Gx X E kc ks ws pc lv (.int x :: st) := by
  obtain ⟨p, l, e, R, s, m, args, below, meth, c, A, nL, Q⟩ := X
  obtain ⟨hx, hb, hml, hown, hts, hK, hA, hAB, hSF, hR, hB0, hlk, hmx⟩ := C
  intro H locs ls hP hD hS hl
  exact lv_if_le hx hb hd ht (fun c => kt ((if_pos c).symm.trans h) H locs ls hP hD hS hl) (fun c => kf ((if_neg c).symm.trans h) H locs ls hP hD hS hl)
/-- a field link: constant idx of class own names field k of class number ci -/
def FL (own : String) (idx ci k : Nat) : Prop := ∃ (q : vw_C) (ty : Nat → FieldType), cls[ci]? = some q ∧ (∀ w ∈ u_ws q.1 q.2.1 q.2.2, w ∈ lw_g) ∧ k < q.2.2 ∧ Cond.fieldLink own idx (q.2.1 k).1 (q.2.1 k).2.1 (q.2.1 k).2.2.1 ∈ lw_g ∧ (∀ k, k < q.2.2 → parseFieldDescriptor (q.2.1 k).2.2.1 = some (ty k)) ∧ (∀ a, a < q.2.2 → ∀ b, b < q.2.2 → a ≠ b → (q.2.1 a).2.1 ≠ (q.2.1 b).2.1)
theorem g_get (C : Cx X E cc own rk mx) {idx ci k a : Nat} {fs : List Value} {v : Value} (hF : FL own idx ci k) (hd : decode cc pc = .ok (.getfield idx, 3)) (q0 : Nat) (he : ws[q0]? = some (a, .inr (ci, fs))) (hv : fs[k]? = some v) (kk : Gx X E kc ks ws (pc + 3) lv (v :: st)) : Gx X E kc ks ws pc lv (.ref a :: st) := by
  obtain ⟨p, l, e, R, s, m, args, below, meth, c, A, nL, Q⟩ := X
  obtain ⟨hx, hb, hml, hown, hts, hK, hA, hAB, hSF, hR, hB0, hlk, hmx⟩ := C
  intro H locs ls hP hD hS hl
  obtain ⟨⟨Cl, T, N⟩, ty, hc, hin, hk, hlk2, hty, hnm⟩ := hF
  exact va_get hx hb hts hin hown hK hP q0 he hc k hk (hts _ hlk2) (fun _ h => h) hv hd (kk H locs ls hP hD hS hl)
theorem g_put (C : Cx X E cc own rk mx) {idx ci k a : Nat} {fs : List Value} {v : Value} {ws' : va_W} (ty : FieldType) (hF : FL own idx ci k) (hd : decode cc pc = .ok (.putfield idx, 3)) (q0 : Nat) (he : ws[q0]? = some (a, .inr (ci, fs))) (hfin : (cls[ci]?).map (fun q => ((q.2.1 k).2.2.2, parseFieldDescriptor (q.2.1 k).2.2.1)) = some (false, some ty)) (hn : narrow ty v = v) (hfit : fits ty v = true) (hlen : k < fs.length) (hw : ws.set q0 (a, .inr (ci, fs.set k v)) = ws') (kk : Gx X E kc ks ws' (pc + 3) lv st) : Gx X E kc ks ws pc lv (v :: .ref a :: st) := by
  obtain ⟨p, l, e, R, s, m, args, below, meth, c, A, nL, Q⟩ := X
  obtain ⟨hx, hb, hml, hown, hts, hK, hA, hAB, hSF, hR, hB0, hlk, hmx⟩ := C
  intro H locs ls hP hD hS hl
  obtain ⟨⟨Cl, T, N⟩, ty0, hc, hin, hk, hlk2, hty, hnm⟩ := hF
  rw [hc] at hfin
  injection hfin with hfin
  injection hfin with hf1 hf2
  subst hw
  exact va_put hx hb hts hin ty0 hty hnm hown hK hP hD hS q0 he hc k hk (hts _ hlk2) (fun _ h => h) hf1 hf2 hn hfit hlen hd (fun H1 locs1 hP hD hS => kk H1 locs1 ls hP hD hS hl)
theorem g_iald (C : Cx X E cc own rk mx) {a n : Nat} {f : Nat → Int32} {i : Int32} {F : Int32 → Option α} (hd : decode cc pc = .ok (.iaload, 1)) (q0 : Nat) (ha : ws[q0]? = some (a, .inl (E.2.1, n, .inl f))) (h : rd f n i F = some r) (k : ∀ v, F v = some r → Gx X E kc ks ws (pc + 1) lv (.int v :: st)) : Gx X E kc ks ws pc lv (.int i :: .ref a :: st) := by
  obtain ⟨p, l, e, R, s, m, args, below, meth, c, A, nL, Q⟩ := X
  obtain ⟨hx, hb, hml, hown, hts, hK, hA, hAB, hSF, hR, hB0, hlk, hmx⟩ := C
  intro H locs ls hP hD hS hl
  exact va_iald hx hb hK hP q0 0 ha rfl (rd_is h).1 hd (k _ (rd_is h).2 H locs ls hP hD hS hl)
theorem g_bald (C : Cx X E cc own rk mx) {a n : Nat} {f : Nat → Int32} {i : Int32} {F : Int32 → Option α} (hd : decode cc pc = .ok (.baload, 1)) (q0 : Nat) (ha : ws[q0]? = some (a, .inl (E.2.2.1, n, .inl f))) (h : rd f n i F = some r) (k : ∀ v, F v = some r → Gx X E kc ks ws (pc + 1) lv (.int v :: st)) : Gx X E kc ks ws pc lv (.int i :: .ref a :: st) := by
  obtain ⟨p, l, e, R, s, m, args, below, meth, c, A, nL, Q⟩ := X
  obtain ⟨hx, hb, hml, hown, hts, hK, hA, hAB, hSF, hR, hB0, hlk, hmx⟩ := C
  intro H locs ls hP hD hS hl
  exact va_bald hx hb hK hP q0 1 ha rfl (rd_is h).1 hd (k _ (rd_is h).2 H locs ls hP hD hS hl)
theorem g_iast (C : Cx X E cc own rk mx) {a n : Nat} {f : Nat → Int32} {i x : Int32} {F : (Nat → Int32) → Option α} (hd : decode cc pc = .ok (.iastore, 1)) (q0 : Nat) (ha : ws[q0]? = some (a, .inl (E.2.1, n, .inl f))) (h : wr f n i x F = some r) (k : ∀ g, F g = some r → Gx X E kc ks (ws.set q0 (a, .inl (E.2.1, n, .inl g))) (pc + 1) lv st) : Gx X E kc ks ws pc lv (.int x :: .int i :: .ref a :: st) := by
  obtain ⟨p, l, e, R, s, m, args, below, meth, c, A, nL, Q⟩ := X
  obtain ⟨hx, hb, hml, hown, hts, hK, hA, hAB, hSF, hR, hB0, hlk, hmx⟩ := C
  intro H locs ls hP hD hS hl
  exact va_iast hx hb hK hP hD hS q0 0 ha rfl (wr_is h).1 hd (fun H1 locs1 hP hD hS => k _ (wr_is h).2 H1 locs1 ls hP hD hS hl)
theorem g_bast (C : Cx X E cc own rk mx) {a n : Nat} {f : Nat → Int32} {i x : Int32} {F : (Nat → Int32) → Option α} (hd : decode cc pc = .ok (.bastore, 1)) (q0 : Nat) (ha : ws[q0]? = some (a, .inl (E.2.2.1, n, .inl f))) (h : wr f n i (vp_nar .byte x) F = some r) (k : ∀ g, F g = some r → Gx X E kc ks (ws.set q0 (a, .inl (E.2.2.1, n, .inl g))) (pc + 1) lv st) : Gx X E kc ks ws pc lv (.int x :: .int i :: .ref a :: st) := by
  obtain ⟨p, l, e, R, s, m, args, below, meth, c, A, nL, Q⟩ := X
  obtain ⟨hx, hb, hml, hown, hts, hK, hA, hAB, hSF, hR, hB0, hlk, hmx⟩ := C
  intro H locs ls hP hD hS hl
  exact va_bast hx hb hK hP hD hS q0 1 ha rfl (wr_is h).1 hd (fun H1 locs1 hP hD hS => k _ (wr_is h).2 H1 locs1 ls hP hD hS hl)
theorem g_alen (C : Cx X E cc own rk mx) {a n : Nat} {f : Nat → Int32} {v : Int32} (hd : decode cc pc = .ok (.arraylength, 1)) (q0 : Nat) (ha : ws[q0]? = some (a, .inl (E.2.1, n, .inl f))) (hv : Int32.ofNat n = v) (k : Gx X E kc ks ws (pc + 1) lv (.int v :: st)) : Gx X E kc ks ws pc lv (.ref a :: st) := by
  obtain ⟨p, l, e, R, s, m, args, below, meth, c, A, nL, Q⟩ := X
  obtain ⟨hx, hb, hml, hown, hts, hK, hA, hAB, hSF, hR, hB0, hlk, hmx⟩ := C
  intro H locs ls hP hD hS hl
  exact va_alen hx hb hK hP q0 0 ha rfl hv hd (k H locs ls hP hD hS hl)
theorem g_iincn (C : Cx X E cc own rk mx) {i j : Nat} {n : Int} {x d : Int32} {F : Int32 → Option α} {lv' : Int32 → List (Nat × Value)} (hd : decode cc pc = .ok (.iinc i n, 3)) (hj : lv[j]? = some (i, .int x)) (hv : Int32.ofInt n = d) (hn : i < mx) (hl' : ∀ v, (i, Value.int v) :: lv.filter (fun q => !(q.1 == i) && !(q.1 + 1 == i && q.2.category == 2)) = lv' v) (h : nm (x + d) F = some r) (k : ∀ v, F v = some r → Gx X E kc ks ws (pc + 3) (lv' v) st) : Gx X E kc ks ws pc lv st := by
  obtain ⟨p, l, e, R, s, m, args, below, meth, c, A, nL, Q⟩ := X
  obtain ⟨hx, hb, hml, hown, hts, hK, hA, hAB, hSF, hR, hB0, hlk, hmx⟩ := C
  intro H locs ls hP hD hS hl
  exact lv_iinc hx hb hd hl hj (by rw [hv]) (hmx ▸ hn) (hl' _) (fun ls hl => k _ h H locs ls hP hD hS hl)
theorem g_ws {ws' : va_W} (hw : ws = ws') (k : Gx X E kc ks ws' pc lv st) : Gx X E kc ks ws pc lv st := by rw [hw]; exact k
end GR
end
section
/-- the callee's cells put in their places -/
def spl : List Nat → va_W → va_W → va_W
  | i :: is, c :: cs, ws => spl is cs (ws.set i c)
  | _, _, ws => ws
theorem spl_get : ∀ (is : List Nat) (w' ws : va_W) (k : Nat) (q : Nat × va_E), is.length = w'.length → (spl is w' ws)[k]? = some q → (∃ j : Nat, w'[j]? = some q) ∨ (k ∉ is ∧ ws[k]? = some q) := by
  intro is
  induction is with
  | nil => intro w' ws k q hl h; exact Or.inr ⟨by simp, by simpa [spl] using h⟩
  | cons i is ih =>
    intro w' ws k q hl h
    cases w' with
    | nil => simp at hl
    | cons c cs =>
      rcases ih cs (ws.set i c) k q (by simpa using hl) h with ⟨j, hj⟩ | ⟨hk, hq⟩
      · exact Or.inl ⟨j + 1, by simpa using hj⟩
      · by_cases hki : k = i
        · subst hki
          rw [List.getElem?_set] at hq
          simp only [if_true] at hq
          split at hq
          · exact Or.inl ⟨0, by simpa using hq⟩
          · cases hq
        · rw [List.getElem?_set_ne (fun e => hki e.symm)] at hq
          exact Or.inr ⟨by simp [hki, hk], hq⟩
theorem spl_fst : ∀ (is : List Nat) (w' ws : va_W), (∀ (j i : Nat) (c : Nat × va_E), is[j]? = some i → w'[j]? = some c → (ws.map Prod.fst)[i]? = some c.1) → (spl is w' ws).map Prod.fst = ws.map Prod.fst := by
  intro is
  induction is with
  | nil => intro w' ws _; rfl
  | cons i is ih =>
    intro w' ws h
    cases w' with
    | nil => rfl
    | cons c cs =>
      have h0 := h 0 i c rfl rfl
      have e : (ws.set i c).map Prod.fst = ws.map Prod.fst := by
        rw [List.map_set]
        apply List.ext_getElem?
        intro k
        rw [List.getElem?_set]
        split
        · rename_i hk
          subst hk
          split
          · exact h0.symm
          · rename_i hn
            simp at hn
            simp [hn]
        · rfl
      show (spl is cs (ws.set i c)).map Prod.fst = _
      rw [ih cs (ws.set i c) (fun j i' c' h1 h2 => by rw [e]; exact h (j + 1) i' c' (by simpa using h1) (by simpa using h2)), e]
theorem vaD_fst {A : Nat → Prop} {ws ws' : va_W} (e : ws'.map Prod.fst = ws.map Prod.fst) (h : va_D A ws) : va_D A ws' := by
  have g : ∀ (k : Nat) (q : Nat × va_E), ws'[k]? = some q → ∃ p : Nat × va_E, ws[k]? = some p ∧ p.1 = q.1 := by
    intro k q hq
    have h1 : (ws'.map Prod.fst)[k]? = some q.1 := by rw [List.getElem?_map, hq]; rfl
    rw [e, List.getElem?_map] at h1
    cases hw : ws[k]? with
    | none => rw [hw] at h1; cases h1
    | some p => rw [hw] at h1; exact ⟨p, rfl, Option.some.inj h1⟩
  refine ⟨fun i j p q hp hq hpq => ?_, fun k q hq => ?_⟩
  · obtain ⟨p0, h1, h2⟩ := g i p hp
    obtain ⟨q0, h3, h4⟩ := g j q hq
    exact h.1 i j p0 q0 h1 h3 (by rw [h2, h4]; exact hpq)
  · obtain ⟨p0, h1, h2⟩ := g k q hq
    rw [← h2]
    exact h.2 k p0 h1
section CA
variable {p : Program} {l : Launch} {e : Env} {R : Room} {s : State} {m : MethodId} {args : Array Value} {below : List Frame} {meth : Method} {c : Code} {H : Heap} {locs : List Loc} {kc ks mc ms : Nat} {Q : State → Prop} {A : Nat → Prop} {E : GE} {B : va_W → Prop} {ws wc : va_W} {rv : Option Value} {pc : Nat} {ls : Array Slot} {st st0 : List Value} {a : Array Value}
theorem after_call (hr : va_Run p l e R s m args below meth c H locs kc ks mc ms (F0 m pc ls st0) st (Qw E B wc H.size rv a) (va_A wc H.size)) (hS : va_S A s.heap H locs) (hF : ∀ q, va_A wc H.size q → A q)
    (kk : ∀ (w' : va_W) (H1 : Heap) (locs1 : List Loc), B w' → va_P E.1 cls w' H1 → va_D (va_A wc H.size) w' → H.size ≤ H1.size → (∀ q : Nat, q < H.size → ¬ va_A wc H.size q → H1[q]? = H[q]?) → va_S A s.heap H1 locs1 → W p l e R s m args below meth c H1 locs1 (kc + mc) (ks + ms) Q (F0 m (pc + 3) ls (rv.toList ++ st))) : W p l e R s m args below meth c H locs kc ks Q (F0 m pc ls st0) := by
  intro T hT X
  obtain ⟨v, st₀, t, T', L, h0, X', hL, e1, e2, ⟨⟨w', hv, hp, hb, hd⟩, hz, hk⟩, stp⟩ := hr T hT X
  cases hv
  rw [h0] at hz hk
  obtain ⟨t2, a1, b1⟩ := kk w' T'.heap (locs ++ L) hp (by rw [e1]; exact hb) hd (by rw [e1]; exact hz) (fun q h1 h2 => by rw [e1]; exact hk q h1 h2)
    ⟨Nat.le_trans hS.1 (by rw [e1]; exact hz), fun q h1 h2 => by rw [e1, hk q (Nat.lt_of_lt_of_le h1 hS.1) (fun z => h2 (hF q z))]; exact hS.2.1 q h1 h2, fun q hq => by
      rcases List.mem_append.mp hq with h | h
      · exact hS.2.2 q h
      · exact hF _ (hL q h)⟩ T' rfl X'
  exact ⟨t2, stp t2 a1, b1⟩
/-- behind a call that makes nothing: the world, the callee's cells changed in place -/
theorem spl_world {wc' : va_W} {H1 : Heap} (is : List Nat) (hP : va_P E.1 cls ws H) (hD : va_D A ws) (hC : is.map (fun i => ws[i]?) = wc.map some) (hf : wc'.map Prod.fst = wc.map Prod.fst) (hk : ∀ q : Nat, q < H.size → ¬ va_A wc H.size q → H1[q]? = H[q]?) (hP1 : va_P E.1 cls wc' H1) : va_P E.1 cls (spl is wc' ws) H1 ∧ va_D A (spl is wc' ws) := by
  have hlen : is.length = wc'.length := by
    have h1 := congrArg List.length hC
    have h2 := congrArg List.length hf
    simp at h1 h2
    omega
  have at' : ∀ (k : Nat) (q : Nat × va_E), wc[k]? = some q → ∃ i, is[k]? = some i ∧ ws[i]? = some q := by
    intro k q hq
    have h1 : (is.map (fun i => ws[i]?))[k]? = some (some q) := by rw [hC, List.getElem?_map, hq]; rfl
    rw [List.getElem?_map] at h1
    cases hi : is[k]? with
    | none => rw [hi] at h1; cases h1
    | some i => rw [hi] at h1; exact ⟨i, rfl, Option.some.inj h1⟩
  refine ⟨fun k q hq => ?_, vaD_fst (spl_fst is wc' ws ?_) hD⟩
  · rcases spl_get is wc' ws k q hlen hq with ⟨j, hj⟩ | ⟨hk1, hq1⟩
    · exact hP1 j q hj
    · have hl := (hP k q hq1).lt
      refine (hP k q hq1).kept (hk q.1 hl (fun h => ?_))
      rcases h with ⟨k2, e2, h⟩ | h
      · obtain ⟨i, h3, h4⟩ := at' k2 (q.1, e2) h
        have hij := hD.1 k i q (q.1, e2) hq1 h4 rfl
        subst hij
        exact hk1 (List.mem_of_getElem? h3)
      · omega
  · intro j i c' h1 h2
    have h3 : (wc'.map Prod.fst)[j]? = some c'.1 := by rw [List.getElem?_map, h2]; rfl
    rw [hf, List.getElem?_map] at h3
    cases hw : wc[j]? with
    | none => rw [hw] at h3; cases h3
    | some q =>
      rw [hw] at h3
      obtain ⟨i', h4, h5⟩ := at' j q hw
      rw [h1] at h4
      cases h4
      rw [List.getElem?_map, h5]
      exact h3
theorem pw_of {U : State} {sz : Nat} (is : List Nat) (hU : U.heap = H) (hW : s.WarmedH U.vm) (hP : va_P E.1 cls ws H) (hD : va_D A ws) (hS : va_S A s.heap H locs) (hC : is.map (fun i => ws[i]?) = wc.map some) (hnd : va_nd is = true) (hK : va_K E.1 cls (gty E) s) (hAB : ∀ q, A q → E.2.2.2 ≤ q) (hSF : SF E.2.2.2 s s.heap) (hB0 : E.2.2.2 ≤ s.heap.size) (hsz : sz = H.size) : Pw E wc sz U := by
  subst hsz
  refine ⟨by rw [hU], ?_, va_K.moved hW.alike hK, (hD.sub is hnd hC).weaken (fun k q _ h => hAB _ h), Nat.le_trans hB0 hS.1, ?_⟩
  · rw [hU]
    intro k q hq
    have h1 : (is.map (fun i => ws[i]?))[k]? = some (some q) := by rw [hC, List.getElem?_map, hq]; rfl
    rw [List.getElem?_map] at h1
    cases hi : is[k]? with
    | none => rw [hi] at h1; cases h1
    | some i => rw [hi] at h1; exact hP i q (Option.some.inj h1)
  · rw [hU]
    exact (hSF.kept hAB hS).moved hW
end CA
/-- what is said once of a method: its words -/
def MV (y : MethodName) (bytes : ByteArray) (maxL : Nat) (ret : Option FieldType) (n : Nat) : Prop := Cond.code y bytes maxL ret ∈ lw_g ∧ Cond.initialized y.cls ∈ lw_g ∧ (y.cls ≠ "java/lang/invoke/MethodHandle" ∧ y.cls ≠ "java/lang/invoke/VarHandle" ∧ (parseMethodDescriptor y.desc).map (fun d => d.parameters.length) = some n)
def MI (y : MethodName) : Prop := Cond.instanceMethod y ∈ lw_g ∧ Cond.selects y.cls y y ∈ lw_g
section CB
variable {X : GC} {E : GE} {cc : ByteArray} {own : String} {rk mx kc ks : Nat} {ws : va_W} {pc : Nat} {lv : List (Nat × Value)} {st : List Value}
variable {y : MethodName} {bytes : ByteArray} {maxL n idx rk' b : Nat} {ret : Option FieldType} {As : List Value} {wc wc' : va_W} {rv : Option Value}
/-- a call of a method of an object, nothing made -/
theorem g_callV (C : Cx X E cc own rk mx) (hV : MV y bytes maxL ret n) (hI : MI y) (hl : Cond.methodLink own idx y ∈ lw_g) (hM : Cn X.2.1 E y bytes maxL ret rk' 0 0 (.ref b :: As) wc (fun w => w = wc') rv) (hd : decode cc pc = .ok (.invokevirtual idx, 3)) (hrk : rk' < rk ∧ maxL ≤ 44) (hn : As.length = n) (hst : (st.map fun v => v.category).sum ≤ 8)
    (q0 ci : Nat) {fs : List Value} (he : ws[q0]? = some (b, .inr (ci, fs))) (hc : (cls[ci]?).map (fun q => q.1) = some y.cls) (is : List Nat) (hC : is.map (fun i => ws[i]?) = wc.map some) (hnd : va_nd is = true) (hf : wc'.map Prod.fst = wc.map Prod.fst)
    {ws' : va_W} {st0 st1 : List Value} (hs0 : st0 = As.reverse ++ .ref b :: st) (hs1 : rv.toList ++ st = st1) (hw : spl is wc' ws = ws') (k : Gx X E 0 0 ws' (pc + 3) lv st1) : Gx X E 0 0 ws pc lv st0 := by
  obtain ⟨p, l, e, R, s, m, args, below, meth, c, A, nL, Q⟩ := X
  obtain ⟨hx, hb, hml, hown, hts, hK, hA, hAB, hSF, hR, hB0, hlk, hmx⟩ := C
  intro H locs ls hP hD hS hlv
  have hF := va_free (wc := wc) hD hS hA is hC
  have cw : CallW R s args own y.cls idx y bytes maxL ret (.code y bytes maxL ret :: lw_g) (rmk rk' 0 0) 0 0 n := ⟨callB_of n hts (lg_goodC hV.1) rfl rfl rfl (hts _ hV.2.1) (hts _ hl) hV.2.2 ⟨by show rk' + 1 + 1 ≤ _; omega, by show 8 + (maxL + 11) + 64 * (rk' + 1) ≤ _; omega⟩, hts _ hI.1, hts _ hI.2⟩
  have hrecv : ∃ cell : Cell, H[b]? = some cell ∧ cell.vm.isStatics = false ∧ s.vm.findClass y.cls = some cell.cls := by
    cases hq : cls[ci]? with
    | none => rw [hq] at hc; cases hc
    | some q =>
      rw [hq] at hc
      have := va_recv hK hP hq he
      have hc : q.1 = y.cls := Option.some.inj hc
      rw [hc] at this
      exact this
  subst hw
  subst hs0
  subst hs1
  refine after_call (va_runV (As := As) (rest := st) ⟨hx, hb, hml, hown, hts⟩ (hM H.size) cw ⟨Pw.blind, hrecv, fun U hU hW => ⟨rfl, pw_of is hU hW hP hD hS hC hnd hK hAB hSF hB0 rfl⟩⟩ rfl hn hlv.1 rfl (lv_room hst) hd ⟨Nat.zero_le _, Nat.zero_le _⟩) hS hF (fun w' H1 locs1 hB hP1 hD1 hz hkq hS1 => ?_)
  subst hB
  obtain ⟨hP2, hD2⟩ := spl_world is hP hD hC hf hkq hP1
  exact k H1 locs1 ls hP2 hD2 hS1 hlv
/-- a static method's call, nothing made -/
theorem g_callS (C : Cx X E cc own rk mx) (hV : MV y bytes maxL ret n) (hI : Cond.static y ∈ lw_g) (hl : Cond.methodLink own idx y ∈ lw_g) (hM : Cn X.2.1 E y bytes maxL ret rk' 0 0 As wc (fun w => w = wc') rv) (hd : decode cc pc = .ok (.invokestatic idx, 3)) (hrk : rk' < rk ∧ maxL ≤ 44) (hn : As.length = n) (hst : (st.map fun v => v.category).sum ≤ 8)
    (is : List Nat) (hC : is.map (fun i => ws[i]?) = wc.map some) (hnd : va_nd is = true) (hf : wc'.map Prod.fst = wc.map Prod.fst)
    {ws' : va_W} {st0 st1 : List Value} (hs0 : st0 = As.reverse ++ st) (hs1 : rv.toList ++ st = st1) (hw : spl is wc' ws = ws') (k : Gx X E 0 0 ws' (pc + 3) lv st1) : Gx X E 0 0 ws pc lv st0 := by
  obtain ⟨p, l, e, R, s, m, args, below, meth, c, A, nL, Q⟩ := X
  obtain ⟨hx, hb, hml, hown, hts, hK, hA, hAB, hSF, hR, hB0, hlk, hmx⟩ := C
  intro H locs ls hP hD hS hlv
  have hF := va_free (wc := wc) hD hS hA is hC
  have cw : CallB R s args own idx y bytes maxL ret (.code y bytes maxL ret :: lw_g) (rmk rk' 0 0) 0 0 n ∧ (Cond.static y).before args s = true := ⟨callB_of n hts (lg_goodC hV.1) rfl rfl rfl (hts _ hV.2.1) (hts _ hl) hV.2.2 ⟨by show rk' + 1 + 1 ≤ _; omega, by show 8 + (maxL + 11) + 64 * (rk' + 1) ≤ _; omega⟩, hts _ hI⟩
  subst hw
  subst hs0
  subst hs1
  refine after_call (va_runS (As := As) (rest := st) ⟨hx, hb, hml, hown, hts⟩ (hM H.size) cw ⟨Pw.blind, fun U hU hW => ⟨rfl, pw_of is hU hW hP hD hS hC hnd hK hAB hSF hB0 rfl⟩⟩ rfl hn hlv.1 rfl (lv_room hst) hd ⟨Nat.zero_le _, Nat.zero_le _⟩) hS hF (fun w' H1 locs1 hB hP1 hD1 hz hkq hS1 => ?_)
  subst hB
  obtain ⟨hP2, hD2⟩ := spl_world is hP hD hC hf hkq hP1
  exact k H1 locs1 ls hP2 hD2 hS1 hlv
/-- a private static method of the nest's host -/
theorem g_callSN (C : Cx X E cc own rk mx) {host : String} (hV : MV y bytes maxL ret n) (hI : Cond.static y ∈ lw_g) (hl : Cond.methodLinkNest own idx y host ∈ nwl) (hM : Cn X.2.1 E y bytes maxL ret rk' 0 0 As wc (fun w => w = wc') rv) (hd : decode cc pc = .ok (.invokestatic idx, 3)) (hrk : rk' < rk ∧ maxL ≤ 44) (hn : As.length = n) (hst : (st.map fun v => v.category).sum ≤ 8)
    (is : List Nat) (hC : is.map (fun i => ws[i]?) = wc.map some) (hnd : va_nd is = true) (hf : wc'.map Prod.fst = wc.map Prod.fst)
    {ws' : va_W} {st0 st1 : List Value} (hs0 : st0 = As.reverse ++ st) (hs1 : rv.toList ++ st = st1) (hw : spl is wc' ws = ws') (k : Gx X E 0 0 ws' (pc + 3) lv st1) : Gx X E 0 0 ws pc lv st0 := by
  obtain ⟨p, l, e, R, s, m, args, below, meth, c, A, nL, Q⟩ := X
  obtain ⟨hx, hb, hml, hown, hts, hK, hA, hAB, hSF, hR, hB0, hlk, hmx⟩ := C
  intro H locs ls hP hD hS hlv
  have hF := va_free (wc := wc) hD hS hA is hC
  have cw : va_CN R s args own idx y host bytes maxL ret (.code y bytes maxL ret :: lw_g) (rmk rk' 0 0) 0 0 n := va_cnB n hts (lg_goodC hV.1) rfl rfl rfl (hSF.2.2 _ hl) (hts _ hV.2.1) hV.2.2 ⟨by show rk' + 1 + 1 ≤ _; omega, by show 8 + (maxL + 11) + 64 * (rk' + 1) ≤ _; omega⟩
  subst hw
  subst hs0
  subst hs1
  refine after_call (va_runSN (As := As) (rest := st) ⟨hx, hb, hml, hown, hts⟩ (hM H.size) ⟨cw, hts _ hI, trivial⟩ ⟨Pw.blind, fun U hU hW => ⟨rfl, pw_of is hU hW hP hD hS hC hnd hK hAB hSF hB0 rfl⟩⟩ rfl hn hlv.1 rfl (lv_room hst) hd ⟨Nat.zero_le _, Nat.zero_le _⟩) hS hF (fun w' H1 locs1 hB hP1 hD1 hz hkq hS1 => ?_)
  subst hB
  obtain ⟨hP2, hD2⟩ := spl_world is hP hD hC hf hkq hP1
  exact k H1 locs1 ls hP2 hD2 hS1 hlv
def imin (x y : Int32) : Int32 := if y < x then y else x
def imax (x y : Int32) : Int32 := if x < y then y else x
theorem g_mmin (C : Cx X E cc own rk mx) {x y : Int32} (hl : Cond.methodLink own idx Lib.Math.min.name ∈ lw_g) (h2 : Cond.static Lib.Math.min.name ∈ lw_g) (h3 : Cond.initialized "java/lang/Math" ∈ lw_g) (h4 : Cond.code Lib.Math.min.name Lib.Math.min.code 2 (some .int) ∈ lw_g) (hst : (st.map fun v => v.category).sum ≤ 8) (hk : kc ≤ X.2.2.2.1.cells ∧ ks ≤ X.2.2.2.1.slots) (hd : decode cc pc = .ok (.invokestatic idx, 3)) (k : Gx X E kc ks ws (pc + 3) lv (.int (imin x y) :: st)) : Gx X E kc ks ws pc lv (.int y :: .int x :: st) := by
  obtain ⟨p, l, e, R, s, m, args, below, meth, c, A, nL, Q⟩ := X
  obtain ⟨hx, hb, hml, hown, hts, hK, hA, hAB, hSF, hR, hB0, hlk, hmx⟩ := C
  intro H locs ls hP hD hS hlv
  have hk : kc ≤ R.cells ∧ ks ≤ R.slots := hk
  have r1 : 1 ≤ R.frames := by omega
  have r2 : (st.map fun v => v.category).sum + 13 ≤ R.locals := by omega
  exact va_mmin hx hb (hml.trans hlv.1.symm) hown (hts _ hl) (hts _ h2) (hts _ h3) (hts _ h4) r1 r2 hk.1 hk.2 hd (k H locs ls hP hD hS hlv)
theorem g_mmax (C : Cx X E cc own rk mx) {x y : Int32} (hl : Cond.methodLink own idx Lib.Math.max.name ∈ lw_g) (h2 : Cond.static Lib.Math.max.name ∈ lw_g) (h3 : Cond.initialized "java/lang/Math" ∈ lw_g) (h4 : Cond.code Lib.Math.max.name Lib.Math.max.code 2 (some .int) ∈ lw_g) (hst : (st.map fun v => v.category).sum ≤ 8) (hk : kc ≤ X.2.2.2.1.cells ∧ ks ≤ X.2.2.2.1.slots) (hd : decode cc pc = .ok (.invokestatic idx, 3)) (k : Gx X E kc ks ws (pc + 3) lv (.int (imax x y) :: st)) : Gx X E kc ks ws pc lv (.int y :: .int x :: st) := by
  obtain ⟨p, l, e, R, s, m, args, below, meth, c, A, nL, Q⟩ := X
  obtain ⟨hx, hb, hml, hown, hts, hK, hA, hAB, hSF, hR, hB0, hlk, hmx⟩ := C
  intro H locs ls hP hD hS hlv
  have hk : kc ≤ R.cells ∧ ks ≤ R.slots := hk
  have r1 : 1 ≤ R.frames := by omega
  have r2 : (st.map fun v => v.category).sum + 13 ≤ R.locals := by omega
  exact va_mmax hx hb (hml.trans hlv.1.symm) hown (hts _ hl) (hts _ h2) (hts _ h3) (hts _ h4) r1 r2 hk.1 hk.2 hd (k H locs ls hP hD hS hlv)
/-- the two static arrays -/
def LT (X : GC) (E : GE) (t : Nat) : Prop := match X with
  | (_, _, _, _, s, _, _, _, _, _, A, _, _) => va_T .char t 10 (fun j => .int (ltF j)) A s s.heap
def CT (X : GC) (E : GE) (t : Nat) : Prop := match X with
  | (_, _, _, _, s, _, _, _, _, _, A, _, _) => va_T .int t 72 (fun j => .int (chF j)) A s s.heap
theorem g_getsL (C : Cx X E cc own rk mx) {idx : Nat} (hl : Cond.fieldLink own idx RX2 "LETTERS" "[C" ∈ lw_g) (hd : decode cc pc = .ok (.getstatic idx, 3)) (k : ∀ t, LT X E t → Gx X E kc ks ws (pc + 3) lv (.ref t :: st)) : Gx X E kc ks ws pc lv st := by
  obtain ⟨p, l, e, R, s, m, args, below, meth, c, A, nL, Q⟩ := X
  obtain ⟨hx, hb, hml, hown, hts, hK, hA, hAB, hSF, hR, hB0, hlk, hmx⟩ := C
  intro H locs ls hP hD hS hlv
  obtain ⟨t, hZ, hT⟩ := hSF.1
  exact va_gets hx hb (hZ.narrow hAB) hS hown (hts _ hl) (fun _ h => h) hd (k t (hT.narrow hAB) H locs ls hP hD hS hlv)
theorem g_getsC (C : Cx X E cc own rk mx) {idx : Nat} (hl : Cond.fieldLink own idx RX6 "CHOOSE" "[I" ∈ lw_g) (hd : decode cc pc = .ok (.getstatic idx, 3)) (k : ∀ t, CT X E t → Gx X E kc ks ws (pc + 3) lv (.ref t :: st)) : Gx X E kc ks ws pc lv st := by
  obtain ⟨p, l, e, R, s, m, args, below, meth, c, A, nL, Q⟩ := X
  obtain ⟨hx, hb, hml, hown, hts, hK, hA, hAB, hSF, hR, hB0, hlk, hmx⟩ := C
  intro H locs ls hP hD hS hlv
  obtain ⟨t, hZ, hT⟩ := hSF.2.1
  exact va_gets hx hb (hZ.narrow hAB) hS hown (hts _ hl) (fun _ h => h) hd (k t (hT.narrow hAB) H locs ls hP hD hS hlv)
theorem g_caldL (C : Cx X E cc own rk mx) {α : Type} {r : α} {t : Nat} {i : Int32} {F : Int32 → Option α} (hT : LT X E t) (hd : decode cc pc = .ok (.caload, 1)) (h : rd ltF 10 i F = some r) (k : ∀ v, F v = some r → Gx X E kc ks ws (pc + 1) lv (.int v :: st)) : Gx X E kc ks ws pc lv (.int i :: .ref t :: st) := by
  obtain ⟨p, l, e, R, s, m, args, below, meth, c, A, nL, Q⟩ := X
  obtain ⟨hx, hb, hml, hown, hts, hK, hA, hAB, hSF, hR, hB0, hlk, hmx⟩ := C
  intro H locs ls hP hD hS hlv
  exact va_tc hx hb hT hS (rd_is h).1 rfl hd (k _ (rd_is h).2 H locs ls hP hD hS hlv)
theorem g_ialdC (C : Cx X E cc own rk mx) {α : Type} {r : α} {t : Nat} {i : Int32} {F : Int32 → Option α} (hT : CT X E t) (hd : decode cc pc = .ok (.iaload, 1)) (h : rd chF 72 i F = some r) (k : ∀ v, F v = some r → Gx X E kc ks ws (pc + 1) lv (.int v :: st)) : Gx X E kc ks ws pc lv (.int i :: .ref t :: st) := by
  obtain ⟨p, l, e, R, s, m, args, below, meth, c, A, nL, Q⟩ := X
  obtain ⟨hx, hb, hml, hown, hts, hK, hA, hAB, hSF, hR, hB0, hlk, hmx⟩ := C
  intro H locs ls hP hD hS hlv
  exact va_ti hx hb hT hS (rd_is h).1 rfl hd (k _ (rd_is h).2 H locs ls hP hD hS hlv)
theorem g_alenL (C : Cx X E cc own rk mx) {t : Nat} {v : Int32} (hT : LT X E t) (hd : decode cc pc = .ok (.arraylength, 1)) (hv : Int32.ofNat 10 = v) (k : Gx X E kc ks ws (pc + 1) lv (.int v :: st)) : Gx X E kc ks ws pc lv (.ref t :: st) := by
  obtain ⟨p, l, e, R, s, m, args, below, meth, c, A, nL, Q⟩ := X
  obtain ⟨hx, hb, hml, hown, hts, hK, hA, hAB, hSF, hR, hB0, hlk, hmx⟩ := C
  intro H locs ls hP hD hS hlv
  exact va_tlen hx hb hT hS hv hd (k H locs ls hP hD hS hlv)
/-- switches: the key that is hit, and none -/
theorem g_tabHit (C : Cx X E cc own rk mx) {dflt lo hi off : Int} {offs : Array Int} {len tgt : Nat} {x : Int32} (key : Int32) (hx1 : x = key) (hd : decode cc pc = .ok (.tableswitch dflt lo hi offs, len)) (h1 : ¬ key.toInt < lo) (h2 : ¬ hi < key.toInt) (ho : offs[(key.toInt - lo).toNat]? = some off) (ht : (pc : Int) + off = (tgt : Int)) (k : Gx X E kc ks ws tgt lv st) : Gx X E kc ks ws pc lv (.int x :: st) := by
  obtain ⟨p, l, e, R, s, m, args, below, meth, c, A, nL, Q⟩ := X
  obtain ⟨hx, hb, hml, hown, hts, hK, hA, hAB, hSF, hR, hB0, hlk, hmx⟩ := C
  intro H locs ls hP hD hS hlv
  subst hx1
  exact lv_tableIn hx hb hd h1 h2 ho ht (k H locs ls hP hD hS hlv)
theorem g_tabMiss (C : Cx X E cc own rk mx) {dflt lo hi : Int} {offs : Array Int} {len tgt : Nat} {x : Int32} (hd : decode cc pc = .ok (.tableswitch dflt lo hi offs, len)) (h : x.toInt < lo ∨ hi < x.toInt) (ht : (pc : Int) + dflt = (tgt : Int)) (k : Gx X E kc ks ws tgt lv st) : Gx X E kc ks ws pc lv (.int x :: st) := by
  obtain ⟨p, l, e, R, s, m, args, below, meth, c, A, nL, Q⟩ := X
  obtain ⟨hx, hb, hml, hown, hts, hK, hA, hAB, hSF, hR, hB0, hlk, hmx⟩ := C
  intro H locs ls hP hD hS hlv
  exact lv_tableOut hx hb hd h ht (k H locs ls hP hD hS hlv)
theorem g_look (C : Cx X E cc own rk mx) {dflt off : Int} {ps : Array (Int × Int)} {len tgt : Nat} {x : Int32} (hd : decode cc pc = .ok (.lookupswitch dflt ps, len)) (hp : (ps.toList.zip (ps.toList.drop 1)).all (fun (a, next) => a.1 < next.1) = true) (ho : Op.lookupswitch.offset ps.toList dflt x.toInt = off) (ht : (pc : Int) + off = (tgt : Int)) (k : Gx X E kc ks ws tgt lv st) : Gx X E kc ks ws pc lv (.int x :: st) := by
  obtain ⟨p, l, e, R, s, m, args, below, meth, c, A, nL, Q⟩ := X
  obtain ⟨hx, hb, hml, hown, hts, hK, hA, hAB, hSF, hR, hB0, hlk, hmx⟩ := C
  intro H locs ls hP hD hS hlv
  exact lv_lookup hx hb hd hp ho ht (k H locs ls hP hD hS hlv)
def cpy {β : Type} (f : Nat → Int32) (n0 : Nat) (g : Nat → Int32) (n1 : Nat) (sp dp n : Int32) (k : (Nat → Int32) → Option β) : Option β := if (¬ sp < 0 ∧ ¬ dp < 0 ∧ ¬ n < 0) ∧ sp.toNatClampNeg + n.toNatClampNeg ≤ n0 ∧ dp.toNatClampNeg + n.toNatClampNeg ≤ n1 then k (va_cpy f g sp.toNatClampNeg dp.toNatClampNeg n.toNatClampNeg) else none
theorem g_copy (C : Cx X E cc own rk mx) {α : Type} {r : α} {a a0 n0 n1 : Nat} {f g : Nat → Int32} {sp dp n : Int32} {F : (Nat → Int32) → Option α} (hl : Cond.methodLink own idx arraycopyName ∈ lw_g) (h2 : Cond.native arraycopyName ∈ lw_g) (h3 : Cond.static arraycopyName ∈ lw_g) (h4 : Cond.initialized "java/lang/System" ∈ lw_g) (hst : (st.map fun v => v.category).sum ≤ 8) (hd : decode cc pc = .ok (.invokestatic idx, 3)) (q0 q1 : Nat) (ha0 : ws[q0]? = some (a0, .inl (E.2.1, n0, .inl f))) (ha1 : ws[q1]? = some (a, .inl (E.2.1, n1, .inl g)))
    (h : cpy f n0 g n1 sp dp n F = some r) (k : ∀ g', F g' = some r → Gx X E kc ks (ws.set q1 (a, .inl (E.2.1, n1, .inl g'))) (pc + 3) lv st) : Gx X E kc ks ws pc lv (.int n :: .int dp :: .ref a :: .int sp :: .ref a0 :: st) := by
  obtain ⟨p, l, e, R, s, m, args, below, meth, c, A, nL, Q⟩ := X
  obtain ⟨hx, hb, hml, hown, hts, hK, hA, hAB, hSF, hR, hB0, hlk, hmx⟩ := C
  intro H locs ls hP hD hS hlv
  obtain ⟨⟨⟨c1, c2, c3⟩, c4, c5⟩, h⟩ := ite_some h
  have r1 : 1 ≤ R.frames := by omega
  have r3 : nativeFrameWords "java/lang/System" "arraycopy" 5 + 11 ≤ 56 := by decide +kernel
  have r2 : (st.map fun v => v.category).sum + (nativeFrameWords "java/lang/System" "arraycopy" 5 + 11) ≤ R.locals := by omega
  exact va_copyi hx hb (hml.trans hlv.1.symm) hown (hts _ hl) (hts _ h2) (hts _ h3) (hts _ h4) hK hP hD hS q0 q1 0 0 ha0 ha1 rfl rfl rfl c1 c2 c3 c4 c5 (fun i _ => rfl) r1 r2 hd (fun H1 locs1 hP hD hS => k _ h H1 locs1 ls hP hD hS hlv)
end CB
end
section
abbrev ob_X0 (a : Nat → Nat) (v_told : Int32) (v_barred : Int32) : va_E := .inr (0, [.ref (a 0), .ref (a 1), .ref (a 2), .ref (a 3), .ref (a 4), .int v_told, .int v_barred])
abbrev ob_X1 (r_script : Nat) (a : Nat → Nat) : va_E := .inr (1, [.ref r_script, .ref (a 1), .ref (a 2), .ref (a 3)])
abbrev ob_X2 (a : Nat → Nat) (v_size : Int32) (v_rules : Int32) : va_E := .inr (2, [.ref (a 0), .ref (a 1), .ref (a 2), .ref (a 3), .ref (a 4), .ref (a 5), .ref (a 6), .int v_size, .int v_rules])
abbrev ob_X3 (r_script : Nat) (r_law : Nat) : va_E := .inr (3, [.ref r_script, .ref r_law])
abbrev ob_X4 (r_script : Nat) (a : Nat → Nat) (v_lines : Int32) (v_told : Int32) : va_E := .inr (4, [.ref r_script, .ref (a 1), .ref (a 2), .ref (a 3), .ref (a 4), .ref (a 5), .int v_lines, .int v_told])
abbrev ob_X6 (a : Nat → Nat) (v_size : Int32) : va_E := .inr (5, [.ref (a 0), .ref (a 1), .ref (a 2), .ref (a 3), .int v_size])
abbrev ob_X7 (r_tape : Nat) (v_end : Int32) (v_place : Int32) (v_fault : Int32) : va_E := .inr (6, [.ref r_tape, .int v_end, .int v_place, .int v_fault])
abbrev ob_X8 (a : Nat → Nat) (v_size : Int32) : va_E := .inr (7, [.ref (a 0), .int v_size])
abbrev ob_X9 (a : Nat → Nat) (v_told : Int32) (v_round : Int32) (v_x : Int32) : va_E := .inr (8, [.ref (a 0), .ref (a 1), .ref (a 2), .ref (a 3), .int v_told, .int v_round, .int v_x])
abbrev ob_X10 (a : Nat → Nat) (v_passed : Int32) (v_jammed : Int32) : va_E := .inr (9, [.ref (a 0), .int v_passed, .int v_jammed])
abbrev ob_X11 (r_tape : Nat) (r_script : Nat) (r_hairReader : Nat) (r_ordersReader : Nat) (r_lawReader : Nat) (r_doors : Nat) (r_town : Nat) (r_kept : Nat) (r_trial : Nat) (r_walk : Nat) (r_reach : Nat) (r_lawNow : Nat) (r_lawSpare : Nat) (v_isKept : Int32) : va_E := .inr (10, [.ref r_tape, .ref r_script, .ref r_hairReader, .ref r_ordersReader, .ref r_lawReader, .ref r_doors, .ref r_town, .ref r_kept, .ref r_trial, .ref r_walk, .ref r_reach, .ref r_lawNow, .ref r_lawSpare, .int v_isKept])
abbrev ob_X12 (a : Nat → Nat) (v_toldDoors : Int32) (v_barredDoors : Int32) (v_taped : Int32) (v_place0 : Int32) (v_length0 : Int32) (v_fault : Int32) (v_number0 : Int32) (v_open : Int32) (v_codeMany : Int32) (v_waiting : Int32) (v_saidMany : Int32) (v_clauses : Int32) (v_newMany : Int32) (v_rounds : Int32) (v_pinFrom : Int32) (v_pinTimes : Int32) (v_lines : Int32) (v_wasTold : Int32) (v_wasBarred : Int32) (v_goesNow : Int32) (v_jamsNow : Int32) (v_queued : Int32) (v_isKept : Int32) : va_E := .inr (11, [.ref (a 0), .ref (a 1), .ref (a 2), .ref (a 3), .ref (a 4), .ref (a 5), .ref (a 6), .ref (a 7), .ref (a 8), .ref (a 9), .ref (a 10), .int v_toldDoors, .int v_barredDoors, .ref (a 13), .int v_taped, .int v_place0, .int v_length0, .int v_fault, .int v_number0, .int v_open, .int v_codeMany, .int v_waiting, .int v_saidMany, .int v_clauses, .ref (a 24), .ref (a 25), .ref (a 26), .ref (a 27), .ref (a 28), .ref (a 29), .ref (a 30), .ref (a 31), .ref (a 32), .ref (a 33), .ref (a 34), .ref (a 35), .ref (a 36), .ref (a 37), .ref (a 38), .ref (a 39), .ref (a 40), .int v_newMany, .int v_rounds, .int v_pinFrom, .int v_pinTimes, .int v_lines, .int v_wasTold, .int v_wasBarred, .int v_goesNow, .int v_jamsNow, .ref (a 50), .ref (a 51), .ref (a 52), .int v_queued, .ref (a 54), .ref (a 55), .ref (a 56), .int v_isKept])
theorem inX0 : ∀ w ∈ u_ws RX0 TX0 7, w ∈ lw_g := by
  have h : ∀ w ∈ u_ws RX0 TX0 7, w ∈ lw_tbl ∧ goodWord w = true := by decide +kernel
  exact fun w hw => lg_in (h w hw).1 (h w hw).2
theorem inX1 : ∀ w ∈ u_ws RX1 TX1 4, w ∈ lw_g := by
  have h : ∀ w ∈ u_ws RX1 TX1 4, w ∈ lw_tbl ∧ goodWord w = true := by decide +kernel
  exact fun w hw => lg_in (h w hw).1 (h w hw).2
theorem inX2 : ∀ w ∈ u_ws RX2 TX2 9, w ∈ lw_g := by
  have h : ∀ w ∈ u_ws RX2 TX2 9, w ∈ lw_tbl ∧ goodWord w = true := by decide +kernel
  exact fun w hw => lg_in (h w hw).1 (h w hw).2
theorem inX3 : ∀ w ∈ u_ws RX3 TX3 2, w ∈ lw_g := by
  have h : ∀ w ∈ u_ws RX3 TX3 2, w ∈ lw_tbl ∧ goodWord w = true := by decide +kernel
  exact fun w hw => lg_in (h w hw).1 (h w hw).2
theorem inX4 : ∀ w ∈ u_ws RX4 TX4 8, w ∈ lw_g := by
  have h : ∀ w ∈ u_ws RX4 TX4 8, w ∈ lw_tbl ∧ goodWord w = true := by decide +kernel
  exact fun w hw => lg_in (h w hw).1 (h w hw).2
theorem inX6 : ∀ w ∈ u_ws RX6 TX6 5, w ∈ lw_g := by
  have h : ∀ w ∈ u_ws RX6 TX6 5, w ∈ lw_tbl ∧ goodWord w = true := by decide +kernel
  exact fun w hw => lg_in (h w hw).1 (h w hw).2
theorem inX7 : ∀ w ∈ u_ws RX7 TX7 4, w ∈ lw_g := by
  have h : ∀ w ∈ u_ws RX7 TX7 4, w ∈ lw_tbl ∧ goodWord w = true := by decide +kernel
  exact fun w hw => lg_in (h w hw).1 (h w hw).2
theorem inX8 : ∀ w ∈ u_ws RX8 TX8 2, w ∈ lw_g := by
  have h : ∀ w ∈ u_ws RX8 TX8 2, w ∈ lw_tbl ∧ goodWord w = true := by decide +kernel
  exact fun w hw => lg_in (h w hw).1 (h w hw).2
theorem inX9 : ∀ w ∈ u_ws RX9 TX9 7, w ∈ lw_g := by
  have h : ∀ w ∈ u_ws RX9 TX9 7, w ∈ lw_tbl ∧ goodWord w = true := by decide +kernel
  exact fun w hw => lg_in (h w hw).1 (h w hw).2
theorem inX10 : ∀ w ∈ u_ws RX10 TX10 3, w ∈ lw_g := by
  have h : ∀ w ∈ u_ws RX10 TX10 3, w ∈ lw_tbl ∧ goodWord w = true := by decide +kernel
  exact fun w hw => lg_in (h w hw).1 (h w hw).2
theorem inX11 : ∀ w ∈ u_ws RX11 TX11 14, w ∈ lw_g := by
  have h : ∀ w ∈ u_ws RX11 TX11 14, w ∈ lw_tbl ∧ goodWord w = true := by decide +kernel
  exact fun w hw => lg_in (h w hw).1 (h w hw).2
theorem inX12 : ∀ w ∈ u_ws RX12 TX12 58, w ∈ lw_g := by
  have h : ∀ w ∈ u_ws RX12 TX12 58, w ∈ lw_tbl ∧ goodWord w = true := by decide +kernel
  exact fun w hw => lg_in (h w hw).1 (h w hw).2
theorem fl_X0_15 : FL RX0 15 0 1 := ⟨(RX0, TX0, 7), tyX0, rfl, inX0, by decide, lg_in (List.mem_of_getElem? (i := 218) (by decide +kernel)) rfl, tyX0_ok, nmX0⟩
theorem fl_X0_18 : FL RX0 18 0 2 := ⟨(RX0, TX0, 7), tyX0, rfl, inX0, by decide, lg_in (List.mem_of_getElem? (i := 221) (by decide +kernel)) rfl, tyX0_ok, nmX0⟩
theorem fl_X0_21 : FL RX0 21 0 3 := ⟨(RX0, TX0, 7), tyX0, rfl, inX0, by decide, lg_in (List.mem_of_getElem? (i := 223) (by decide +kernel)) rfl, tyX0_ok, nmX0⟩
theorem fl_X0_24 : FL RX0 24 0 4 := ⟨(RX0, TX0, 7), tyX0, rfl, inX0, by decide, lg_in (List.mem_of_getElem? (i := 227) (by decide +kernel)) rfl, tyX0_ok, nmX0⟩
theorem fl_X0_27 : FL RX0 27 0 5 := ⟨(RX0, TX0, 7), tyX0, rfl, inX0, by decide, lg_in (List.mem_of_getElem? (i := 229) (by decide +kernel)) rfl, tyX0_ok, nmX0⟩
theorem fl_X0_31 : FL RX0 31 0 6 := ⟨(RX0, TX0, 7), tyX0, rfl, inX0, by decide, lg_in (List.mem_of_getElem? (i := 231) (by decide +kernel)) rfl, tyX0_ok, nmX0⟩
theorem fl_X0_9 : FL RX0 9 0 0 := ⟨(RX0, TX0, 7), tyX0, rfl, inX0, by decide, lg_in (List.mem_of_getElem? (i := 215) (by decide +kernel)) rfl, tyX0_ok, nmX0⟩
theorem fl_X1_15 : FL RX1 15 1 2 := ⟨(RX1, TX1, 4), tyX1, rfl, inX1, by decide, lg_in (List.mem_of_getElem? (i := 166) (by decide +kernel)) rfl, tyX1_ok, nmX1⟩
theorem fl_X1_18 : FL RX1 18 1 3 := ⟨(RX1, TX1, 4), tyX1, rfl, inX1, by decide, lg_in (List.mem_of_getElem? (i := 167) (by decide +kernel)) rfl, tyX1_ok, nmX1⟩
theorem fl_X1_21 : FL RX1 21 1 0 := ⟨(RX1, TX1, 4), tyX1, rfl, inX1, by decide, lg_in (List.mem_of_getElem? (i := 163) (by decide +kernel)) rfl, tyX1_ok, nmX1⟩
theorem fl_X10_15 : FL RX10 15 9 1 := ⟨(RX10, TX10, 3), tyX10, rfl, inX10, by decide, lg_in (List.mem_of_getElem? (i := 294) (by decide +kernel)) rfl, tyX10_ok, nmX10⟩
theorem fl_X10_19 : FL RX10 19 9 2 := ⟨(RX10, TX10, 3), tyX10, rfl, inX10, by decide, lg_in (List.mem_of_getElem? (i := 296) (by decide +kernel)) rfl, tyX10_ok, nmX10⟩
theorem fl_X10_22 : FL RX10 22 8 5 := ⟨(RX9, TX9, 7), tyX9, rfl, inX9, by decide, lg_in (List.mem_of_getElem? (i := 267) (by decide +kernel)) rfl, tyX9_ok, nmX9⟩
theorem fl_X10_60 : FL RX10 60 8 3 := ⟨(RX9, TX9, 7), tyX9, rfl, inX9, by decide, lg_in (List.mem_of_getElem? (i := 263) (by decide +kernel)) rfl, tyX9_ok, nmX9⟩
theorem fl_X10_67 : FL RX10 67 8 0 := ⟨(RX9, TX9, 7), tyX9, rfl, inX9, by decide, lg_in (List.mem_of_getElem? (i := 255) (by decide +kernel)) rfl, tyX9_ok, nmX9⟩
theorem fl_X10_76 : FL RX10 76 8 1 := ⟨(RX9, TX9, 7), tyX9, rfl, inX9, by decide, lg_in (List.mem_of_getElem? (i := 258) (by decide +kernel)) rfl, tyX9_ok, nmX9⟩
theorem fl_X10_9 : FL RX10 9 9 0 := ⟨(RX10, TX10, 3), tyX10, rfl, inX10, by decide, lg_in (List.mem_of_getElem? (i := 293) (by decide +kernel)) rfl, tyX10_ok, nmX10⟩
theorem fl_X10_92 : FL RX10 92 0 3 := ⟨(RX0, TX0, 7), tyX0, rfl, inX0, by decide, lg_in (List.mem_of_getElem? (i := 225) (by decide +kernel)) rfl, tyX0_ok, nmX0⟩
theorem fl_X11_10 : FL RX11 10 10 0 := ⟨(RX11, TX11, 14), tyX11, rfl, inX11, by decide, lg_in (List.mem_of_getElem? (i := 377) (by decide +kernel)) rfl, tyX11_ok, nmX11⟩
theorem fl_X11_106 : FL RX11 106 7 1 := ⟨(RX8, TX8, 2), tyX8, rfl, inX8, by decide, lg_in (List.mem_of_getElem? (i := 127) (by decide +kernel)) rfl, tyX8_ok, nmX8⟩
theorem fl_X11_128 : FL RX11 128 6 3 := ⟨(RX7, TX7, 4), tyX7, rfl, inX7, by decide, lg_in (List.mem_of_getElem? (i := 147) (by decide +kernel)) rfl, tyX7_ok, nmX7⟩
theorem fl_X11_131 : FL RX11 131 2 8 := ⟨(RX2, TX2, 9), tyX2, rfl, inX2, by decide, lg_in (List.mem_of_getElem? (i := 344) (by decide +kernel)) rfl, tyX2_ok, nmX2⟩
theorem fl_X11_152 : FL RX11 152 0 5 := ⟨(RX0, TX0, 7), tyX0, rfl, inX0, by decide, lg_in (List.mem_of_getElem? (i := 230) (by decide +kernel)) rfl, tyX0_ok, nmX0⟩
theorem fl_X11_161 : FL RX11 161 4 6 := ⟨(RX4, TX4, 8), tyX4, rfl, inX4, by decide, lg_in (List.mem_of_getElem? (i := 190) (by decide +kernel)) rfl, tyX4_ok, nmX4⟩
theorem fl_X11_168 : FL RX11 168 9 1 := ⟨(RX10, TX10, 3), tyX10, rfl, inX10, by decide, lg_in (List.mem_of_getElem? (i := 295) (by decide +kernel)) rfl, tyX10_ok, nmX10⟩
theorem fl_X11_175 : FL RX11 175 8 2 := ⟨(RX9, TX9, 7), tyX9, rfl, inX9, by decide, lg_in (List.mem_of_getElem? (i := 260) (by decide +kernel)) rfl, tyX9_ok, nmX9⟩
theorem fl_X11_178 : FL RX11 178 8 3 := ⟨(RX9, TX9, 7), tyX9, rfl, inX9, by decide, lg_in (List.mem_of_getElem? (i := 264) (by decide +kernel)) rfl, tyX9_ok, nmX9⟩
theorem fl_X11_192 : FL RX11 192 9 2 := ⟨(RX10, TX10, 3), tyX10, rfl, inX10, by decide, lg_in (List.mem_of_getElem? (i := 297) (by decide +kernel)) rfl, tyX10_ok, nmX10⟩
theorem fl_X11_199 : FL RX11 199 0 0 := ⟨(RX0, TX0, 7), tyX0, rfl, inX0, by decide, lg_in (List.mem_of_getElem? (i := 217) (by decide +kernel)) rfl, tyX0_ok, nmX0⟩
theorem fl_X11_202 : FL RX11 202 0 1 := ⟨(RX0, TX0, 7), tyX0, rfl, inX0, by decide, lg_in (List.mem_of_getElem? (i := 220) (by decide +kernel)) rfl, tyX0_ok, nmX0⟩
theorem fl_X11_205 : FL RX11 205 0 2 := ⟨(RX0, TX0, 7), tyX0, rfl, inX0, by decide, lg_in (List.mem_of_getElem? (i := 222) (by decide +kernel)) rfl, tyX0_ok, nmX0⟩
theorem fl_X11_208 : FL RX11 208 0 6 := ⟨(RX0, TX0, 7), tyX0, rfl, inX0, by decide, lg_in (List.mem_of_getElem? (i := 232) (by decide +kernel)) rfl, tyX0_ok, nmX0⟩
theorem fl_X11_21 : FL RX11 21 10 1 := ⟨(RX11, TX11, 14), tyX11, rfl, inX11, by decide, lg_in (List.mem_of_getElem? (i := 378) (by decide +kernel)) rfl, tyX11_ok, nmX11⟩
theorem fl_X11_211 : FL RX11 211 8 0 := ⟨(RX9, TX9, 7), tyX9, rfl, inX9, by decide, lg_in (List.mem_of_getElem? (i := 256) (by decide +kernel)) rfl, tyX9_ok, nmX9⟩
theorem fl_X11_214 : FL RX11 214 0 3 := ⟨(RX0, TX0, 7), tyX0, rfl, inX0, by decide, lg_in (List.mem_of_getElem? (i := 226) (by decide +kernel)) rfl, tyX0_ok, nmX0⟩
theorem fl_X11_217 : FL RX11 217 0 4 := ⟨(RX0, TX0, 7), tyX0, rfl, inX0, by decide, lg_in (List.mem_of_getElem? (i := 228) (by decide +kernel)) rfl, tyX0_ok, nmX0⟩
theorem fl_X11_307 : FL RX11 307 8 6 := ⟨(RX9, TX9, 7), tyX9, rfl, inX9, by decide, lg_in (List.mem_of_getElem? (i := 271) (by decide +kernel)) rfl, tyX9_ok, nmX9⟩
theorem fl_X11_310 : FL RX11 310 8 5 := ⟨(RX9, TX9, 7), tyX9, rfl, inX9, by decide, lg_in (List.mem_of_getElem? (i := 269) (by decide +kernel)) rfl, tyX9_ok, nmX9⟩
theorem fl_X11_316 : FL RX11 316 8 4 := ⟨(RX9, TX9, 7), tyX9, rfl, inX9, by decide, lg_in (List.mem_of_getElem? (i := 266) (by decide +kernel)) rfl, tyX9_ok, nmX9⟩
theorem fl_X11_37 : FL RX11 37 10 3 := ⟨(RX11, TX11, 14), tyX11, rfl, inX11, by decide, lg_in (List.mem_of_getElem? (i := 380) (by decide +kernel)) rfl, tyX11_ok, nmX11⟩
theorem fl_X11_44 : FL RX11 44 10 5 := ⟨(RX11, TX11, 14), tyX11, rfl, inX11, by decide, lg_in (List.mem_of_getElem? (i := 382) (by decide +kernel)) rfl, tyX11_ok, nmX11⟩
theorem fl_X11_51 : FL RX11 51 10 6 := ⟨(RX11, TX11, 14), tyX11, rfl, inX11, by decide, lg_in (List.mem_of_getElem? (i := 383) (by decide +kernel)) rfl, tyX11_ok, nmX11⟩
theorem fl_X11_55 : FL RX11 55 10 7 := ⟨(RX11, TX11, 14), tyX11, rfl, inX11, by decide, lg_in (List.mem_of_getElem? (i := 384) (by decide +kernel)) rfl, tyX11_ok, nmX11⟩
theorem fl_X11_58 : FL RX11 58 10 8 := ⟨(RX11, TX11, 14), tyX11, rfl, inX11, by decide, lg_in (List.mem_of_getElem? (i := 385) (by decide +kernel)) rfl, tyX11_ok, nmX11⟩
theorem fl_X11_64 : FL RX11 64 10 9 := ⟨(RX11, TX11, 14), tyX11, rfl, inX11, by decide, lg_in (List.mem_of_getElem? (i := 386) (by decide +kernel)) rfl, tyX11_ok, nmX11⟩
theorem fl_X11_71 : FL RX11 71 10 10 := ⟨(RX11, TX11, 14), tyX11, rfl, inX11, by decide, lg_in (List.mem_of_getElem? (i := 387) (by decide +kernel)) rfl, tyX11_ok, nmX11⟩
theorem fl_X11_78 : FL RX11 78 10 11 := ⟨(RX11, TX11, 14), tyX11, rfl, inX11, by decide, lg_in (List.mem_of_getElem? (i := 388) (by decide +kernel)) rfl, tyX11_ok, nmX11⟩
theorem fl_X11_94 : FL RX11 94 10 13 := ⟨(RX11, TX11, 14), tyX11, rfl, inX11, by decide, lg_in (List.mem_of_getElem? (i := 390) (by decide +kernel)) rfl, tyX11_ok, nmX11⟩
theorem fl_X12_102 : FL RX12 102 11 51 := ⟨(RX12, TX12, 58), tyX12, rfl, inX12, by decide, lg_in (List.mem_of_getElem? (i := 1091) (by decide +kernel)) rfl, tyX12_ok, nmX12⟩
theorem fl_X12_105 : FL RX12 105 11 52 := ⟨(RX12, TX12, 58), tyX12, rfl, inX12, by decide, lg_in (List.mem_of_getElem? (i := 1092) (by decide +kernel)) rfl, tyX12_ok, nmX12⟩
theorem fl_X12_108 : FL RX12 108 11 54 := ⟨(RX12, TX12, 58), tyX12, rfl, inX12, by decide, lg_in (List.mem_of_getElem? (i := 1094) (by decide +kernel)) rfl, tyX12_ok, nmX12⟩
theorem fl_X12_111 : FL RX12 111 11 55 := ⟨(RX12, TX12, 58), tyX12, rfl, inX12, by decide, lg_in (List.mem_of_getElem? (i := 1095) (by decide +kernel)) rfl, tyX12_ok, nmX12⟩
theorem fl_X12_114 : FL RX12 114 11 56 := ⟨(RX12, TX12, 58), tyX12, rfl, inX12, by decide, lg_in (List.mem_of_getElem? (i := 1096) (by decide +kernel)) rfl, tyX12_ok, nmX12⟩
theorem fl_X12_121 : FL RX12 121 11 11 := ⟨(RX12, TX12, 58), tyX12, rfl, inX12, by decide, lg_in (List.mem_of_getElem? (i := 1051) (by decide +kernel)) rfl, tyX12_ok, nmX12⟩
theorem fl_X12_13 : FL RX12 13 11 1 := ⟨(RX12, TX12, 58), tyX12, rfl, inX12, by decide, lg_in (List.mem_of_getElem? (i := 1041) (by decide +kernel)) rfl, tyX12_ok, nmX12⟩
theorem fl_X12_133 : FL RX12 133 11 12 := ⟨(RX12, TX12, 58), tyX12, rfl, inX12, by decide, lg_in (List.mem_of_getElem? (i := 1052) (by decide +kernel)) rfl, tyX12_ok, nmX12⟩
theorem fl_X12_139 : FL RX12 139 11 14 := ⟨(RX12, TX12, 58), tyX12, rfl, inX12, by decide, lg_in (List.mem_of_getElem? (i := 1054) (by decide +kernel)) rfl, tyX12_ok, nmX12⟩
theorem fl_X12_146 : FL RX12 146 11 15 := ⟨(RX12, TX12, 58), tyX12, rfl, inX12, by decide, lg_in (List.mem_of_getElem? (i := 1055) (by decide +kernel)) rfl, tyX12_ok, nmX12⟩
theorem fl_X12_149 : FL RX12 149 11 16 := ⟨(RX12, TX12, 58), tyX12, rfl, inX12, by decide, lg_in (List.mem_of_getElem? (i := 1056) (by decide +kernel)) rfl, tyX12_ok, nmX12⟩
theorem fl_X12_156 : FL RX12 156 11 17 := ⟨(RX12, TX12, 58), tyX12, rfl, inX12, by decide, lg_in (List.mem_of_getElem? (i := 1057) (by decide +kernel)) rfl, tyX12_ok, nmX12⟩
theorem fl_X12_16 : FL RX12 16 11 2 := ⟨(RX12, TX12, 58), tyX12, rfl, inX12, by decide, lg_in (List.mem_of_getElem? (i := 1042) (by decide +kernel)) rfl, tyX12_ok, nmX12⟩
theorem fl_X12_162 : FL RX12 162 11 18 := ⟨(RX12, TX12, 58), tyX12, rfl, inX12, by decide, lg_in (List.mem_of_getElem? (i := 1058) (by decide +kernel)) rfl, tyX12_ok, nmX12⟩
theorem fl_X12_169 : FL RX12 169 11 20 := ⟨(RX12, TX12, 58), tyX12, rfl, inX12, by decide, lg_in (List.mem_of_getElem? (i := 1060) (by decide +kernel)) rfl, tyX12_ok, nmX12⟩
theorem fl_X12_173 : FL RX12 173 11 19 := ⟨(RX12, TX12, 58), tyX12, rfl, inX12, by decide, lg_in (List.mem_of_getElem? (i := 1059) (by decide +kernel)) rfl, tyX12_ok, nmX12⟩
theorem fl_X12_176 : FL RX12 176 11 21 := ⟨(RX12, TX12, 58), tyX12, rfl, inX12, by decide, lg_in (List.mem_of_getElem? (i := 1061) (by decide +kernel)) rfl, tyX12_ok, nmX12⟩
theorem fl_X12_19 : FL RX12 19 11 3 := ⟨(RX12, TX12, 58), tyX12, rfl, inX12, by decide, lg_in (List.mem_of_getElem? (i := 1043) (by decide +kernel)) rfl, tyX12_ok, nmX12⟩
theorem fl_X12_22 : FL RX12 22 11 4 := ⟨(RX12, TX12, 58), tyX12, rfl, inX12, by decide, lg_in (List.mem_of_getElem? (i := 1044) (by decide +kernel)) rfl, tyX12_ok, nmX12⟩
theorem fl_X12_224 : FL RX12 224 11 22 := ⟨(RX12, TX12, 58), tyX12, rfl, inX12, by decide, lg_in (List.mem_of_getElem? (i := 1062) (by decide +kernel)) rfl, tyX12_ok, nmX12⟩
theorem fl_X12_239 : FL RX12 239 11 23 := ⟨(RX12, TX12, 58), tyX12, rfl, inX12, by decide, lg_in (List.mem_of_getElem? (i := 1063) (by decide +kernel)) rfl, tyX12_ok, nmX12⟩
theorem fl_X12_25 : FL RX12 25 11 5 := ⟨(RX12, TX12, 58), tyX12, rfl, inX12, by decide, lg_in (List.mem_of_getElem? (i := 1045) (by decide +kernel)) rfl, tyX12_ok, nmX12⟩
theorem fl_X12_250 : FL RX12 250 11 43 := ⟨(RX12, TX12, 58), tyX12, rfl, inX12, by decide, lg_in (List.mem_of_getElem? (i := 1083) (by decide +kernel)) rfl, tyX12_ok, nmX12⟩
theorem fl_X12_253 : FL RX12 253 11 44 := ⟨(RX12, TX12, 58), tyX12, rfl, inX12, by decide, lg_in (List.mem_of_getElem? (i := 1084) (by decide +kernel)) rfl, tyX12_ok, nmX12⟩
theorem fl_X12_256 : FL RX12 256 11 41 := ⟨(RX12, TX12, 58), tyX12, rfl, inX12, by decide, lg_in (List.mem_of_getElem? (i := 1081) (by decide +kernel)) rfl, tyX12_ok, nmX12⟩
theorem fl_X12_262 : FL RX12 262 11 42 := ⟨(RX12, TX12, 58), tyX12, rfl, inX12, by decide, lg_in (List.mem_of_getElem? (i := 1082) (by decide +kernel)) rfl, tyX12_ok, nmX12⟩
theorem fl_X12_28 : FL RX12 28 11 6 := ⟨(RX12, TX12, 58), tyX12, rfl, inX12, by decide, lg_in (List.mem_of_getElem? (i := 1046) (by decide +kernel)) rfl, tyX12_ok, nmX12⟩
theorem fl_X12_283 : FL RX12 283 11 45 := ⟨(RX12, TX12, 58), tyX12, rfl, inX12, by decide, lg_in (List.mem_of_getElem? (i := 1085) (by decide +kernel)) rfl, tyX12_ok, nmX12⟩
theorem fl_X12_292 : FL RX12 292 11 46 := ⟨(RX12, TX12, 58), tyX12, rfl, inX12, by decide, lg_in (List.mem_of_getElem? (i := 1086) (by decide +kernel)) rfl, tyX12_ok, nmX12⟩
theorem fl_X12_295 : FL RX12 295 11 47 := ⟨(RX12, TX12, 58), tyX12, rfl, inX12, by decide, lg_in (List.mem_of_getElem? (i := 1087) (by decide +kernel)) rfl, tyX12_ok, nmX12⟩
theorem fl_X12_31 : FL RX12 31 11 7 := ⟨(RX12, TX12, 58), tyX12, rfl, inX12, by decide, lg_in (List.mem_of_getElem? (i := 1047) (by decide +kernel)) rfl, tyX12_ok, nmX12⟩
theorem fl_X12_34 : FL RX12 34 11 8 := ⟨(RX12, TX12, 58), tyX12, rfl, inX12, by decide, lg_in (List.mem_of_getElem? (i := 1048) (by decide +kernel)) rfl, tyX12_ok, nmX12⟩
theorem fl_X12_348 : FL RX12 348 11 49 := ⟨(RX12, TX12, 58), tyX12, rfl, inX12, by decide, lg_in (List.mem_of_getElem? (i := 1089) (by decide +kernel)) rfl, tyX12_ok, nmX12⟩
theorem fl_X12_351 : FL RX12 351 11 48 := ⟨(RX12, TX12, 58), tyX12, rfl, inX12, by decide, lg_in (List.mem_of_getElem? (i := 1088) (by decide +kernel)) rfl, tyX12_ok, nmX12⟩
theorem fl_X12_367 : FL RX12 367 11 53 := ⟨(RX12, TX12, 58), tyX12, rfl, inX12, by decide, lg_in (List.mem_of_getElem? (i := 1093) (by decide +kernel)) rfl, tyX12_ok, nmX12⟩
theorem fl_X12_37 : FL RX12 37 11 9 := ⟨(RX12, TX12, 58), tyX12, rfl, inX12, by decide, lg_in (List.mem_of_getElem? (i := 1049) (by decide +kernel)) rfl, tyX12_ok, nmX12⟩
theorem fl_X12_40 : FL RX12 40 11 10 := ⟨(RX12, TX12, 58), tyX12, rfl, inX12, by decide, lg_in (List.mem_of_getElem? (i := 1050) (by decide +kernel)) rfl, tyX12_ok, nmX12⟩
theorem fl_X12_409 : FL RX12 409 11 57 := ⟨(RX12, TX12, 58), tyX12, rfl, inX12, by decide, lg_in (List.mem_of_getElem? (i := 1097) (by decide +kernel)) rfl, tyX12_ok, nmX12⟩
theorem fl_X12_43 : FL RX12 43 11 13 := ⟨(RX12, TX12, 58), tyX12, rfl, inX12, by decide, lg_in (List.mem_of_getElem? (i := 1053) (by decide +kernel)) rfl, tyX12_ok, nmX12⟩
theorem fl_X12_47 : FL RX12 47 11 24 := ⟨(RX12, TX12, 58), tyX12, rfl, inX12, by decide, lg_in (List.mem_of_getElem? (i := 1064) (by decide +kernel)) rfl, tyX12_ok, nmX12⟩
theorem fl_X12_50 : FL RX12 50 11 25 := ⟨(RX12, TX12, 58), tyX12, rfl, inX12, by decide, lg_in (List.mem_of_getElem? (i := 1065) (by decide +kernel)) rfl, tyX12_ok, nmX12⟩
theorem fl_X12_53 : FL RX12 53 11 26 := ⟨(RX12, TX12, 58), tyX12, rfl, inX12, by decide, lg_in (List.mem_of_getElem? (i := 1066) (by decide +kernel)) rfl, tyX12_ok, nmX12⟩
theorem fl_X12_56 : FL RX12 56 11 27 := ⟨(RX12, TX12, 58), tyX12, rfl, inX12, by decide, lg_in (List.mem_of_getElem? (i := 1067) (by decide +kernel)) rfl, tyX12_ok, nmX12⟩
theorem fl_X12_59 : FL RX12 59 11 28 := ⟨(RX12, TX12, 58), tyX12, rfl, inX12, by decide, lg_in (List.mem_of_getElem? (i := 1068) (by decide +kernel)) rfl, tyX12_ok, nmX12⟩
theorem fl_X12_62 : FL RX12 62 11 29 := ⟨(RX12, TX12, 58), tyX12, rfl, inX12, by decide, lg_in (List.mem_of_getElem? (i := 1069) (by decide +kernel)) rfl, tyX12_ok, nmX12⟩
theorem fl_X12_65 : FL RX12 65 11 30 := ⟨(RX12, TX12, 58), tyX12, rfl, inX12, by decide, lg_in (List.mem_of_getElem? (i := 1070) (by decide +kernel)) rfl, tyX12_ok, nmX12⟩
theorem fl_X12_68 : FL RX12 68 11 31 := ⟨(RX12, TX12, 58), tyX12, rfl, inX12, by decide, lg_in (List.mem_of_getElem? (i := 1071) (by decide +kernel)) rfl, tyX12_ok, nmX12⟩
theorem fl_X12_7 : FL RX12 7 11 0 := ⟨(RX12, TX12, 58), tyX12, rfl, inX12, by decide, lg_in (List.mem_of_getElem? (i := 1040) (by decide +kernel)) rfl, tyX12_ok, nmX12⟩
theorem fl_X12_71 : FL RX12 71 11 32 := ⟨(RX12, TX12, 58), tyX12, rfl, inX12, by decide, lg_in (List.mem_of_getElem? (i := 1072) (by decide +kernel)) rfl, tyX12_ok, nmX12⟩
theorem fl_X12_74 : FL RX12 74 11 33 := ⟨(RX12, TX12, 58), tyX12, rfl, inX12, by decide, lg_in (List.mem_of_getElem? (i := 1073) (by decide +kernel)) rfl, tyX12_ok, nmX12⟩
theorem fl_X12_77 : FL RX12 77 11 34 := ⟨(RX12, TX12, 58), tyX12, rfl, inX12, by decide, lg_in (List.mem_of_getElem? (i := 1074) (by decide +kernel)) rfl, tyX12_ok, nmX12⟩
theorem fl_X12_80 : FL RX12 80 11 35 := ⟨(RX12, TX12, 58), tyX12, rfl, inX12, by decide, lg_in (List.mem_of_getElem? (i := 1075) (by decide +kernel)) rfl, tyX12_ok, nmX12⟩
theorem fl_X12_83 : FL RX12 83 11 36 := ⟨(RX12, TX12, 58), tyX12, rfl, inX12, by decide, lg_in (List.mem_of_getElem? (i := 1076) (by decide +kernel)) rfl, tyX12_ok, nmX12⟩
theorem fl_X12_86 : FL RX12 86 11 37 := ⟨(RX12, TX12, 58), tyX12, rfl, inX12, by decide, lg_in (List.mem_of_getElem? (i := 1077) (by decide +kernel)) rfl, tyX12_ok, nmX12⟩
theorem fl_X12_89 : FL RX12 89 11 38 := ⟨(RX12, TX12, 58), tyX12, rfl, inX12, by decide, lg_in (List.mem_of_getElem? (i := 1078) (by decide +kernel)) rfl, tyX12_ok, nmX12⟩
theorem fl_X12_92 : FL RX12 92 11 39 := ⟨(RX12, TX12, 58), tyX12, rfl, inX12, by decide, lg_in (List.mem_of_getElem? (i := 1079) (by decide +kernel)) rfl, tyX12_ok, nmX12⟩
theorem fl_X12_95 : FL RX12 95 11 40 := ⟨(RX12, TX12, 58), tyX12, rfl, inX12, by decide, lg_in (List.mem_of_getElem? (i := 1080) (by decide +kernel)) rfl, tyX12_ok, nmX12⟩
theorem fl_X12_99 : FL RX12 99 11 50 := ⟨(RX12, TX12, 58), tyX12, rfl, inX12, by decide, lg_in (List.mem_of_getElem? (i := 1090) (by decide +kernel)) rfl, tyX12_ok, nmX12⟩
theorem fl_X2_11 : FL RX2 11 2 0 := ⟨(RX2, TX2, 9), tyX2, rfl, inX2, by decide, lg_in (List.mem_of_getElem? (i := 333) (by decide +kernel)) rfl, tyX2_ok, nmX2⟩
theorem fl_X2_15 : FL RX2 15 2 1 := ⟨(RX2, TX2, 9), tyX2, rfl, inX2, by decide, lg_in (List.mem_of_getElem? (i := 334) (by decide +kernel)) rfl, tyX2_ok, nmX2⟩
theorem fl_X2_18 : FL RX2 18 2 2 := ⟨(RX2, TX2, 9), tyX2, rfl, inX2, by decide, lg_in (List.mem_of_getElem? (i := 335) (by decide +kernel)) rfl, tyX2_ok, nmX2⟩
theorem fl_X2_21 : FL RX2 21 2 3 := ⟨(RX2, TX2, 9), tyX2, rfl, inX2, by decide, lg_in (List.mem_of_getElem? (i := 336) (by decide +kernel)) rfl, tyX2_ok, nmX2⟩
theorem fl_X2_24 : FL RX2 24 2 4 := ⟨(RX2, TX2, 9), tyX2, rfl, inX2, by decide, lg_in (List.mem_of_getElem? (i := 337) (by decide +kernel)) rfl, tyX2_ok, nmX2⟩
theorem fl_X2_27 : FL RX2 27 2 5 := ⟨(RX2, TX2, 9), tyX2, rfl, inX2, by decide, lg_in (List.mem_of_getElem? (i := 338) (by decide +kernel)) rfl, tyX2_ok, nmX2⟩
theorem fl_X2_30 : FL RX2 30 2 6 := ⟨(RX2, TX2, 9), tyX2, rfl, inX2, by decide, lg_in (List.mem_of_getElem? (i := 339) (by decide +kernel)) rfl, tyX2_ok, nmX2⟩
theorem fs_X2_33 : Cond.fieldLink RX2 33 RX2 "LETTERS" "[C" ∈ lw_g := lg_in (List.mem_of_getElem? (i := 491) (by decide +kernel)) rfl
theorem fl_X2_37 : FL RX2 37 2 7 := ⟨(RX2, TX2, 9), tyX2, rfl, inX2, by decide, lg_in (List.mem_of_getElem? (i := 340) (by decide +kernel)) rfl, tyX2_ok, nmX2⟩
theorem fl_X2_41 : FL RX2 41 2 8 := ⟨(RX2, TX2, 9), tyX2, rfl, inX2, by decide, lg_in (List.mem_of_getElem? (i := 342) (by decide +kernel)) rfl, tyX2_ok, nmX2⟩
theorem fl_X3_44 : FL RX3 44 6 2 := ⟨(RX7, TX7, 4), tyX7, rfl, inX7, by decide, lg_in (List.mem_of_getElem? (i := 143) (by decide +kernel)) rfl, tyX7_ok, nmX7⟩
theorem fl_X3_9 : FL RX3 9 3 0 := ⟨(RX3, TX3, 2), tyX3, rfl, inX3, by decide, lg_in (List.mem_of_getElem? (i := 370) (by decide +kernel)) rfl, tyX3_ok, nmX3⟩
theorem fl_X4_15 : FL RX4 15 4 2 := ⟨(RX4, TX4, 8), tyX4, rfl, inX4, by decide, lg_in (List.mem_of_getElem? (i := 185) (by decide +kernel)) rfl, tyX4_ok, nmX4⟩
theorem fl_X4_18 : FL RX4 18 4 3 := ⟨(RX4, TX4, 8), tyX4, rfl, inX4, by decide, lg_in (List.mem_of_getElem? (i := 186) (by decide +kernel)) rfl, tyX4_ok, nmX4⟩
theorem fl_X4_21 : FL RX4 21 4 4 := ⟨(RX4, TX4, 8), tyX4, rfl, inX4, by decide, lg_in (List.mem_of_getElem? (i := 187) (by decide +kernel)) rfl, tyX4_ok, nmX4⟩
theorem fl_X4_24 : FL RX4 24 4 5 := ⟨(RX4, TX4, 8), tyX4, rfl, inX4, by decide, lg_in (List.mem_of_getElem? (i := 188) (by decide +kernel)) rfl, tyX4_ok, nmX4⟩
theorem fl_X4_27 : FL RX4 27 4 0 := ⟨(RX4, TX4, 8), tyX4, rfl, inX4, by decide, lg_in (List.mem_of_getElem? (i := 183) (by decide +kernel)) rfl, tyX4_ok, nmX4⟩
theorem fl_X4_31 : FL RX4 31 4 6 := ⟨(RX4, TX4, 8), tyX4, rfl, inX4, by decide, lg_in (List.mem_of_getElem? (i := 189) (by decide +kernel)) rfl, tyX4_ok, nmX4⟩
theorem fl_X4_35 : FL RX4 35 4 7 := ⟨(RX4, TX4, 8), tyX4, rfl, inX4, by decide, lg_in (List.mem_of_getElem? (i := 191) (by decide +kernel)) rfl, tyX4_ok, nmX4⟩
theorem fl_X4_65 : FL RX4 65 6 2 := ⟨(RX7, TX7, 4), tyX7, rfl, inX7, by decide, lg_in (List.mem_of_getElem? (i := 144) (by decide +kernel)) rfl, tyX7_ok, nmX7⟩
theorem fl_X4_9 : FL RX4 9 4 1 := ⟨(RX4, TX4, 8), tyX4, rfl, inX4, by decide, lg_in (List.mem_of_getElem? (i := 184) (by decide +kernel)) rfl, tyX4_ok, nmX4⟩
theorem fl_X6_15 : FL RX6 15 5 1 := ⟨(RX6, TX6, 5), tyX6, rfl, inX6, by decide, lg_in (List.mem_of_getElem? (i := 312) (by decide +kernel)) rfl, tyX6_ok, nmX6⟩
theorem fl_X6_18 : FL RX6 18 5 2 := ⟨(RX6, TX6, 5), tyX6, rfl, inX6, by decide, lg_in (List.mem_of_getElem? (i := 313) (by decide +kernel)) rfl, tyX6_ok, nmX6⟩
theorem fl_X6_21 : FL RX6 21 5 3 := ⟨(RX6, TX6, 5), tyX6, rfl, inX6, by decide, lg_in (List.mem_of_getElem? (i := 314) (by decide +kernel)) rfl, tyX6_ok, nmX6⟩
theorem fl_X6_34 : FL RX6 34 8 3 := ⟨(RX9, TX9, 7), tyX9, rfl, inX9, by decide, lg_in (List.mem_of_getElem? (i := 262) (by decide +kernel)) rfl, tyX9_ok, nmX9⟩
theorem fl_X6_43 : FL RX6 43 5 4 := ⟨(RX6, TX6, 5), tyX6, rfl, inX6, by decide, lg_in (List.mem_of_getElem? (i := 315) (by decide +kernel)) rfl, tyX6_ok, nmX6⟩
theorem fl_X6_57 : FL RX6 57 0 3 := ⟨(RX0, TX0, 7), tyX0, rfl, inX0, by decide, lg_in (List.mem_of_getElem? (i := 224) (by decide +kernel)) rfl, tyX0_ok, nmX0⟩
theorem fl_X6_60 : FL RX6 60 0 0 := ⟨(RX0, TX0, 7), tyX0, rfl, inX0, by decide, lg_in (List.mem_of_getElem? (i := 216) (by decide +kernel)) rfl, tyX0_ok, nmX0⟩
theorem fl_X6_63 : FL RX6 63 0 1 := ⟨(RX0, TX0, 7), tyX0, rfl, inX0, by decide, lg_in (List.mem_of_getElem? (i := 219) (by decide +kernel)) rfl, tyX0_ok, nmX0⟩
theorem fs_X6_83 : Cond.fieldLink RX6 83 RX6 "CHOOSE" "[I" ∈ lw_g := lg_in (List.mem_of_getElem? (i := 831) (by decide +kernel)) rfl
theorem fl_X6_9 : FL RX6 9 5 0 := ⟨(RX6, TX6, 5), tyX6, rfl, inX6, by decide, lg_in (List.mem_of_getElem? (i := 311) (by decide +kernel)) rfl, tyX6_ok, nmX6⟩
theorem fl_X7_15 : FL RX7 15 6 1 := ⟨(RX7, TX7, 4), tyX7, rfl, inX7, by decide, lg_in (List.mem_of_getElem? (i := 141) (by decide +kernel)) rfl, tyX7_ok, nmX7⟩
theorem fl_X7_19 : FL RX7 19 6 2 := ⟨(RX7, TX7, 4), tyX7, rfl, inX7, by decide, lg_in (List.mem_of_getElem? (i := 142) (by decide +kernel)) rfl, tyX7_ok, nmX7⟩
theorem fl_X7_22 : FL RX7 22 6 3 := ⟨(RX7, TX7, 4), tyX7, rfl, inX7, by decide, lg_in (List.mem_of_getElem? (i := 146) (by decide +kernel)) rfl, tyX7_ok, nmX7⟩
theorem fl_X7_9 : FL RX7 9 6 0 := ⟨(RX7, TX7, 4), tyX7, rfl, inX7, by decide, lg_in (List.mem_of_getElem? (i := 140) (by decide +kernel)) rfl, tyX7_ok, nmX7⟩
theorem fl_X8_15 : FL RX8 15 7 1 := ⟨(RX8, TX8, 2), tyX8, rfl, inX8, by decide, lg_in (List.mem_of_getElem? (i := 126) (by decide +kernel)) rfl, tyX8_ok, nmX8⟩
theorem fl_X8_9 : FL RX8 9 7 0 := ⟨(RX8, TX8, 2), tyX8, rfl, inX8, by decide, lg_in (List.mem_of_getElem? (i := 125) (by decide +kernel)) rfl, tyX8_ok, nmX8⟩
theorem fl_X9_15 : FL RX9 15 8 1 := ⟨(RX9, TX9, 7), tyX9, rfl, inX9, by decide, lg_in (List.mem_of_getElem? (i := 257) (by decide +kernel)) rfl, tyX9_ok, nmX9⟩
theorem fl_X9_18 : FL RX9 18 8 2 := ⟨(RX9, TX9, 7), tyX9, rfl, inX9, by decide, lg_in (List.mem_of_getElem? (i := 259) (by decide +kernel)) rfl, tyX9_ok, nmX9⟩
theorem fl_X9_21 : FL RX9 21 8 3 := ⟨(RX9, TX9, 7), tyX9, rfl, inX9, by decide, lg_in (List.mem_of_getElem? (i := 261) (by decide +kernel)) rfl, tyX9_ok, nmX9⟩
theorem fl_X9_24 : FL RX9 24 8 6 := ⟨(RX9, TX9, 7), tyX9, rfl, inX9, by decide, lg_in (List.mem_of_getElem? (i := 270) (by decide +kernel)) rfl, tyX9_ok, nmX9⟩
theorem fl_X9_34 : FL RX9 34 8 4 := ⟨(RX9, TX9, 7), tyX9, rfl, inX9, by decide, lg_in (List.mem_of_getElem? (i := 265) (by decide +kernel)) rfl, tyX9_ok, nmX9⟩
theorem fl_X9_37 : FL RX9 37 8 5 := ⟨(RX9, TX9, 7), tyX9, rfl, inX9, by decide, lg_in (List.mem_of_getElem? (i := 268) (by decide +kernel)) rfl, tyX9_ok, nmX9⟩
theorem fl_X9_9 : FL RX9 9 8 0 := ⟨(RX9, TX9, 7), tyX9, rfl, inX9, by decide, lg_in (List.mem_of_getElem? (i := 254) (by decide +kernel)) rfl, tyX9_ok, nmX9⟩
theorem ml_J7_13 : Cond.methodLink RJ7 13 yJ7_rangeCheck_23922 ∈ lw_g := lg_in (List.mem_of_getElem? (i := 574) (by decide +kernel)) rfl
theorem ml_X0_38 : Cond.methodLink RX0 38 yX0_isTold ∈ lw_g := lg_in (List.mem_of_getElem? (i := 670) (by decide +kernel)) rfl
theorem ml_X0_42 : Cond.methodLink RX0 42 yX0_behind ∈ lw_g := lg_in (List.mem_of_getElem? (i := 733) (by decide +kernel)) rfl
theorem ml_X0_46 : Cond.methodLink RX0 46 yJ6_bitCount_0f7a4 ∈ lw_g := lg_in (List.mem_of_getElem? (i := 883) (by decide +kernel)) rfl
theorem ml_X0_52 : Cond.methodLink RX0 52 yX0_opensAll ∈ lw_g := lg_in (List.mem_of_getElem? (i := 884) (by decide +kernel)) rfl
theorem ml_X0_55 : Cond.methodLink RX0 55 yX0_unbarred ∈ lw_g := lg_in (List.mem_of_getElem? (i := 930) (by decide +kernel)) rfl
theorem ml_X0_59 : Cond.methodLink RX0 59 yX0_groupOf ∈ lw_g := lg_in (List.mem_of_getElem? (i := 931) (by decide +kernel)) rfl
theorem ml_X1_54 : Cond.methodLink RX1 54 yX7_isAtEnd ∈ lw_g := lg_in (List.mem_of_getElem? (i := 582) (by decide +kernel)) rfl
theorem ml_X1_57 : Cond.methodLink RX1 57 yX7_sign ∈ lw_g := lg_in (List.mem_of_getElem? (i := 583) (by decide +kernel)) rfl
theorem ml_X10_101 : Cond.methodLink RX10 101 yX9_pinsOf ∈ lw_g := lg_in (List.mem_of_getElem? (i := 702) (by decide +kernel)) rfl
theorem ml_X10_104 : Cond.methodLink RX10 104 yJ6_numberOfTrailingZeros_0f7a4 ∈ lw_g := lg_in (List.mem_of_getElem? (i := 741) (by decide +kernel)) rfl
theorem ml_X10_109 : Cond.methodLink RX10 109 yX0_behind ∈ lw_g := lg_in (List.mem_of_getElem? (i := 745) (by decide +kernel)) rfl
theorem ml_X10_112 : Cond.methodLink RX10 112 yX9_inRoom ∈ lw_g := lg_in (List.mem_of_getElem? (i := 746) (by decide +kernel)) rfl
theorem ml_X10_115 : Cond.methodLink RX10 115 yJ6_bitCount_0f7a4 ∈ lw_g := lg_in (List.mem_of_getElem? (i := 750) (by decide +kernel)) rfl
theorem ml_X10_27 : Cond.methodLink RX10 27 yX9_isTold ∈ lw_g := lg_in (List.mem_of_getElem? (i := 686) (by decide +kernel)) rfl
theorem ml_X10_31 : Cond.methodLink RX10 31 yX10_step ∈ lw_g := lg_in (List.mem_of_getElem? (i := 687) (by decide +kernel)) rfl
theorem ml_X10_35 : Cond.methodLink RX10 35 yX10_knowWoman ∈ lw_g := lg_in (List.mem_of_getElem? (i := 691) (by decide +kernel)) rfl
theorem ml_X10_39 : Cond.methodLink RX10 39 yX2_isAnyTrue ∈ lw_g := lg_in (List.mem_of_getElem? (i := 703) (by decide +kernel)) rfl
theorem ml_X10_45 : Cond.methodLink RX10 45 yX10_chooseDoor ∈ lw_g := lg_in (List.mem_of_getElem? (i := 717) (by decide +kernel)) rfl
theorem ml_X10_49 : Cond.methodLink RX10 49 yX0_isTold ∈ lw_g := lg_in (List.mem_of_getElem? (i := 766) (by decide +kernel)) rfl
theorem ml_X10_52 : Cond.methodLink RX10 52 yX10_knowDoor ∈ lw_g := lg_in (List.mem_of_getElem? (i := 737) (by decide +kernel)) rfl
theorem ml_X10_56 : Cond.methodLink RX10 56 yX2_amountOf ∈ lw_g := lg_in (List.mem_of_getElem? (i := 756) (by decide +kernel)) rfl
theorem ml_X10_63 : Cond.methodLink RX10 63 yX9_draw ∈ lw_g := lg_in (List.mem_of_getElem? (i := 767) (by decide +kernel)) rfl
theorem ml_X10_70 : Cond.methodLink RX10 70 Lib.Math.min.name ∈ lw_g := lg_in (List.mem_of_getElem? (i := 772) (by decide +kernel)) rfl
theorem ml_X10_79 : Cond.methodLink RX10 79 yX9_kindsLeft ∈ lw_g := lg_in (List.mem_of_getElem? (i := 721) (by decide +kernel)) rfl
theorem ml_X10_83 : Cond.methodLink RX10 83 yX0_unbarred ∈ lw_g := lg_in (List.mem_of_getElem? (i := 725) (by decide +kernel)) rfl
theorem ml_X10_86 : Cond.methodLink RX10 86 yX9_roomOf ∈ lw_g := lg_in (List.mem_of_getElem? (i := 698) (by decide +kernel)) rfl
theorem ml_X10_89 : Cond.methodLink RX10 89 yX0_ofRoom ∈ lw_g := lg_in (List.mem_of_getElem? (i := 729) (by decide +kernel)) rfl
theorem ml_X10_95 : Cond.methodLink RX10 95 yJ7_fill_53178 ∈ lw_g := lg_in (List.mem_of_getElem? (i := 695) (by decide +kernel)) rfl
theorem ml_X11_102 : Cond.methodLink RX11 102 yX9_put ∈ lw_g := lg_in (List.mem_of_getElem? (i := 427) (by decide +kernel)) rfl
theorem ml_X11_110 : Cond.methodLink RX11 110 yX8_add ∈ lw_g := lg_in (List.mem_of_getElem? (i := 436) (by decide +kernel)) rfl
theorem ml_X11_114 : Cond.methodLink RX11 114 yX7_open ∈ lw_g := lg_in (List.mem_of_getElem? (i := 444) (by decide +kernel)) rfl
theorem ml_X11_121 : Cond.methodLink RX11 121 yX8_clear ∈ lw_g := lg_in (List.mem_of_getElem? (i := 550) (by decide +kernel)) rfl
theorem ml_X11_124 : Cond.methodLink RX11 124 yX7_isSound ∈ lw_g := lg_in (List.mem_of_getElem? (i := 554) (by decide +kernel)) rfl
theorem ml_X11_134 : Cond.methodLink RX11 134 yX9_isTold ∈ lw_g := lg_in (List.mem_of_getElem? (i := 559) (by decide +kernel)) rfl
theorem ml_X11_148 : Cond.methodLink RX11 148 yX9_pinsOf ∈ lw_g := lg_in (List.mem_of_getElem? (i := 608) (by decide +kernel)) rfl
theorem ml_X11_155 : Cond.methodLink RX11 155 yX4_read ∈ lw_g := lg_in (List.mem_of_getElem? (i := 616) (by decide +kernel)) rfl
theorem ml_X11_157 : Cond.methodLink RX11 157 yX4_carryOut ∈ lw_g := lg_in (List.mem_of_getElem? (i := 649) (by decide +kernel)) rfl
theorem ml_X11_164 : Cond.methodLink RX11 164 yX10_go ∈ lw_g := lg_in (List.mem_of_getElem? (i := 682) (by decide +kernel)) rfl
theorem ml_X11_171 : Cond.methodLink RX11 171 yX9_pinsOfAll ∈ lw_g := lg_in (List.mem_of_getElem? (i := 777) (by decide +kernel)) rfl
theorem ml_X11_179 : Cond.methodLink RX11 179 arraycopyName ∈ lw_g := lg_in (List.mem_of_getElem? (i := 781) (by decide +kernel)) rfl
theorem ml_X11_185 : Cond.methodLink RX11 185 yX11_canBeTried ∈ lw_g := lg_in (List.mem_of_getElem? (i := 786) (by decide +kernel)) rfl
theorem ml_X11_188 : Cond.methodLink RX11 188 yX9_copy ∈ lw_g := lg_in (List.mem_of_getElem? (i := 790) (by decide +kernel)) rfl
theorem ml_X11_195 : Cond.methodLink RX11 195 yX9_roomOf ∈ lw_g := lg_in (List.mem_of_getElem? (i := 794) (by decide +kernel)) rfl
theorem ml_X11_198 : Cond.methodLink RX11 198 yX0_isTold ∈ lw_g := lg_in (List.mem_of_getElem? (i := 803) (by decide +kernel)) rfl
theorem ml_X11_220 : Cond.methodLink RX11 220 yX6_spread ∈ lw_g := lg_in (List.mem_of_getElem? (i := 812) (by decide +kernel)) rfl
theorem ml_X11_224 : Cond.methodLink RX11 224 yX6_fewestTo ∈ lw_g := lg_in (List.mem_of_getElem? (i := 842) (by decide +kernel)) rfl
theorem ml_X11_227 : Cond.methodLink RX11 227 yX6_firstDoor ∈ lw_g := lg_in (List.mem_of_getElem? (i := 846) (by decide +kernel)) rfl
theorem ml_X11_231 : Cond.methodLink RX11 231 yX6_allRooms ∈ lw_g := lg_in (List.mem_of_getElem? (i := 860) (by decide +kernel)) rfl
theorem ml_X11_234 : Cond.methodLink RX11 234 yX0_unbarred ∈ lw_g := lg_in (List.mem_of_getElem? (i := 868) (by decide +kernel)) rfl
theorem ml_X11_237 : Cond.methodLink RX11 237 yX0_ofRoom ∈ lw_g := lg_in (List.mem_of_getElem? (i := 869) (by decide +kernel)) rfl
theorem ml_X11_240 : Cond.methodLink RX11 240 yX11_mostOpened ∈ lw_g := lg_in (List.mem_of_getElem? (i := 870) (by decide +kernel)) rfl
theorem ml_X11_244 : Cond.methodLink RX11 244 yX0_fewestKinds ∈ lw_g := lg_in (List.mem_of_getElem? (i := 879) (by decide +kernel)) rfl
theorem ml_X11_247 : Cond.methodLink RX11 247 yJ6_bitCount_0f7a4 ∈ lw_g := lg_in (List.mem_of_getElem? (i := 888) (by decide +kernel)) rfl
theorem ml_X11_252 : Cond.methodLink RX11 252 yX11_areDoorsWithKinds ∈ lw_g := lg_in (List.mem_of_getElem? (i := 897) (by decide +kernel)) rfl
theorem ml_X11_255 : Cond.methodLink RX11 255 yX11_whoBent ∈ lw_g := lg_in (List.mem_of_getElem? (i := 902) (by decide +kernel)) rfl
theorem ml_X11_258 : Cond.methodLink RX11 258 yX0_groupOf ∈ lw_g := lg_in (List.mem_of_getElem? (i := 922) (by decide +kernel)) rfl
theorem ml_X11_261 : Cond.methodLink RX11 261 yX0_groups ∈ lw_g := lg_in (List.mem_of_getElem? (i := 926) (by decide +kernel)) rfl
theorem ml_X11_264 : Cond.methodLink RX11 264 yX0_onlyWays ∈ lw_g := lg_in (List.mem_of_getElem? (i := 932) (by decide +kernel)) rfl
theorem ml_X11_267 : Cond.methodLink RX11 267 yJ6_numberOfTrailingZeros_0f7a4 ∈ lw_g := lg_in (List.mem_of_getElem? (i := 936) (by decide +kernel)) rfl
theorem ml_X11_270 : Cond.methodLink RX11 270 yX5_areColours ∈ lw_g := lg_in (List.mem_of_getElem? (i := 941) (by decide +kernel)) rfl
theorem ml_X11_276 : Cond.methodLink RX11 276 yX5_howManyCurls ∈ lw_g := lg_in (List.mem_of_getElem? (i := 945) (by decide +kernel)) rfl
theorem ml_X11_280 : Cond.methodLink RX11 280 yX5_leastCurls ∈ lw_g := lg_in (List.mem_of_getElem? (i := 958) (by decide +kernel)) rfl
theorem ml_X11_283 : Cond.methodLink RX11 283 yX5_ringMoves ∈ lw_g := lg_in (List.mem_of_getElem? (i := 965) (by decide +kernel)) rfl
theorem ml_X11_286 : Cond.methodLink RX11 286 yX5_areDials ∈ lw_g := lg_in (List.mem_of_getElem? (i := 972) (by decide +kernel)) rfl
theorem ml_X11_289 : Cond.methodLink RX11 289 yX5_dialTurns ∈ lw_g := lg_in (List.mem_of_getElem? (i := 975) (by decide +kernel)) rfl
theorem ml_X11_292 : Cond.methodLink RX11 292 yX5_mostWeight ∈ lw_g := lg_in (List.mem_of_getElem? (i := 988) (by decide +kernel)) rfl
theorem ml_X11_295 : Cond.methodLink RX11 295 yX5_howManyWeigh ∈ lw_g := lg_in (List.mem_of_getElem? (i := 994) (by decide +kernel)) rfl
theorem ml_X11_299 : Cond.methodLink RX11 299 yX5_firstOfAnother ∈ lw_g := lg_in (List.mem_of_getElem? (i := 995) (by decide +kernel)) rfl
theorem ml_X11_302 : Cond.methodLink RX11 302 yX5_weekSteps ∈ lw_g := lg_in (List.mem_of_getElem? (i := 1002) (by decide +kernel)) rfl
theorem ml_X11_313 : Cond.methodLink RX11 313 yX8_at ∈ lw_g := lg_in (List.mem_of_getElem? (i := 901) (by decide +kernel)) rfl
theorem ml_X11_317 : Cond.methodLink RX11 317 yX9_inRoom ∈ lw_g := lg_in (List.mem_of_getElem? (i := 1032) (by decide +kernel)) rfl
theorem ml_X11_320 : Cond.methodLink RX11 320 Lib.Math.min.name ∈ lw_g := lg_in (List.mem_of_getElem? (i := 874) (by decide +kernel)) rfl
theorem ml_X11_325 : Cond.methodLink RX11 325 yX11_bentOf ∈ lw_g := lg_in (List.mem_of_getElem? (i := 906) (by decide +kernel)) rfl
theorem ml_X11_328 : Cond.methodLink RX11 328 yX9_whoPutUp ∈ lw_g := lg_in (List.mem_of_getElem? (i := 910) (by decide +kernel)) rfl
theorem ml_X11_98 : Cond.methodLink RX11 98 yX11_isWithin ∈ lw_g := lg_in (List.mem_of_getElem? (i := 424) (by decide +kernel)) rfl
theorem ml_X12_117 : Cond.methodLink RX12 117 yX12_in ∈ lw_g := lg_in (List.mem_of_getElem? (i := 1220) (by decide +kernel)) rfl
theorem ml_X12_125 : Cond.methodLink RX12 125 yX12_has ∈ lw_g := lg_in (List.mem_of_getElem? (i := 1377) (by decide +kernel)) rfl
theorem ml_X12_129 : Cond.methodLink RX12 129 yX12_isDoor ∈ lw_g := lg_in (List.mem_of_getElem? (i := 1373) (by decide +kernel)) rfl
theorem ml_X12_136 : Cond.methodLink RX12 136 yX12_fits ∈ lw_g := lg_in (List.mem_of_getElem? (i := 1435) (by decide +kernel)) rfl
theorem ml_X12_142 : Cond.methodLink RX12 142 yX12_types ∈ lw_g := lg_in (List.mem_of_getElem? (i := 1227) (by decide +kernel)) rfl
theorem ml_X12_152 : Cond.methodLink RX12 152 yX12_here ∈ lw_g := lg_in (List.mem_of_getElem? (i := 1243) (by decide +kernel)) rfl
theorem ml_X12_159 : Cond.methodLink RX12 159 yX12_wrongAt ∈ lw_g := lg_in (List.mem_of_getElem? (i := 1247) (by decide +kernel)) rfl
theorem ml_X12_165 : Cond.methodLink RX12 165 yX12_isDigit ∈ lw_g := lg_in (List.mem_of_getElem? (i := 1264) (by decide +kernel)) rfl
theorem ml_X12_179 : Cond.methodLink RX12 179 yX12_waitTop ∈ lw_g := lg_in (List.mem_of_getElem? (i := 1286) (by decide +kernel)) rfl
theorem ml_X12_182 : Cond.methodLink RX12 182 yX12_notes ∈ lw_g := lg_in (List.mem_of_getElem? (i := 1272) (by decide +kernel)) rfl
theorem ml_X12_186 : Cond.methodLink RX12 186 yX12_opens ∈ lw_g := lg_in (List.mem_of_getElem? (i := 1259) (by decide +kernel)) rfl
theorem ml_X12_189 : Cond.methodLink RX12 189 yX12_readsNumber ∈ lw_g := lg_in (List.mem_of_getElem? (i := 1268) (by decide +kernel)) rfl
theorem ml_X12_192 : Cond.methodLink RX12 192 yX12_factOf ∈ lw_g := lg_in (List.mem_of_getElem? (i := 1276) (by decide +kernel)) rfl
theorem ml_X12_196 : Cond.methodLink RX12 196 yX12_readsFactor ∈ lw_g := lg_in (List.mem_of_getElem? (i := 1255) (by decide +kernel)) rfl
theorem ml_X12_199 : Cond.methodLink RX12 199 yX12_sumSign ∈ lw_g := lg_in (List.mem_of_getElem? (i := 1279) (by decide +kernel)) rfl
theorem ml_X12_202 : Cond.methodLink RX12 202 yX12_closesSums ∈ lw_g := lg_in (List.mem_of_getElem? (i := 1282) (by decide +kernel)) rfl
theorem ml_X12_206 : Cond.methodLink RX12 206 yX12_hasOpenSum ∈ lw_g := lg_in (List.mem_of_getElem? (i := 1290) (by decide +kernel)) rfl
theorem ml_X12_209 : Cond.methodLink RX12 209 yX12_readsSum ∈ lw_g := lg_in (List.mem_of_getElem? (i := 1251) (by decide +kernel)) rfl
theorem ml_X12_212 : Cond.methodLink RX12 212 yX12_endsPiece ∈ lw_g := lg_in (List.mem_of_getElem? (i := 1302) (by decide +kernel)) rfl
theorem ml_X12_215 : Cond.methodLink RX12 215 yX12_readsCompared ∈ lw_g := lg_in (List.mem_of_getElem? (i := 1298) (by decide +kernel)) rfl
theorem ml_X12_218 : Cond.methodLink RX12 218 yX12_lands ∈ lw_g := lg_in (List.mem_of_getElem? (i := 1306) (by decide +kernel)) rfl
theorem ml_X12_221 : Cond.methodLink RX12 221 yX12_jumps ∈ lw_g := lg_in (List.mem_of_getElem? (i := 1310) (by decide +kernel)) rfl
theorem ml_X12_227 : Cond.methodLink RX12 227 yX12_readsCondition ∈ lw_g := lg_in (List.mem_of_getElem? (i := 1294) (by decide +kernel)) rfl
theorem ml_X12_230 : Cond.methodLink RX12 230 yX12_beginsText ∈ lw_g := lg_in (List.mem_of_getElem? (i := 1235) (by decide +kernel)) rfl
theorem ml_X12_233 : Cond.methodLink RX12 233 yX12_readsRule ∈ lw_g := lg_in (List.mem_of_getElem? (i := 1239) (by decide +kernel)) rfl
theorem ml_X12_236 : Cond.methodLink RX12 236 yX12_takes ∈ lw_g := lg_in (List.mem_of_getElem? (i := 1314) (by decide +kernel)) rfl
theorem ml_X12_242 : Cond.methodLink RX12 242 yX12_reckon ∈ lw_g := lg_in (List.mem_of_getElem? (i := 1416) (by decide +kernel)) rfl
theorem ml_X12_246 : Cond.methodLink RX12 246 yX12_reckonsTo ∈ lw_g := lg_in (List.mem_of_getElem? (i := 1412) (by decide +kernel)) rfl
theorem ml_X12_259 : Cond.methodLink RX12 259 yX12_readsTimes ∈ lw_g := lg_in (List.mem_of_getElem? (i := 1330) (by decide +kernel)) rfl
theorem ml_X12_265 : Cond.methodLink RX12 265 yX12_repeats ∈ lw_g := lg_in (List.mem_of_getElem? (i := 1334) (by decide +kernel)) rfl
theorem ml_X12_268 : Cond.methodLink RX12 268 yX12_isWoman ∈ lw_g := lg_in (List.mem_of_getElem? (i := 1322) (by decide +kernel)) rfl
theorem ml_X12_271 : Cond.methodLink RX12 271 yX12_readsPin ∈ lw_g := lg_in (List.mem_of_getElem? (i := 1326) (by decide +kernel)) rfl
theorem ml_X12_274 : Cond.methodLink RX12 274 yX12_putsUp ∈ lw_g := lg_in (List.mem_of_getElem? (i := 1338) (by decide +kernel)) rfl
theorem ml_X12_277 : Cond.methodLink RX12 277 yX12_readsWithin ∈ lw_g := lg_in (List.mem_of_getElem? (i := 1365) (by decide +kernel)) rfl
theorem ml_X12_280 : Cond.methodLink RX12 280 yX12_readsRooms ∈ lw_g := lg_in (List.mem_of_getElem? (i := 1380) (by decide +kernel)) rfl
theorem ml_X12_286 : Cond.methodLink RX12 286 yX12_readsKind ∈ lw_g := lg_in (List.mem_of_getElem? (i := 1361) (by decide +kernel)) rfl
theorem ml_X12_289 : Cond.methodLink RX12 289 yX12_readsDoor ∈ lw_g := lg_in (List.mem_of_getElem? (i := 1369) (by decide +kernel)) rfl
theorem ml_X12_298 : Cond.methodLink RX12 298 yX12_copies ∈ lw_g := lg_in (List.mem_of_getElem? (i := 1350) (by decide +kernel)) rfl
theorem ml_X12_302 : Cond.methodLink RX12 302 yX12_putsDoorsAside ∈ lw_g := lg_in (List.mem_of_getElem? (i := 1353) (by decide +kernel)) rfl
theorem ml_X12_305 : Cond.methodLink RX12 305 yX12_readsLine ∈ lw_g := lg_in (List.mem_of_getElem? (i := 1357) (by decide +kernel)) rfl
theorem ml_X12_308 : Cond.methodLink RX12 308 yX12_putsDoorsBack ∈ lw_g := lg_in (List.mem_of_getElem? (i := 1384) (by decide +kernel)) rfl
theorem ml_X12_311 : Cond.methodLink RX12 311 yX12_pinsOf ∈ lw_g := lg_in (List.mem_of_getElem? (i := 1404) (by decide +kernel)) rfl
theorem ml_X12_314 : Cond.methodLink RX12 314 yX12_feels ∈ lw_g := lg_in (List.mem_of_getElem? (i := 1400) (by decide +kernel)) rfl
theorem ml_X12_317 : Cond.methodLink RX12 317 yX12_behind ∈ lw_g := lg_in (List.mem_of_getElem? (i := 1427) (by decide +kernel)) rfl
theorem ml_X12_320 : Cond.methodLink RX12 320 yX12_kindFor ∈ lw_g := lg_in (List.mem_of_getElem? (i := 1431) (by decide +kernel)) rfl
theorem ml_X12_323 : Cond.methodLink RX12 323 yX12_womenIn ∈ lw_g := lg_in (List.mem_of_getElem? (i := 1443) (by decide +kernel)) rfl
theorem ml_X12_326 : Cond.methodLink RX12 326 yX12_bits ∈ lw_g := lg_in (List.mem_of_getElem? (i := 1447) (by decide +kernel)) rfl
theorem ml_X12_329 : Cond.methodLink RX12 329 yX12_canOpen ∈ lw_g := lg_in (List.mem_of_getElem? (i := 1423) (by decide +kernel)) rfl
theorem ml_X12_332 : Cond.methodLink RX12 332 yX12_feelsDoor ∈ lw_g := lg_in (List.mem_of_getElem? (i := 1439) (by decide +kernel)) rfl
theorem ml_X12_335 : Cond.methodLink RX12 335 yX12_byLaw ∈ lw_g := lg_in (List.mem_of_getElem? (i := 1450) (by decide +kernel)) rfl
theorem ml_X12_338 : Cond.methodLink RX12 338 yX12_holdsAny ∈ lw_g := lg_in (List.mem_of_getElem? (i := 1408) (by decide +kernel)) rfl
theorem ml_X12_341 : Cond.methodLink RX12 341 yX12_chosenBy ∈ lw_g := lg_in (List.mem_of_getElem? (i := 1419) (by decide +kernel)) rfl
theorem ml_X12_345 : Cond.methodLink RX12 345 yX12_min ∈ lw_g := lg_in (List.mem_of_getElem? (i := 1455) (by decide +kernel)) rfl
theorem ml_X12_354 : Cond.methodLink RX12 354 yX12_turnOf ∈ lw_g := lg_in (List.mem_of_getElem? (i := 1396) (by decide +kernel)) rfl
theorem ml_X12_357 : Cond.methodLink RX12 357 yX12_roundsGo ∈ lw_g := lg_in (List.mem_of_getElem? (i := 1392) (by decide +kernel)) rfl
theorem ml_X12_360 : Cond.methodLink RX12 360 yX12_fitting ∈ lw_g := lg_in (List.mem_of_getElem? (i := 1470) (by decide +kernel)) rfl
theorem ml_X12_364 : Cond.methodLink RX12 364 yX12_sevenTo ∈ lw_g := lg_in (List.mem_of_getElem? (i := 1494) (by decide +kernel)) rfl
theorem ml_X12_370 : Cond.methodLink RX12 370 yX12_goneOf ∈ lw_g := lg_in (List.mem_of_getElem? (i := 1487) (by decide +kernel)) rfl
theorem ml_X12_373 : Cond.methodLink RX12 373 yX12_goesOn ∈ lw_g := lg_in (List.mem_of_getElem? (i := 1490) (by decide +kernel)) rfl
theorem ml_X12_377 : Cond.methodLink RX12 377 yX12_laysWays ∈ lw_g := lg_in (List.mem_of_getElem? (i := 1482) (by decide +kernel)) rfl
theorem ml_X12_380 : Cond.methodLink RX12 380 yX12_clearsWays ∈ lw_g := lg_in (List.mem_of_getElem? (i := 1497) (by decide +kernel)) rfl
theorem ml_X12_384 : Cond.methodLink RX12 384 yX12_areEnough ∈ lw_g := lg_in (List.mem_of_getElem? (i := 1518) (by decide +kernel)) rfl
theorem ml_X12_387 : Cond.methodLink RX12 387 yX12_octet ∈ lw_g := lg_in (List.mem_of_getElem? (i := 1526) (by decide +kernel)) rfl
theorem ml_X12_390 : Cond.methodLink RX12 390 yX12_groupOf ∈ lw_g := lg_in (List.mem_of_getElem? (i := 1538) (by decide +kernel)) rfl
theorem ml_X12_393 : Cond.methodLink RX12 393 yX12_groups ∈ lw_g := lg_in (List.mem_of_getElem? (i := 1542) (by decide +kernel)) rfl
theorem ml_X12_396 : Cond.methodLink RX12 396 yX12_curlOf ∈ lw_g := lg_in (List.mem_of_getElem? (i := 1554) (by decide +kernel)) rfl
theorem ml_X12_399 : Cond.methodLink RX12 399 yX12_fitsGuess ∈ lw_g := lg_in (List.mem_of_getElem? (i := 1550) (by decide +kernel)) rfl
theorem ml_X12_402 : Cond.methodLink RX12 402 yX12_alikeTo ∈ lw_g := lg_in (List.mem_of_getElem? (i := 1569) (by decide +kernel)) rfl
theorem ml_X12_405 : Cond.methodLink RX12 405 yX12_size ∈ lw_g := lg_in (List.mem_of_getElem? (i := 1577) (by decide +kernel)) rfl
theorem ml_X12_413 : Cond.methodLink RX12 413 yX12_toldWomen ∈ lw_g := lg_in (List.mem_of_getElem? (i := 1601) (by decide +kernel)) rfl
theorem ml_X12_416 : Cond.methodLink RX12 416 yX12_pinsOfAll ∈ lw_g := lg_in (List.mem_of_getElem? (i := 1605) (by decide +kernel)) rfl
theorem ml_X2_48 : Cond.methodLink RX2 48 yX2_reckon ∈ lw_g := lg_in (List.mem_of_getElem? (i := 707) (by decide +kernel)) rfl
theorem ml_X2_52 : Cond.methodLink RX2 52 Lib.Math.min.name ∈ lw_g := lg_in (List.mem_of_getElem? (i := 760) (by decide +kernel)) rfl
theorem ml_X2_58 : Cond.methodLink RX2 58 Lib.Math.max.name ∈ lw_g := lg_in (List.mem_of_getElem? (i := 763) (by decide +kernel)) rfl
theorem ml_X2_61 : Cond.methodLink RX2 61 yX2_letterValue ∈ lw_g := lg_in (List.mem_of_getElem? (i := 711) (by decide +kernel)) rfl
theorem ml_X2_65 : Cond.methodLink RX2 65 yX2_joined ∈ lw_g := lg_in (List.mem_of_getElem? (i := 714) (by decide +kernel)) rfl
theorem ml_X3_48 : Cond.methodLink RX3 48 yX7_fail ∈ lw_g := lg_in (List.mem_of_getElem? (i := 472) (by decide +kernel)) rfl
theorem ml_X4_103 : Cond.methodLink RX4 103 yX0_bar ∈ lw_g := lg_in (List.mem_of_getElem? (i := 666) (by decide +kernel)) rfl
theorem ml_X4_107 : Cond.methodLink RX4 107 yX0_fitAll ∈ lw_g := lg_in (List.mem_of_getElem? (i := 674) (by decide +kernel)) rfl
theorem ml_X4_38 : Cond.methodLink RX4 38 yX7_isSound ∈ lw_g := lg_in (List.mem_of_getElem? (i := 620) (by decide +kernel)) rfl
theorem ml_X4_44 : Cond.methodLink RX4 44 yX4_readLine ∈ lw_g := lg_in (List.mem_of_getElem? (i := 621) (by decide +kernel)) rfl
theorem ml_X4_47 : Cond.methodLink RX4 47 yX7_isAtEnd ∈ lw_g := lg_in (List.mem_of_getElem? (i := 648) (by decide +kernel)) rfl
theorem ml_X4_50 : Cond.methodLink RX4 50 yX7_want ∈ lw_g := lg_in (List.mem_of_getElem? (i := 633) (by decide +kernel)) rfl
theorem ml_X4_54 : Cond.methodLink RX4 54 yX7_sign ∈ lw_g := lg_in (List.mem_of_getElem? (i := 625) (by decide +kernel)) rfl
theorem ml_X4_62 : Cond.methodLink RX4 62 yX7_isDigit ∈ lw_g := lg_in (List.mem_of_getElem? (i := 627) (by decide +kernel)) rfl
theorem ml_X4_68 : Cond.methodLink RX4 68 yX7_fail ∈ lw_g := lg_in (List.mem_of_getElem? (i := 628) (by decide +kernel)) rfl
theorem ml_X4_72 : Cond.methodLink RX4 72 yX4_readKind ∈ lw_g := lg_in (List.mem_of_getElem? (i := 629) (by decide +kernel)) rfl
theorem ml_X4_75 : Cond.methodLink RX4 75 yX4_readDoor ∈ lw_g := lg_in (List.mem_of_getElem? (i := 639) (by decide +kernel)) rfl
theorem ml_X4_78 : Cond.methodLink RX4 78 yX7_numberUpTo ∈ lw_g := lg_in (List.mem_of_getElem? (i := 634) (by decide +kernel)) rfl
theorem ml_X4_82 : Cond.methodLink RX4 82 yX7_take ∈ lw_g := lg_in (List.mem_of_getElem? (i := 643) (by decide +kernel)) rfl
theorem ml_X4_86 : Cond.methodLink RX4 86 yX4_readRooms ∈ lw_g := lg_in (List.mem_of_getElem? (i := 644) (by decide +kernel)) rfl
theorem ml_X4_89 : Cond.methodLink RX4 89 yX0_bend ∈ lw_g := lg_in (List.mem_of_getElem? (i := 653) (by decide +kernel)) rfl
theorem ml_X4_94 : Cond.methodLink RX4 94 yX0_tell ∈ lw_g := lg_in (List.mem_of_getElem? (i := 658) (by decide +kernel)) rfl
theorem ml_X4_98 : Cond.methodLink RX4 98 yX9_unrust ∈ lw_g := lg_in (List.mem_of_getElem? (i := 662) (by decide +kernel)) rfl
theorem ml_X5_11 : Cond.methodLink RX5 11 yX8_at ∈ lw_g := lg_in (List.mem_of_getElem? (i := 944) (by decide +kernel)) rfl
theorem ml_X5_17 : Cond.methodLink RX5 17 yX5_couldBe ∈ lw_g := lg_in (List.mem_of_getElem? (i := 948) (by decide +kernel)) rfl
theorem ml_X5_21 : Cond.methodLink RX5 21 yX5_rightOnes ∈ lw_g := lg_in (List.mem_of_getElem? (i := 951) (by decide +kernel)) rfl
theorem ml_X5_25 : Cond.methodLink RX5 25 yX5_sharedOnes ∈ lw_g := lg_in (List.mem_of_getElem? (i := 954) (by decide +kernel)) rfl
theorem ml_X5_28 : Cond.methodLink RX5 28 Lib.Math.min.name ∈ lw_g := lg_in (List.mem_of_getElem? (i := 957) (by decide +kernel)) rfl
theorem ml_X5_34 : Cond.methodLink RX5 34 yX5_turnsFrom ∈ lw_g := lg_in (List.mem_of_getElem? (i := 978) (by decide +kernel)) rfl
theorem ml_X5_37 : Cond.methodLink RX5 37 yJ9_floorMod_7cf53 ∈ lw_g := lg_in (List.mem_of_getElem? (i := 981) (by decide +kernel)) rfl
theorem ml_X5_40 : Cond.methodLink RX5 40 yX5_howManyWeigh ∈ lw_g := lg_in (List.mem_of_getElem? (i := 991) (by decide +kernel)) rfl
theorem ml_X5_43 : Cond.methodLink RX5 43 yX5_stepsFrom ∈ lw_g := lg_in (List.mem_of_getElem? (i := 1005) (by decide +kernel)) rfl
theorem ml_X5_46 : Cond.methodLink RX5 46 yJ9_abs_0f7a4 ∈ lw_g := lg_in (List.mem_of_getElem? (i := 1008) (by decide +kernel)) rfl
theorem ml_X6_24 : Cond.methodLink RX6 24 yX6_joinRooms ∈ lw_g := lg_in (List.mem_of_getElem? (i := 816) (by decide +kernel)) rfl
theorem ml_X6_28 : Cond.methodLink RX6 28 yX9_isTold ∈ lw_g := lg_in (List.mem_of_getElem? (i := 822) (by decide +kernel)) rfl
theorem ml_X6_37 : Cond.methodLink RX6 37 yJ7_fill_53178 ∈ lw_g := lg_in (List.mem_of_getElem? (i := 820) (by decide +kernel)) rfl
theorem ml_X6_47 : Cond.methodLink RX6 47 yX6_goOn ∈ lw_g := lg_in (List.mem_of_getElem? (i := 823) (by decide +kernel)) rfl
theorem ml_X6_51 : Cond.methodLink RX6 51 yX0_unbarred ∈ lw_g := lg_in (List.mem_of_getElem? (i := 821) (by decide +kernel)) rfl
theorem ml_X6_66 : Cond.methodLink RX6 66 yX6_placeOf ∈ lw_g := lg_in (List.mem_of_getElem? (i := 827) (by decide +kernel)) rfl
theorem ml_X6_70 : Cond.methodLink RX6 70 yX6_freeKinds ∈ lw_g := lg_in (List.mem_of_getElem? (i := 833) (by decide +kernel)) rfl
theorem ml_X6_73 : Cond.methodLink RX6 73 yX6_roomsNextTo ∈ lw_g := lg_in (List.mem_of_getElem? (i := 837) (by decide +kernel)) rfl
theorem ml_X6_78 : Cond.methodLink RX6 78 Lib.Math.min.name ∈ lw_g := lg_in (List.mem_of_getElem? (i := 830) (by decide +kernel)) rfl
theorem ml_X6_86 : Cond.methodLink RX6 86 yX0_ofRoom ∈ lw_g := lg_in (List.mem_of_getElem? (i := 850) (by decide +kernel)) rfl
theorem ml_X6_89 : Cond.methodLink RX6 89 yX6_lowestDoor ∈ lw_g := lg_in (List.mem_of_getElem? (i := 851) (by decide +kernel)) rfl
theorem ml_X6_93 : Cond.methodLink RX6 93 yX0_behind ∈ lw_g := lg_in (List.mem_of_getElem? (i := 855) (by decide +kernel)) rfl
theorem ml_X7_25 : Cond.methodLink RX7 25 yX8_at ∈ lw_g := lg_in (List.mem_of_getElem? (i := 468) (by decide +kernel)) rfl
theorem ml_X7_31 : Cond.methodLink RX7 31 yX7_sign ∈ lw_g := lg_in (List.mem_of_getElem? (i := 505) (by decide +kernel)) rfl
theorem ml_X7_39 : Cond.methodLink RX7 39 yX7_take ∈ lw_g := lg_in (List.mem_of_getElem? (i := 501) (by decide +kernel)) rfl
theorem ml_X7_43 : Cond.methodLink RX7 43 yX7_fail ∈ lw_g := lg_in (List.mem_of_getElem? (i := 506) (by decide +kernel)) rfl
theorem ml_X7_47 : Cond.methodLink RX7 47 yX7_isDigit ∈ lw_g := lg_in (List.mem_of_getElem? (i := 515) (by decide +kernel)) rfl
theorem ml_X7_51 : Cond.methodLink RX7 51 yX7_number ∈ lw_g := lg_in (List.mem_of_getElem? (i := 638) (by decide +kernel)) rfl
theorem ml_X9_28 : Cond.methodLink RX9 28 arraycopyName ∈ lw_g := lg_in (List.mem_of_getElem? (i := 607) (by decide +kernel)) rfl
theorem ml_X9_44 : Cond.methodLink RX9 44 yX9_isTold ∈ lw_g := lg_in (List.mem_of_getElem? (i := 606) (by decide +kernel)) rfl
theorem mn_X0_34 : Cond.methodLinkNest RX0 34 yX11_isWithin "HairpinLocks" ∈ nwl := List.mem_filter.mpr ⟨List.mem_of_getElem? (i := 657) (by decide +kernel), rfl⟩
theorem mn_X2_44 : Cond.methodLinkNest RX2 44 yX11_isWithin "HairpinLocks" ∈ nwl := List.mem_filter.mpr ⟨List.mem_of_getElem? (i := 541) (by decide +kernel), rfl⟩
theorem mn_X4_58 : Cond.methodLinkNest RX4 58 yX11_isWithin "HairpinLocks" ∈ nwl := List.mem_filter.mpr ⟨List.mem_of_getElem? (i := 626) (by decide +kernel), rfl⟩
theorem mn_X7_35 : Cond.methodLinkNest RX7 35 yX11_isWithin "HairpinLocks" ∈ nwl := List.mem_filter.mpr ⟨List.mem_of_getElem? (i := 519) (by decide +kernel), rfl⟩
theorem mn_X9_40 : Cond.methodLinkNest RX9 40 yX11_isWithin "HairpinLocks" ∈ nwl := List.mem_filter.mpr ⟨List.mem_of_getElem? (i := 431) (by decide +kernel), rfl⟩
theorem ct_J6_264 : Cond.constant RJ6 264 65536 ∈ lw_g := lg_in (List.mem_of_getElem? (i := 744) (by decide +kernel)) rfl
theorem ct_J6_265 : Cond.constant RJ6 265 1431655765 ∈ lw_g := lg_in (List.mem_of_getElem? (i := 753) (by decide +kernel)) rfl
theorem ct_J6_266 : Cond.constant RJ6 266 858993459 ∈ lw_g := lg_in (List.mem_of_getElem? (i := 754) (by decide +kernel)) rfl
theorem ct_J6_267 : Cond.constant RJ6 267 252645135 ∈ lw_g := lg_in (List.mem_of_getElem? (i := 755) (by decide +kernel)) rfl
theorem ct_X11_306 : Cond.constant RX11 306 65535 ∈ lw_g := lg_in (List.mem_of_getElem? (i := 1015) (by decide +kernel)) rfl
theorem ct_X12_172 : Cond.constant RX12 172 1048576 ∈ lw_g := lg_in (List.mem_of_getElem? (i := 1263) (by decide +kernel)) rfl
theorem ct_X12_344 : Cond.constant RX12 344 65536 ∈ lw_g := lg_in (List.mem_of_getElem? (i := 1454) (by decide +kernel)) rfl
theorem ct_X12_363 : Cond.constant RX12 363 117649 ∈ lw_g := lg_in (List.mem_of_getElem? (i := 1486) (by decide +kernel)) rfl
theorem ct_X12_383 : Cond.constant RX12 383 1000000 ∈ lw_g := lg_in (List.mem_of_getElem? (i := 1509) (by decide +kernel)) rfl
theorem ct_X12_408 : Cond.constant RX12 408 65535 ∈ lw_g := lg_in (List.mem_of_getElem? (i := 1584) (by decide +kernel)) rfl
theorem ct_X6_77 : Cond.constant RX6 77 262144 ∈ lw_g := lg_in (List.mem_of_getElem? (i := 841) (by decide +kernel)) rfl
theorem ct_X9_48 : Cond.constant RX9 48 65535 ∈ lw_g := lg_in (List.mem_of_getElem? (i := 771) (by decide +kernel)) rfl
theorem mv_J6_bitCount_0f7a4 : MV yJ6_bitCount_0f7a4 cJ6_bitCount_0f7a4 1 (some .int) 1 := ⟨lg_in (List.mem_of_getElem? (i := 752) (by decide +kernel)) rfl, lg_in (List.mem_of_getElem? (i := 108) (by decide +kernel)) rfl, by decide +kernel⟩
theorem ms_J6_bitCount_0f7a4 : Cond.static yJ6_bitCount_0f7a4 ∈ lw_g := lg_in (List.mem_of_getElem? (i := 751) (by decide +kernel)) rfl
theorem mv_J6_numberOfTrailingZeros_0f7a4 : MV yJ6_numberOfTrailingZeros_0f7a4 cJ6_numberOfTrailingZeros_0f7a4 2 (some .int) 1 := ⟨lg_in (List.mem_of_getElem? (i := 743) (by decide +kernel)) rfl, lg_in (List.mem_of_getElem? (i := 108) (by decide +kernel)) rfl, by decide +kernel⟩
theorem ms_J6_numberOfTrailingZeros_0f7a4 : Cond.static yJ6_numberOfTrailingZeros_0f7a4 ∈ lw_g := lg_in (List.mem_of_getElem? (i := 742) (by decide +kernel)) rfl
theorem mv_J7_fill_53178 : MV yJ7_fill_53178 cJ7_fill_53178 4 none 2 := ⟨lg_in (List.mem_of_getElem? (i := 697) (by decide +kernel)) rfl, lg_in (List.mem_of_getElem? (i := 106) (by decide +kernel)) rfl, by decide +kernel⟩
theorem ms_J7_fill_53178 : Cond.static yJ7_fill_53178 ∈ lw_g := lg_in (List.mem_of_getElem? (i := 696) (by decide +kernel)) rfl
theorem mv_J7_rangeCheck_23922 : MV yJ7_rangeCheck_23922 cJ7_rangeCheck_23922 3 none 3 := ⟨lg_in (List.mem_of_getElem? (i := 576) (by decide +kernel)) rfl, lg_in (List.mem_of_getElem? (i := 106) (by decide +kernel)) rfl, by decide +kernel⟩
theorem ms_J7_rangeCheck_23922 : Cond.static yJ7_rangeCheck_23922 ∈ lw_g := lg_in (List.mem_of_getElem? (i := 575) (by decide +kernel)) rfl
theorem mv_J9_abs_0f7a4 : MV yJ9_abs_0f7a4 cJ9_abs_0f7a4 1 (some .int) 1 := ⟨lg_in (List.mem_of_getElem? (i := 1010) (by decide +kernel)) rfl, lg_in (List.mem_of_getElem? (i := 109) (by decide +kernel)) rfl, by decide +kernel⟩
theorem ms_J9_abs_0f7a4 : Cond.static yJ9_abs_0f7a4 ∈ lw_g := lg_in (List.mem_of_getElem? (i := 1009) (by decide +kernel)) rfl
theorem mv_J9_floorMod_7cf53 : MV yJ9_floorMod_7cf53 cJ9_floorMod_7cf53 3 (some .int) 2 := ⟨lg_in (List.mem_of_getElem? (i := 983) (by decide +kernel)) rfl, lg_in (List.mem_of_getElem? (i := 109) (by decide +kernel)) rfl, by decide +kernel⟩
theorem ms_J9_floorMod_7cf53 : Cond.static yJ9_floorMod_7cf53 ∈ lw_g := lg_in (List.mem_of_getElem? (i := 982) (by decide +kernel)) rfl
theorem mv_X0_bar : MV yX0_bar cX0_bar 3 none 2 := ⟨lg_in (List.mem_of_getElem? (i := 669) (by decide +kernel)) rfl, lg_in (List.mem_of_getElem? (i := 99) (by decide +kernel)) rfl, by decide +kernel⟩
theorem mi_X0_bar : MI yX0_bar := ⟨lg_in (List.mem_of_getElem? (i := 667) (by decide +kernel)) rfl, lg_in (List.mem_of_getElem? (i := 668) (by decide +kernel)) rfl⟩
theorem mv_X0_behind : MV yX0_behind cX0_behind 3 (some .int) 2 := ⟨lg_in (List.mem_of_getElem? (i := 736) (by decide +kernel)) rfl, lg_in (List.mem_of_getElem? (i := 99) (by decide +kernel)) rfl, by decide +kernel⟩
theorem mi_X0_behind : MI yX0_behind := ⟨lg_in (List.mem_of_getElem? (i := 734) (by decide +kernel)) rfl, lg_in (List.mem_of_getElem? (i := 735) (by decide +kernel)) rfl⟩
theorem mv_X0_bend : MV yX0_bend cX0_bend 3 none 2 := ⟨lg_in (List.mem_of_getElem? (i := 656) (by decide +kernel)) rfl, lg_in (List.mem_of_getElem? (i := 99) (by decide +kernel)) rfl, by decide +kernel⟩
theorem mi_X0_bend : MI yX0_bend := ⟨lg_in (List.mem_of_getElem? (i := 654) (by decide +kernel)) rfl, lg_in (List.mem_of_getElem? (i := 655) (by decide +kernel)) rfl⟩
theorem mv_X0_fewestKinds : MV yX0_fewestKinds cX0_fewestKinds 4 (some .int) 0 := ⟨lg_in (List.mem_of_getElem? (i := 882) (by decide +kernel)) rfl, lg_in (List.mem_of_getElem? (i := 99) (by decide +kernel)) rfl, by decide +kernel⟩
theorem mi_X0_fewestKinds : MI yX0_fewestKinds := ⟨lg_in (List.mem_of_getElem? (i := 880) (by decide +kernel)) rfl, lg_in (List.mem_of_getElem? (i := 881) (by decide +kernel)) rfl⟩
theorem mv_X0_fitAll : MV yX0_fitAll cX0_fitAll 3 none 0 := ⟨lg_in (List.mem_of_getElem? (i := 677) (by decide +kernel)) rfl, lg_in (List.mem_of_getElem? (i := 99) (by decide +kernel)) rfl, by decide +kernel⟩
theorem mi_X0_fitAll : MI yX0_fitAll := ⟨lg_in (List.mem_of_getElem? (i := 675) (by decide +kernel)) rfl, lg_in (List.mem_of_getElem? (i := 676) (by decide +kernel)) rfl⟩
theorem mv_X0_groupOf : MV yX0_groupOf cX0_groupOf 8 (some .int) 2 := ⟨lg_in (List.mem_of_getElem? (i := 925) (by decide +kernel)) rfl, lg_in (List.mem_of_getElem? (i := 99) (by decide +kernel)) rfl, by decide +kernel⟩
theorem mi_X0_groupOf : MI yX0_groupOf := ⟨lg_in (List.mem_of_getElem? (i := 923) (by decide +kernel)) rfl, lg_in (List.mem_of_getElem? (i := 924) (by decide +kernel)) rfl⟩
theorem mv_X0_groups : MV yX0_groups cX0_groups 4 (some .int) 0 := ⟨lg_in (List.mem_of_getElem? (i := 929) (by decide +kernel)) rfl, lg_in (List.mem_of_getElem? (i := 99) (by decide +kernel)) rfl, by decide +kernel⟩
theorem mi_X0_groups : MI yX0_groups := ⟨lg_in (List.mem_of_getElem? (i := 927) (by decide +kernel)) rfl, lg_in (List.mem_of_getElem? (i := 928) (by decide +kernel)) rfl⟩
theorem mv_X0_isTold : MV yX0_isTold cX0_isTold 2 (some .boolean) 1 := ⟨lg_in (List.mem_of_getElem? (i := 673) (by decide +kernel)) rfl, lg_in (List.mem_of_getElem? (i := 99) (by decide +kernel)) rfl, by decide +kernel⟩
theorem mi_X0_isTold : MI yX0_isTold := ⟨lg_in (List.mem_of_getElem? (i := 671) (by decide +kernel)) rfl, lg_in (List.mem_of_getElem? (i := 672) (by decide +kernel)) rfl⟩
theorem mv_X0_ofRoom : MV yX0_ofRoom cX0_ofRoom 4 (some .int) 1 := ⟨lg_in (List.mem_of_getElem? (i := 732) (by decide +kernel)) rfl, lg_in (List.mem_of_getElem? (i := 99) (by decide +kernel)) rfl, by decide +kernel⟩
theorem mi_X0_ofRoom : MI yX0_ofRoom := ⟨lg_in (List.mem_of_getElem? (i := 730) (by decide +kernel)) rfl, lg_in (List.mem_of_getElem? (i := 731) (by decide +kernel)) rfl⟩
theorem mv_X0_onlyWays : MV yX0_onlyWays cX0_onlyWays 5 (some .int) 0 := ⟨lg_in (List.mem_of_getElem? (i := 935) (by decide +kernel)) rfl, lg_in (List.mem_of_getElem? (i := 99) (by decide +kernel)) rfl, by decide +kernel⟩
theorem mi_X0_onlyWays : MI yX0_onlyWays := ⟨lg_in (List.mem_of_getElem? (i := 933) (by decide +kernel)) rfl, lg_in (List.mem_of_getElem? (i := 934) (by decide +kernel)) rfl⟩
theorem mv_X0_opensAll : MV yX0_opensAll cX0_opensAll 3 (some .boolean) 1 := ⟨lg_in (List.mem_of_getElem? (i := 887) (by decide +kernel)) rfl, lg_in (List.mem_of_getElem? (i := 99) (by decide +kernel)) rfl, by decide +kernel⟩
theorem mi_X0_opensAll : MI yX0_opensAll := ⟨lg_in (List.mem_of_getElem? (i := 886) (by decide +kernel)) rfl, lg_in (List.mem_of_getElem? (i := 30) (by decide +kernel)) rfl⟩
theorem mv_X0_tell : MV yX0_tell cX0_tell 5 none 4 := ⟨lg_in (List.mem_of_getElem? (i := 661) (by decide +kernel)) rfl, lg_in (List.mem_of_getElem? (i := 99) (by decide +kernel)) rfl, by decide +kernel⟩
theorem mi_X0_tell : MI yX0_tell := ⟨lg_in (List.mem_of_getElem? (i := 659) (by decide +kernel)) rfl, lg_in (List.mem_of_getElem? (i := 660) (by decide +kernel)) rfl⟩
theorem mv_X0_unbarred : MV yX0_unbarred cX0_unbarred 1 (some .int) 0 := ⟨lg_in (List.mem_of_getElem? (i := 728) (by decide +kernel)) rfl, lg_in (List.mem_of_getElem? (i := 99) (by decide +kernel)) rfl, by decide +kernel⟩
theorem mi_X0_unbarred : MI yX0_unbarred := ⟨lg_in (List.mem_of_getElem? (i := 726) (by decide +kernel)) rfl, lg_in (List.mem_of_getElem? (i := 727) (by decide +kernel)) rfl⟩
theorem mv_X10_chooseDoor : MV yX10_chooseDoor cX10_chooseDoor 11 (some .int) 4 := ⟨lg_in (List.mem_of_getElem? (i := 720) (by decide +kernel)) rfl, lg_in (List.mem_of_getElem? (i := 101) (by decide +kernel)) rfl, by decide +kernel⟩
theorem mi_X10_chooseDoor : MI yX10_chooseDoor := ⟨lg_in (List.mem_of_getElem? (i := 719) (by decide +kernel)) rfl, lg_in (List.mem_of_getElem? (i := 21) (by decide +kernel)) rfl⟩
theorem mv_X10_go : MV yX10_go cX10_go 7 none 4 := ⟨lg_in (List.mem_of_getElem? (i := 685) (by decide +kernel)) rfl, lg_in (List.mem_of_getElem? (i := 101) (by decide +kernel)) rfl, by decide +kernel⟩
theorem mi_X10_go : MI yX10_go := ⟨lg_in (List.mem_of_getElem? (i := 683) (by decide +kernel)) rfl, lg_in (List.mem_of_getElem? (i := 684) (by decide +kernel)) rfl⟩
theorem mv_X10_knowDoor : MV yX10_knowDoor cX10_knowDoor 7 none 3 := ⟨lg_in (List.mem_of_getElem? (i := 740) (by decide +kernel)) rfl, lg_in (List.mem_of_getElem? (i := 101) (by decide +kernel)) rfl, by decide +kernel⟩
theorem mi_X10_knowDoor : MI yX10_knowDoor := ⟨lg_in (List.mem_of_getElem? (i := 739) (by decide +kernel)) rfl, lg_in (List.mem_of_getElem? (i := 22) (by decide +kernel)) rfl⟩
theorem mv_X10_knowWoman : MV yX10_knowWoman cX10_knowWoman 3 none 2 := ⟨lg_in (List.mem_of_getElem? (i := 694) (by decide +kernel)) rfl, lg_in (List.mem_of_getElem? (i := 101) (by decide +kernel)) rfl, by decide +kernel⟩
theorem mi_X10_knowWoman : MI yX10_knowWoman := ⟨lg_in (List.mem_of_getElem? (i := 693) (by decide +kernel)) rfl, lg_in (List.mem_of_getElem? (i := 19) (by decide +kernel)) rfl⟩
theorem mv_X10_step : MV yX10_step cX10_step 7 none 4 := ⟨lg_in (List.mem_of_getElem? (i := 690) (by decide +kernel)) rfl, lg_in (List.mem_of_getElem? (i := 101) (by decide +kernel)) rfl, by decide +kernel⟩
theorem mi_X10_step : MI yX10_step := ⟨lg_in (List.mem_of_getElem? (i := 689) (by decide +kernel)) rfl, lg_in (List.mem_of_getElem? (i := 18) (by decide +kernel)) rfl⟩
theorem mv_X11_areDoorsWithKinds : MV yX11_areDoorsWithKinds cX11_areDoorsWithKinds 3 (some .boolean) 1 := ⟨lg_in (List.mem_of_getElem? (i := 900) (by decide +kernel)) rfl, lg_in (List.mem_of_getElem? (i := 94) (by decide +kernel)) rfl, by decide +kernel⟩
theorem mi_X11_areDoorsWithKinds : MI yX11_areDoorsWithKinds := ⟨lg_in (List.mem_of_getElem? (i := 899) (by decide +kernel)) rfl, lg_in (List.mem_of_getElem? (i := 31) (by decide +kernel)) rfl⟩
theorem mv_X11_bentOf : MV yX11_bentOf cX11_bentOf 5 (some .int) 2 := ⟨lg_in (List.mem_of_getElem? (i := 909) (by decide +kernel)) rfl, lg_in (List.mem_of_getElem? (i := 94) (by decide +kernel)) rfl, by decide +kernel⟩
theorem mi_X11_bentOf : MI yX11_bentOf := ⟨lg_in (List.mem_of_getElem? (i := 908) (by decide +kernel)) rfl, lg_in (List.mem_of_getElem? (i := 33) (by decide +kernel)) rfl⟩
theorem mv_X11_canBeTried : MV yX11_canBeTried cX11_canBeTried 2 (some .boolean) 1 := ⟨lg_in (List.mem_of_getElem? (i := 789) (by decide +kernel)) rfl, lg_in (List.mem_of_getElem? (i := 94) (by decide +kernel)) rfl, by decide +kernel⟩
theorem mi_X11_canBeTried : MI yX11_canBeTried := ⟨lg_in (List.mem_of_getElem? (i := 788) (by decide +kernel)) rfl, lg_in (List.mem_of_getElem? (i := 23) (by decide +kernel)) rfl⟩
theorem mv_X11_isWithin : MV yX11_isWithin cX11_isWithin 3 (some .boolean) 3 := ⟨lg_in (List.mem_of_getElem? (i := 426) (by decide +kernel)) rfl, lg_in (List.mem_of_getElem? (i := 94) (by decide +kernel)) rfl, by decide +kernel⟩
theorem ms_X11_isWithin : Cond.static yX11_isWithin ∈ lw_g := lg_in (List.mem_of_getElem? (i := 425) (by decide +kernel)) rfl
theorem mv_X11_mostOpened : MV yX11_mostOpened cX11_mostOpened 7 (some .int) 2 := ⟨lg_in (List.mem_of_getElem? (i := 873) (by decide +kernel)) rfl, lg_in (List.mem_of_getElem? (i := 94) (by decide +kernel)) rfl, by decide +kernel⟩
theorem mi_X11_mostOpened : MI yX11_mostOpened := ⟨lg_in (List.mem_of_getElem? (i := 872) (by decide +kernel)) rfl, lg_in (List.mem_of_getElem? (i := 29) (by decide +kernel)) rfl⟩
theorem mv_X11_whoBent : MV yX11_whoBent cX11_whoBent 6 (some .int) 1 := ⟨lg_in (List.mem_of_getElem? (i := 905) (by decide +kernel)) rfl, lg_in (List.mem_of_getElem? (i := 94) (by decide +kernel)) rfl, by decide +kernel⟩
theorem mi_X11_whoBent : MI yX11_whoBent := ⟨lg_in (List.mem_of_getElem? (i := 904) (by decide +kernel)) rfl, lg_in (List.mem_of_getElem? (i := 32) (by decide +kernel)) rfl⟩
theorem mv_X12_alikeTo : MV yX12_alikeTo cX12_alikeTo 5 (some .int) 2 := ⟨lg_in (List.mem_of_getElem? (i := 1572) (by decide +kernel)) rfl, lg_in (List.mem_of_getElem? (i := 105) (by decide +kernel)) rfl, by decide +kernel⟩
theorem mi_X12_alikeTo : MI yX12_alikeTo := ⟨lg_in (List.mem_of_getElem? (i := 1571) (by decide +kernel)) rfl, lg_in (List.mem_of_getElem? (i := 90) (by decide +kernel)) rfl⟩
theorem mv_X12_areEnough : MV yX12_areEnough cX12_areEnough 3 (some .boolean) 1 := ⟨lg_in (List.mem_of_getElem? (i := 1521) (by decide +kernel)) rfl, lg_in (List.mem_of_getElem? (i := 105) (by decide +kernel)) rfl, by decide +kernel⟩
theorem mi_X12_areEnough : MI yX12_areEnough := ⟨lg_in (List.mem_of_getElem? (i := 1520) (by decide +kernel)) rfl, lg_in (List.mem_of_getElem? (i := 85) (by decide +kernel)) rfl⟩
theorem mv_X12_beginsText : MV yX12_beginsText cX12_beginsText 2 none 1 := ⟨lg_in (List.mem_of_getElem? (i := 1238) (by decide +kernel)) rfl, lg_in (List.mem_of_getElem? (i := 105) (by decide +kernel)) rfl, by decide +kernel⟩
theorem mi_X12_beginsText : MI yX12_beginsText := ⟨lg_in (List.mem_of_getElem? (i := 1237) (by decide +kernel)) rfl, lg_in (List.mem_of_getElem? (i := 35) (by decide +kernel)) rfl⟩
theorem mv_X12_behind : MV yX12_behind cX12_behind 3 (some .int) 2 := ⟨lg_in (List.mem_of_getElem? (i := 1430) (by decide +kernel)) rfl, lg_in (List.mem_of_getElem? (i := 105) (by decide +kernel)) rfl, by decide +kernel⟩
theorem mi_X12_behind : MI yX12_behind := ⟨lg_in (List.mem_of_getElem? (i := 1429) (by decide +kernel)) rfl, lg_in (List.mem_of_getElem? (i := 75) (by decide +kernel)) rfl⟩
theorem mv_X12_bits : MV yX12_bits cX12_bits 3 (some .int) 1 := ⟨lg_in (List.mem_of_getElem? (i := 1449) (by decide +kernel)) rfl, lg_in (List.mem_of_getElem? (i := 105) (by decide +kernel)) rfl, by decide +kernel⟩
theorem ms_X12_bits : Cond.static yX12_bits ∈ lw_g := lg_in (List.mem_of_getElem? (i := 1448) (by decide +kernel)) rfl
theorem mv_X12_byLaw : MV yX12_byLaw cX12_byLaw 5 (some .int) 2 := ⟨lg_in (List.mem_of_getElem? (i := 1453) (by decide +kernel)) rfl, lg_in (List.mem_of_getElem? (i := 105) (by decide +kernel)) rfl, by decide +kernel⟩
theorem mi_X12_byLaw : MI yX12_byLaw := ⟨lg_in (List.mem_of_getElem? (i := 1452) (by decide +kernel)) rfl, lg_in (List.mem_of_getElem? (i := 80) (by decide +kernel)) rfl⟩
theorem mv_X12_canOpen : MV yX12_canOpen cX12_canOpen 2 (some .boolean) 1 := ⟨lg_in (List.mem_of_getElem? (i := 1426) (by decide +kernel)) rfl, lg_in (List.mem_of_getElem? (i := 105) (by decide +kernel)) rfl, by decide +kernel⟩
theorem mi_X12_canOpen : MI yX12_canOpen := ⟨lg_in (List.mem_of_getElem? (i := 1425) (by decide +kernel)) rfl, lg_in (List.mem_of_getElem? (i := 74) (by decide +kernel)) rfl⟩
theorem mv_X12_chosenBy : MV yX12_chosenBy cX12_chosenBy 6 (some .int) 1 := ⟨lg_in (List.mem_of_getElem? (i := 1422) (by decide +kernel)) rfl, lg_in (List.mem_of_getElem? (i := 105) (by decide +kernel)) rfl, by decide +kernel⟩
theorem mi_X12_chosenBy : MI yX12_chosenBy := ⟨lg_in (List.mem_of_getElem? (i := 1421) (by decide +kernel)) rfl, lg_in (List.mem_of_getElem? (i := 73) (by decide +kernel)) rfl⟩
theorem mv_X12_clearsWays : MV yX12_clearsWays cX12_clearsWays 2 none 0 := ⟨lg_in (List.mem_of_getElem? (i := 1500) (by decide +kernel)) rfl, lg_in (List.mem_of_getElem? (i := 105) (by decide +kernel)) rfl, by decide +kernel⟩
theorem mi_X12_clearsWays : MI yX12_clearsWays := ⟨lg_in (List.mem_of_getElem? (i := 1499) (by decide +kernel)) rfl, lg_in (List.mem_of_getElem? (i := 84) (by decide +kernel)) rfl⟩
theorem mv_X12_closesSums : MV yX12_closesSums cX12_closesSums 2 none 1 := ⟨lg_in (List.mem_of_getElem? (i := 1285) (by decide +kernel)) rfl, lg_in (List.mem_of_getElem? (i := 105) (by decide +kernel)) rfl, by decide +kernel⟩
theorem mi_X12_closesSums : MI yX12_closesSums := ⟨lg_in (List.mem_of_getElem? (i := 1284) (by decide +kernel)) rfl, lg_in (List.mem_of_getElem? (i := 45) (by decide +kernel)) rfl⟩
theorem mv_X12_copies : MV yX12_copies cX12_copies 3 none 2 := ⟨lg_in (List.mem_of_getElem? (i := 1352) (by decide +kernel)) rfl, lg_in (List.mem_of_getElem? (i := 105) (by decide +kernel)) rfl, by decide +kernel⟩
theorem ms_X12_copies : Cond.static yX12_copies ∈ lw_g := lg_in (List.mem_of_getElem? (i := 1351) (by decide +kernel)) rfl
theorem mv_X12_curlOf : MV yX12_curlOf cX12_curlOf 2 (some .int) 2 := ⟨lg_in (List.mem_of_getElem? (i := 1556) (by decide +kernel)) rfl, lg_in (List.mem_of_getElem? (i := 105) (by decide +kernel)) rfl, by decide +kernel⟩
theorem ms_X12_curlOf : Cond.static yX12_curlOf ∈ lw_g := lg_in (List.mem_of_getElem? (i := 1555) (by decide +kernel)) rfl
theorem mv_X12_endsPiece : MV yX12_endsPiece cX12_endsPiece 1 none 0 := ⟨lg_in (List.mem_of_getElem? (i := 1305) (by decide +kernel)) rfl, lg_in (List.mem_of_getElem? (i := 105) (by decide +kernel)) rfl, by decide +kernel⟩
theorem mi_X12_endsPiece : MI yX12_endsPiece := ⟨lg_in (List.mem_of_getElem? (i := 1304) (by decide +kernel)) rfl, lg_in (List.mem_of_getElem? (i := 50) (by decide +kernel)) rfl⟩
theorem mv_X12_factOf : MV yX12_factOf cX12_factOf 1 (some .int) 1 := ⟨lg_in (List.mem_of_getElem? (i := 1278) (by decide +kernel)) rfl, lg_in (List.mem_of_getElem? (i := 105) (by decide +kernel)) rfl, by decide +kernel⟩
theorem ms_X12_factOf : Cond.static yX12_factOf ∈ lw_g := lg_in (List.mem_of_getElem? (i := 1277) (by decide +kernel)) rfl
theorem mv_X12_feels : MV yX12_feels cX12_feels 3 none 1 := ⟨lg_in (List.mem_of_getElem? (i := 1403) (by decide +kernel)) rfl, lg_in (List.mem_of_getElem? (i := 105) (by decide +kernel)) rfl, by decide +kernel⟩
theorem mi_X12_feels : MI yX12_feels := ⟨lg_in (List.mem_of_getElem? (i := 1402) (by decide +kernel)) rfl, lg_in (List.mem_of_getElem? (i := 69) (by decide +kernel)) rfl⟩
theorem mv_X12_feelsDoor : MV yX12_feelsDoor cX12_feelsDoor 3 none 2 := ⟨lg_in (List.mem_of_getElem? (i := 1442) (by decide +kernel)) rfl, lg_in (List.mem_of_getElem? (i := 105) (by decide +kernel)) rfl, by decide +kernel⟩
theorem mi_X12_feelsDoor : MI yX12_feelsDoor := ⟨lg_in (List.mem_of_getElem? (i := 1441) (by decide +kernel)) rfl, lg_in (List.mem_of_getElem? (i := 78) (by decide +kernel)) rfl⟩
theorem mv_X12_fits : MV yX12_fits cX12_fits 3 (some .boolean) 2 := ⟨lg_in (List.mem_of_getElem? (i := 1438) (by decide +kernel)) rfl, lg_in (List.mem_of_getElem? (i := 105) (by decide +kernel)) rfl, by decide +kernel⟩
theorem mi_X12_fits : MI yX12_fits := ⟨lg_in (List.mem_of_getElem? (i := 1437) (by decide +kernel)) rfl, lg_in (List.mem_of_getElem? (i := 77) (by decide +kernel)) rfl⟩
theorem mv_X12_fitsGuess : MV yX12_fitsGuess cX12_fitsGuess 9 (some .boolean) 2 := ⟨lg_in (List.mem_of_getElem? (i := 1553) (by decide +kernel)) rfl, lg_in (List.mem_of_getElem? (i := 105) (by decide +kernel)) rfl, by decide +kernel⟩
theorem mi_X12_fitsGuess : MI yX12_fitsGuess := ⟨lg_in (List.mem_of_getElem? (i := 1552) (by decide +kernel)) rfl, lg_in (List.mem_of_getElem? (i := 89) (by decide +kernel)) rfl⟩
theorem mv_X12_fitting : MV yX12_fitting cX12_fitting 4 (some .int) 1 := ⟨lg_in (List.mem_of_getElem? (i := 1473) (by decide +kernel)) rfl, lg_in (List.mem_of_getElem? (i := 105) (by decide +kernel)) rfl, by decide +kernel⟩
theorem mi_X12_fitting : MI yX12_fitting := ⟨lg_in (List.mem_of_getElem? (i := 1472) (by decide +kernel)) rfl, lg_in (List.mem_of_getElem? (i := 81) (by decide +kernel)) rfl⟩
theorem mv_X12_goesOn : MV yX12_goesOn cX12_goesOn 7 none 4 := ⟨lg_in (List.mem_of_getElem? (i := 1493) (by decide +kernel)) rfl, lg_in (List.mem_of_getElem? (i := 105) (by decide +kernel)) rfl, by decide +kernel⟩
theorem mi_X12_goesOn : MI yX12_goesOn := ⟨lg_in (List.mem_of_getElem? (i := 1492) (by decide +kernel)) rfl, lg_in (List.mem_of_getElem? (i := 83) (by decide +kernel)) rfl⟩
theorem mv_X12_goneOf : MV yX12_goneOf cX12_goneOf 4 (some .int) 2 := ⟨lg_in (List.mem_of_getElem? (i := 1489) (by decide +kernel)) rfl, lg_in (List.mem_of_getElem? (i := 105) (by decide +kernel)) rfl, by decide +kernel⟩
theorem ms_X12_goneOf : Cond.static yX12_goneOf ∈ lw_g := lg_in (List.mem_of_getElem? (i := 1488) (by decide +kernel)) rfl
theorem mv_X12_groupOf : MV yX12_groupOf cX12_groupOf 7 (some .int) 2 := ⟨lg_in (List.mem_of_getElem? (i := 1541) (by decide +kernel)) rfl, lg_in (List.mem_of_getElem? (i := 105) (by decide +kernel)) rfl, by decide +kernel⟩
theorem mi_X12_groupOf : MI yX12_groupOf := ⟨lg_in (List.mem_of_getElem? (i := 1540) (by decide +kernel)) rfl, lg_in (List.mem_of_getElem? (i := 87) (by decide +kernel)) rfl⟩
theorem mv_X12_groups : MV yX12_groups cX12_groups 5 (some .int) 1 := ⟨lg_in (List.mem_of_getElem? (i := 1545) (by decide +kernel)) rfl, lg_in (List.mem_of_getElem? (i := 105) (by decide +kernel)) rfl, by decide +kernel⟩
theorem mi_X12_groups : MI yX12_groups := ⟨lg_in (List.mem_of_getElem? (i := 1544) (by decide +kernel)) rfl, lg_in (List.mem_of_getElem? (i := 88) (by decide +kernel)) rfl⟩
theorem mv_X12_has : MV yX12_has cX12_has 2 (some .boolean) 2 := ⟨lg_in (List.mem_of_getElem? (i := 1379) (by decide +kernel)) rfl, lg_in (List.mem_of_getElem? (i := 105) (by decide +kernel)) rfl, by decide +kernel⟩
theorem ms_X12_has : Cond.static yX12_has ∈ lw_g := lg_in (List.mem_of_getElem? (i := 1378) (by decide +kernel)) rfl
theorem mv_X12_hasOpenSum : MV yX12_hasOpenSum cX12_hasOpenSum 3 (some .boolean) 1 := ⟨lg_in (List.mem_of_getElem? (i := 1293) (by decide +kernel)) rfl, lg_in (List.mem_of_getElem? (i := 105) (by decide +kernel)) rfl, by decide +kernel⟩
theorem mi_X12_hasOpenSum : MI yX12_hasOpenSum := ⟨lg_in (List.mem_of_getElem? (i := 1292) (by decide +kernel)) rfl, lg_in (List.mem_of_getElem? (i := 47) (by decide +kernel)) rfl⟩
theorem mv_X12_here : MV yX12_here cX12_here 1 (some .int) 0 := ⟨lg_in (List.mem_of_getElem? (i := 1246) (by decide +kernel)) rfl, lg_in (List.mem_of_getElem? (i := 105) (by decide +kernel)) rfl, by decide +kernel⟩
theorem mi_X12_here : MI yX12_here := ⟨lg_in (List.mem_of_getElem? (i := 1245) (by decide +kernel)) rfl, lg_in (List.mem_of_getElem? (i := 37) (by decide +kernel)) rfl⟩
theorem mv_X12_holdsAny : MV yX12_holdsAny cX12_holdsAny 3 (some .boolean) 1 := ⟨lg_in (List.mem_of_getElem? (i := 1411) (by decide +kernel)) rfl, lg_in (List.mem_of_getElem? (i := 105) (by decide +kernel)) rfl, by decide +kernel⟩
theorem mi_X12_holdsAny : MI yX12_holdsAny := ⟨lg_in (List.mem_of_getElem? (i := 1410) (by decide +kernel)) rfl, lg_in (List.mem_of_getElem? (i := 71) (by decide +kernel)) rfl⟩
theorem mv_X12_in : MV yX12_in cX12_in 3 (some .boolean) 3 := ⟨lg_in (List.mem_of_getElem? (i := 1222) (by decide +kernel)) rfl, lg_in (List.mem_of_getElem? (i := 105) (by decide +kernel)) rfl, by decide +kernel⟩
theorem ms_X12_in : Cond.static yX12_in ∈ lw_g := lg_in (List.mem_of_getElem? (i := 1221) (by decide +kernel)) rfl
theorem mv_X12_isDigit : MV yX12_isDigit cX12_isDigit 1 (some .boolean) 0 := ⟨lg_in (List.mem_of_getElem? (i := 1267) (by decide +kernel)) rfl, lg_in (List.mem_of_getElem? (i := 105) (by decide +kernel)) rfl, by decide +kernel⟩
theorem mi_X12_isDigit : MI yX12_isDigit := ⟨lg_in (List.mem_of_getElem? (i := 1266) (by decide +kernel)) rfl, lg_in (List.mem_of_getElem? (i := 42) (by decide +kernel)) rfl⟩
theorem mv_X12_isDoor : MV yX12_isDoor cX12_isDoor 2 (some .boolean) 1 := ⟨lg_in (List.mem_of_getElem? (i := 1376) (by decide +kernel)) rfl, lg_in (List.mem_of_getElem? (i := 105) (by decide +kernel)) rfl, by decide +kernel⟩
theorem mi_X12_isDoor : MI yX12_isDoor := ⟨lg_in (List.mem_of_getElem? (i := 1375) (by decide +kernel)) rfl, lg_in (List.mem_of_getElem? (i := 64) (by decide +kernel)) rfl⟩
theorem mv_X12_isWoman : MV yX12_isWoman cX12_isWoman 2 (some .boolean) 1 := ⟨lg_in (List.mem_of_getElem? (i := 1325) (by decide +kernel)) rfl, lg_in (List.mem_of_getElem? (i := 105) (by decide +kernel)) rfl, by decide +kernel⟩
theorem mi_X12_isWoman : MI yX12_isWoman := ⟨lg_in (List.mem_of_getElem? (i := 1324) (by decide +kernel)) rfl, lg_in (List.mem_of_getElem? (i := 54) (by decide +kernel)) rfl⟩
theorem mv_X12_jumps : MV yX12_jumps cX12_jumps 2 none 1 := ⟨lg_in (List.mem_of_getElem? (i := 1313) (by decide +kernel)) rfl, lg_in (List.mem_of_getElem? (i := 105) (by decide +kernel)) rfl, by decide +kernel⟩
theorem mi_X12_jumps : MI yX12_jumps := ⟨lg_in (List.mem_of_getElem? (i := 1312) (by decide +kernel)) rfl, lg_in (List.mem_of_getElem? (i := 52) (by decide +kernel)) rfl⟩
theorem mv_X12_kindFor : MV yX12_kindFor cX12_kindFor 4 (some .int) 2 := ⟨lg_in (List.mem_of_getElem? (i := 1434) (by decide +kernel)) rfl, lg_in (List.mem_of_getElem? (i := 105) (by decide +kernel)) rfl, by decide +kernel⟩
theorem mi_X12_kindFor : MI yX12_kindFor := ⟨lg_in (List.mem_of_getElem? (i := 1433) (by decide +kernel)) rfl, lg_in (List.mem_of_getElem? (i := 76) (by decide +kernel)) rfl⟩
theorem mv_X12_lands : MV yX12_lands cX12_lands 3 none 1 := ⟨lg_in (List.mem_of_getElem? (i := 1309) (by decide +kernel)) rfl, lg_in (List.mem_of_getElem? (i := 105) (by decide +kernel)) rfl, by decide +kernel⟩
theorem mi_X12_lands : MI yX12_lands := ⟨lg_in (List.mem_of_getElem? (i := 1308) (by decide +kernel)) rfl, lg_in (List.mem_of_getElem? (i := 51) (by decide +kernel)) rfl⟩
theorem mv_X12_laysWays : MV yX12_laysWays cX12_laysWays 7 none 1 := ⟨lg_in (List.mem_of_getElem? (i := 1485) (by decide +kernel)) rfl, lg_in (List.mem_of_getElem? (i := 105) (by decide +kernel)) rfl, by decide +kernel⟩
theorem mi_X12_laysWays : MI yX12_laysWays := ⟨lg_in (List.mem_of_getElem? (i := 1484) (by decide +kernel)) rfl, lg_in (List.mem_of_getElem? (i := 82) (by decide +kernel)) rfl⟩
theorem mv_X12_min : MV yX12_min cX12_min 2 (some .int) 2 := ⟨lg_in (List.mem_of_getElem? (i := 1457) (by decide +kernel)) rfl, lg_in (List.mem_of_getElem? (i := 105) (by decide +kernel)) rfl, by decide +kernel⟩
theorem ms_X12_min : Cond.static yX12_min ∈ lw_g := lg_in (List.mem_of_getElem? (i := 1456) (by decide +kernel)) rfl
theorem mv_X12_notes : MV yX12_notes cX12_notes 3 none 2 := ⟨lg_in (List.mem_of_getElem? (i := 1275) (by decide +kernel)) rfl, lg_in (List.mem_of_getElem? (i := 105) (by decide +kernel)) rfl, by decide +kernel⟩
theorem mi_X12_notes : MI yX12_notes := ⟨lg_in (List.mem_of_getElem? (i := 1274) (by decide +kernel)) rfl, lg_in (List.mem_of_getElem? (i := 44) (by decide +kernel)) rfl⟩
theorem mv_X12_octet : MV yX12_octet cX12_octet 2 (some .int) 1 := ⟨lg_in (List.mem_of_getElem? (i := 1529) (by decide +kernel)) rfl, lg_in (List.mem_of_getElem? (i := 105) (by decide +kernel)) rfl, by decide +kernel⟩
theorem mi_X12_octet : MI yX12_octet := ⟨lg_in (List.mem_of_getElem? (i := 1528) (by decide +kernel)) rfl, lg_in (List.mem_of_getElem? (i := 86) (by decide +kernel)) rfl⟩
theorem mv_X12_opens : MV yX12_opens cX12_opens 2 (some .boolean) 1 := ⟨lg_in (List.mem_of_getElem? (i := 1262) (by decide +kernel)) rfl, lg_in (List.mem_of_getElem? (i := 105) (by decide +kernel)) rfl, by decide +kernel⟩
theorem mi_X12_opens : MI yX12_opens := ⟨lg_in (List.mem_of_getElem? (i := 1261) (by decide +kernel)) rfl, lg_in (List.mem_of_getElem? (i := 41) (by decide +kernel)) rfl⟩
theorem mv_X12_pinsOf : MV yX12_pinsOf cX12_pinsOf 4 (some .int) 1 := ⟨lg_in (List.mem_of_getElem? (i := 1407) (by decide +kernel)) rfl, lg_in (List.mem_of_getElem? (i := 105) (by decide +kernel)) rfl, by decide +kernel⟩
theorem mi_X12_pinsOf : MI yX12_pinsOf := ⟨lg_in (List.mem_of_getElem? (i := 1406) (by decide +kernel)) rfl, lg_in (List.mem_of_getElem? (i := 70) (by decide +kernel)) rfl⟩
theorem mv_X12_pinsOfAll : MV yX12_pinsOfAll cX12_pinsOfAll 3 (some .int) 0 := ⟨lg_in (List.mem_of_getElem? (i := 1608) (by decide +kernel)) rfl, lg_in (List.mem_of_getElem? (i := 105) (by decide +kernel)) rfl, by decide +kernel⟩
theorem mi_X12_pinsOfAll : MI yX12_pinsOfAll := ⟨lg_in (List.mem_of_getElem? (i := 1607) (by decide +kernel)) rfl, lg_in (List.mem_of_getElem? (i := 92) (by decide +kernel)) rfl⟩
theorem mv_X12_putsDoorsAside : MV yX12_putsDoorsAside cX12_putsDoorsAside 2 none 0 := ⟨lg_in (List.mem_of_getElem? (i := 1356) (by decide +kernel)) rfl, lg_in (List.mem_of_getElem? (i := 105) (by decide +kernel)) rfl, by decide +kernel⟩
theorem mi_X12_putsDoorsAside : MI yX12_putsDoorsAside := ⟨lg_in (List.mem_of_getElem? (i := 1355) (by decide +kernel)) rfl, lg_in (List.mem_of_getElem? (i := 59) (by decide +kernel)) rfl⟩
theorem mv_X12_putsDoorsBack : MV yX12_putsDoorsBack cX12_putsDoorsBack 2 none 0 := ⟨lg_in (List.mem_of_getElem? (i := 1387) (by decide +kernel)) rfl, lg_in (List.mem_of_getElem? (i := 105) (by decide +kernel)) rfl, by decide +kernel⟩
theorem mi_X12_putsDoorsBack : MI yX12_putsDoorsBack := ⟨lg_in (List.mem_of_getElem? (i := 1386) (by decide +kernel)) rfl, lg_in (List.mem_of_getElem? (i := 66) (by decide +kernel)) rfl⟩
theorem mv_X12_putsUp : MV yX12_putsUp cX12_putsUp 5 (some .int) 1 := ⟨lg_in (List.mem_of_getElem? (i := 1341) (by decide +kernel)) rfl, lg_in (List.mem_of_getElem? (i := 105) (by decide +kernel)) rfl, by decide +kernel⟩
theorem mi_X12_putsUp : MI yX12_putsUp := ⟨lg_in (List.mem_of_getElem? (i := 1340) (by decide +kernel)) rfl, lg_in (List.mem_of_getElem? (i := 58) (by decide +kernel)) rfl⟩
theorem mv_X12_readsCompared : MV yX12_readsCompared cX12_readsCompared 2 (some .boolean) 0 := ⟨lg_in (List.mem_of_getElem? (i := 1301) (by decide +kernel)) rfl, lg_in (List.mem_of_getElem? (i := 105) (by decide +kernel)) rfl, by decide +kernel⟩
theorem mi_X12_readsCompared : MI yX12_readsCompared := ⟨lg_in (List.mem_of_getElem? (i := 1300) (by decide +kernel)) rfl, lg_in (List.mem_of_getElem? (i := 49) (by decide +kernel)) rfl⟩
theorem mv_X12_readsCondition : MV yX12_readsCondition cX12_readsCondition 1 (some .boolean) 0 := ⟨lg_in (List.mem_of_getElem? (i := 1297) (by decide +kernel)) rfl, lg_in (List.mem_of_getElem? (i := 105) (by decide +kernel)) rfl, by decide +kernel⟩
theorem mi_X12_readsCondition : MI yX12_readsCondition := ⟨lg_in (List.mem_of_getElem? (i := 1296) (by decide +kernel)) rfl, lg_in (List.mem_of_getElem? (i := 48) (by decide +kernel)) rfl⟩
theorem mv_X12_readsDoor : MV yX12_readsDoor cX12_readsDoor 4 (some .boolean) 0 := ⟨lg_in (List.mem_of_getElem? (i := 1372) (by decide +kernel)) rfl, lg_in (List.mem_of_getElem? (i := 105) (by decide +kernel)) rfl, by decide +kernel⟩
theorem mi_X12_readsDoor : MI yX12_readsDoor := ⟨lg_in (List.mem_of_getElem? (i := 1371) (by decide +kernel)) rfl, lg_in (List.mem_of_getElem? (i := 63) (by decide +kernel)) rfl⟩
theorem mv_X12_readsFactor : MV yX12_readsFactor cX12_readsFactor 2 (some .boolean) 0 := ⟨lg_in (List.mem_of_getElem? (i := 1258) (by decide +kernel)) rfl, lg_in (List.mem_of_getElem? (i := 105) (by decide +kernel)) rfl, by decide +kernel⟩
theorem mi_X12_readsFactor : MI yX12_readsFactor := ⟨lg_in (List.mem_of_getElem? (i := 1257) (by decide +kernel)) rfl, lg_in (List.mem_of_getElem? (i := 40) (by decide +kernel)) rfl⟩
theorem mv_X12_readsKind : MV yX12_readsKind cX12_readsKind 2 (some .boolean) 0 := ⟨lg_in (List.mem_of_getElem? (i := 1364) (by decide +kernel)) rfl, lg_in (List.mem_of_getElem? (i := 105) (by decide +kernel)) rfl, by decide +kernel⟩
theorem mi_X12_readsKind : MI yX12_readsKind := ⟨lg_in (List.mem_of_getElem? (i := 1363) (by decide +kernel)) rfl, lg_in (List.mem_of_getElem? (i := 61) (by decide +kernel)) rfl⟩
theorem mv_X12_readsLine : MV yX12_readsLine cX12_readsLine 2 (some .boolean) 0 := ⟨lg_in (List.mem_of_getElem? (i := 1360) (by decide +kernel)) rfl, lg_in (List.mem_of_getElem? (i := 105) (by decide +kernel)) rfl, by decide +kernel⟩
theorem mi_X12_readsLine : MI yX12_readsLine := ⟨lg_in (List.mem_of_getElem? (i := 1359) (by decide +kernel)) rfl, lg_in (List.mem_of_getElem? (i := 60) (by decide +kernel)) rfl⟩
theorem mv_X12_readsNumber : MV yX12_readsNumber cX12_readsNumber 2 (some .boolean) 0 := ⟨lg_in (List.mem_of_getElem? (i := 1271) (by decide +kernel)) rfl, lg_in (List.mem_of_getElem? (i := 105) (by decide +kernel)) rfl, by decide +kernel⟩
theorem mi_X12_readsNumber : MI yX12_readsNumber := ⟨lg_in (List.mem_of_getElem? (i := 1270) (by decide +kernel)) rfl, lg_in (List.mem_of_getElem? (i := 43) (by decide +kernel)) rfl⟩
theorem mv_X12_readsPin : MV yX12_readsPin cX12_readsPin 3 (some .boolean) 0 := ⟨lg_in (List.mem_of_getElem? (i := 1329) (by decide +kernel)) rfl, lg_in (List.mem_of_getElem? (i := 105) (by decide +kernel)) rfl, by decide +kernel⟩
theorem mi_X12_readsPin : MI yX12_readsPin := ⟨lg_in (List.mem_of_getElem? (i := 1328) (by decide +kernel)) rfl, lg_in (List.mem_of_getElem? (i := 55) (by decide +kernel)) rfl⟩
theorem mv_X12_readsRooms : MV yX12_readsRooms cX12_readsRooms 5 (some .boolean) 1 := ⟨lg_in (List.mem_of_getElem? (i := 1383) (by decide +kernel)) rfl, lg_in (List.mem_of_getElem? (i := 105) (by decide +kernel)) rfl, by decide +kernel⟩
theorem mi_X12_readsRooms : MI yX12_readsRooms := ⟨lg_in (List.mem_of_getElem? (i := 1382) (by decide +kernel)) rfl, lg_in (List.mem_of_getElem? (i := 65) (by decide +kernel)) rfl⟩
theorem mv_X12_readsRule : MV yX12_readsRule cX12_readsRule 2 (some .boolean) 0 := ⟨lg_in (List.mem_of_getElem? (i := 1242) (by decide +kernel)) rfl, lg_in (List.mem_of_getElem? (i := 105) (by decide +kernel)) rfl, by decide +kernel⟩
theorem mi_X12_readsRule : MI yX12_readsRule := ⟨lg_in (List.mem_of_getElem? (i := 1241) (by decide +kernel)) rfl, lg_in (List.mem_of_getElem? (i := 36) (by decide +kernel)) rfl⟩
theorem mv_X12_readsSum : MV yX12_readsSum cX12_readsSum 3 (some .boolean) 0 := ⟨lg_in (List.mem_of_getElem? (i := 1254) (by decide +kernel)) rfl, lg_in (List.mem_of_getElem? (i := 105) (by decide +kernel)) rfl, by decide +kernel⟩
theorem mi_X12_readsSum : MI yX12_readsSum := ⟨lg_in (List.mem_of_getElem? (i := 1253) (by decide +kernel)) rfl, lg_in (List.mem_of_getElem? (i := 39) (by decide +kernel)) rfl⟩
theorem mv_X12_readsTimes : MV yX12_readsTimes cX12_readsTimes 1 none 0 := ⟨lg_in (List.mem_of_getElem? (i := 1333) (by decide +kernel)) rfl, lg_in (List.mem_of_getElem? (i := 105) (by decide +kernel)) rfl, by decide +kernel⟩
theorem mi_X12_readsTimes : MI yX12_readsTimes := ⟨lg_in (List.mem_of_getElem? (i := 1332) (by decide +kernel)) rfl, lg_in (List.mem_of_getElem? (i := 56) (by decide +kernel)) rfl⟩
theorem mv_X12_readsWithin : MV yX12_readsWithin cX12_readsWithin 3 (some .boolean) 1 := ⟨lg_in (List.mem_of_getElem? (i := 1368) (by decide +kernel)) rfl, lg_in (List.mem_of_getElem? (i := 105) (by decide +kernel)) rfl, by decide +kernel⟩
theorem mi_X12_readsWithin : MI yX12_readsWithin := ⟨lg_in (List.mem_of_getElem? (i := 1367) (by decide +kernel)) rfl, lg_in (List.mem_of_getElem? (i := 62) (by decide +kernel)) rfl⟩
theorem mv_X12_reckon : MV yX12_reckon cX12_reckon 3 (some .int) 3 := ⟨lg_in (List.mem_of_getElem? (i := 1418) (by decide +kernel)) rfl, lg_in (List.mem_of_getElem? (i := 105) (by decide +kernel)) rfl, by decide +kernel⟩
theorem ms_X12_reckon : Cond.static yX12_reckon ∈ lw_g := lg_in (List.mem_of_getElem? (i := 1417) (by decide +kernel)) rfl
theorem mv_X12_reckonsTo : MV yX12_reckonsTo cX12_reckonsTo 8 (some .int) 2 := ⟨lg_in (List.mem_of_getElem? (i := 1415) (by decide +kernel)) rfl, lg_in (List.mem_of_getElem? (i := 105) (by decide +kernel)) rfl, by decide +kernel⟩
theorem mi_X12_reckonsTo : MI yX12_reckonsTo := ⟨lg_in (List.mem_of_getElem? (i := 1414) (by decide +kernel)) rfl, lg_in (List.mem_of_getElem? (i := 72) (by decide +kernel)) rfl⟩
theorem mv_X12_repeats : MV yX12_repeats cX12_repeats 6 (some .boolean) 3 := ⟨lg_in (List.mem_of_getElem? (i := 1337) (by decide +kernel)) rfl, lg_in (List.mem_of_getElem? (i := 105) (by decide +kernel)) rfl, by decide +kernel⟩
theorem mi_X12_repeats : MI yX12_repeats := ⟨lg_in (List.mem_of_getElem? (i := 1336) (by decide +kernel)) rfl, lg_in (List.mem_of_getElem? (i := 57) (by decide +kernel)) rfl⟩
theorem mv_X12_roundsGo : MV yX12_roundsGo cX12_roundsGo 4 none 1 := ⟨lg_in (List.mem_of_getElem? (i := 1395) (by decide +kernel)) rfl, lg_in (List.mem_of_getElem? (i := 105) (by decide +kernel)) rfl, by decide +kernel⟩
theorem mi_X12_roundsGo : MI yX12_roundsGo := ⟨lg_in (List.mem_of_getElem? (i := 1394) (by decide +kernel)) rfl, lg_in (List.mem_of_getElem? (i := 67) (by decide +kernel)) rfl⟩
theorem mv_X12_sevenTo : MV yX12_sevenTo cX12_sevenTo 3 (some .int) 1 := ⟨lg_in (List.mem_of_getElem? (i := 1496) (by decide +kernel)) rfl, lg_in (List.mem_of_getElem? (i := 105) (by decide +kernel)) rfl, by decide +kernel⟩
theorem ms_X12_sevenTo : Cond.static yX12_sevenTo ∈ lw_g := lg_in (List.mem_of_getElem? (i := 1495) (by decide +kernel)) rfl
theorem mv_X12_size : MV yX12_size cX12_size 1 (some .int) 1 := ⟨lg_in (List.mem_of_getElem? (i := 1579) (by decide +kernel)) rfl, lg_in (List.mem_of_getElem? (i := 105) (by decide +kernel)) rfl, by decide +kernel⟩
theorem ms_X12_size : Cond.static yX12_size ∈ lw_g := lg_in (List.mem_of_getElem? (i := 1578) (by decide +kernel)) rfl
theorem mv_X12_sumSign : MV yX12_sumSign cX12_sumSign 1 (some .int) 1 := ⟨lg_in (List.mem_of_getElem? (i := 1281) (by decide +kernel)) rfl, lg_in (List.mem_of_getElem? (i := 105) (by decide +kernel)) rfl, by decide +kernel⟩
theorem ms_X12_sumSign : Cond.static yX12_sumSign ∈ lw_g := lg_in (List.mem_of_getElem? (i := 1280) (by decide +kernel)) rfl
theorem mv_X12_takes : MV yX12_takes cX12_takes 2 (some .boolean) 1 := ⟨lg_in (List.mem_of_getElem? (i := 1317) (by decide +kernel)) rfl, lg_in (List.mem_of_getElem? (i := 105) (by decide +kernel)) rfl, by decide +kernel⟩
theorem mi_X12_takes : MI yX12_takes := ⟨lg_in (List.mem_of_getElem? (i := 1316) (by decide +kernel)) rfl, lg_in (List.mem_of_getElem? (i := 53) (by decide +kernel)) rfl⟩
theorem mv_X12_toldWomen : MV yX12_toldWomen cX12_toldWomen 3 (some .int) 0 := ⟨lg_in (List.mem_of_getElem? (i := 1604) (by decide +kernel)) rfl, lg_in (List.mem_of_getElem? (i := 105) (by decide +kernel)) rfl, by decide +kernel⟩
theorem mi_X12_toldWomen : MI yX12_toldWomen := ⟨lg_in (List.mem_of_getElem? (i := 1603) (by decide +kernel)) rfl, lg_in (List.mem_of_getElem? (i := 91) (by decide +kernel)) rfl⟩
theorem mv_X12_turnOf : MV yX12_turnOf cX12_turnOf 5 none 1 := ⟨lg_in (List.mem_of_getElem? (i := 1399) (by decide +kernel)) rfl, lg_in (List.mem_of_getElem? (i := 105) (by decide +kernel)) rfl, by decide +kernel⟩
theorem mi_X12_turnOf : MI yX12_turnOf := ⟨lg_in (List.mem_of_getElem? (i := 1398) (by decide +kernel)) rfl, lg_in (List.mem_of_getElem? (i := 68) (by decide +kernel)) rfl⟩
theorem mv_X12_types : MV yX12_types cX12_types 3 none 1 := ⟨lg_in (List.mem_of_getElem? (i := 1230) (by decide +kernel)) rfl, lg_in (List.mem_of_getElem? (i := 105) (by decide +kernel)) rfl, by decide +kernel⟩
theorem mi_X12_types : MI yX12_types := ⟨lg_in (List.mem_of_getElem? (i := 1229) (by decide +kernel)) rfl, lg_in (List.mem_of_getElem? (i := 34) (by decide +kernel)) rfl⟩
theorem mv_X12_waitTop : MV yX12_waitTop cX12_waitTop 1 (some .int) 0 := ⟨lg_in (List.mem_of_getElem? (i := 1289) (by decide +kernel)) rfl, lg_in (List.mem_of_getElem? (i := 105) (by decide +kernel)) rfl, by decide +kernel⟩
theorem mi_X12_waitTop : MI yX12_waitTop := ⟨lg_in (List.mem_of_getElem? (i := 1288) (by decide +kernel)) rfl, lg_in (List.mem_of_getElem? (i := 46) (by decide +kernel)) rfl⟩
theorem mv_X12_womenIn : MV yX12_womenIn cX12_womenIn 4 (some .int) 1 := ⟨lg_in (List.mem_of_getElem? (i := 1446) (by decide +kernel)) rfl, lg_in (List.mem_of_getElem? (i := 105) (by decide +kernel)) rfl, by decide +kernel⟩
theorem mi_X12_womenIn : MI yX12_womenIn := ⟨lg_in (List.mem_of_getElem? (i := 1445) (by decide +kernel)) rfl, lg_in (List.mem_of_getElem? (i := 79) (by decide +kernel)) rfl⟩
theorem mv_X12_wrongAt : MV yX12_wrongAt cX12_wrongAt 3 (some .boolean) 2 := ⟨lg_in (List.mem_of_getElem? (i := 1250) (by decide +kernel)) rfl, lg_in (List.mem_of_getElem? (i := 105) (by decide +kernel)) rfl, by decide +kernel⟩
theorem mi_X12_wrongAt : MI yX12_wrongAt := ⟨lg_in (List.mem_of_getElem? (i := 1249) (by decide +kernel)) rfl, lg_in (List.mem_of_getElem? (i := 38) (by decide +kernel)) rfl⟩
theorem mv_X2_amountOf : MV yX2_amountOf cX2_amountOf 6 (some .int) 3 := ⟨lg_in (List.mem_of_getElem? (i := 759) (by decide +kernel)) rfl, lg_in (List.mem_of_getElem? (i := 103) (by decide +kernel)) rfl, by decide +kernel⟩
theorem mi_X2_amountOf : MI yX2_amountOf := ⟨lg_in (List.mem_of_getElem? (i := 757) (by decide +kernel)) rfl, lg_in (List.mem_of_getElem? (i := 758) (by decide +kernel)) rfl⟩
theorem mv_X2_isAnyTrue : MV yX2_isAnyTrue cX2_isAnyTrue 4 (some .boolean) 2 := ⟨lg_in (List.mem_of_getElem? (i := 706) (by decide +kernel)) rfl, lg_in (List.mem_of_getElem? (i := 103) (by decide +kernel)) rfl, by decide +kernel⟩
theorem mi_X2_isAnyTrue : MI yX2_isAnyTrue := ⟨lg_in (List.mem_of_getElem? (i := 704) (by decide +kernel)) rfl, lg_in (List.mem_of_getElem? (i := 705) (by decide +kernel)) rfl⟩
theorem mv_X2_joined : MV yX2_joined cX2_joined 3 (some .int) 3 := ⟨lg_in (List.mem_of_getElem? (i := 716) (by decide +kernel)) rfl, lg_in (List.mem_of_getElem? (i := 103) (by decide +kernel)) rfl, by decide +kernel⟩
theorem ms_X2_joined : Cond.static yX2_joined ∈ lw_g := lg_in (List.mem_of_getElem? (i := 715) (by decide +kernel)) rfl
theorem mv_X2_letterValue : MV yX2_letterValue cX2_letterValue 2 (some .int) 2 := ⟨lg_in (List.mem_of_getElem? (i := 713) (by decide +kernel)) rfl, lg_in (List.mem_of_getElem? (i := 103) (by decide +kernel)) rfl, by decide +kernel⟩
theorem ms_X2_letterValue : Cond.static yX2_letterValue ∈ lw_g := lg_in (List.mem_of_getElem? (i := 712) (by decide +kernel)) rfl
theorem mv_X2_reckon : MV yX2_reckon cX2_reckon 11 (some .int) 3 := ⟨lg_in (List.mem_of_getElem? (i := 710) (by decide +kernel)) rfl, lg_in (List.mem_of_getElem? (i := 103) (by decide +kernel)) rfl, by decide +kernel⟩
theorem mi_X2_reckon : MI yX2_reckon := ⟨lg_in (List.mem_of_getElem? (i := 709) (by decide +kernel)) rfl, lg_in (List.mem_of_getElem? (i := 20) (by decide +kernel)) rfl⟩
theorem mv_X4_carryOut : MV yX4_carryOut cX4_carryOut 5 none 2 := ⟨lg_in (List.mem_of_getElem? (i := 652) (by decide +kernel)) rfl, lg_in (List.mem_of_getElem? (i := 98) (by decide +kernel)) rfl, by decide +kernel⟩
theorem mi_X4_carryOut : MI yX4_carryOut := ⟨lg_in (List.mem_of_getElem? (i := 650) (by decide +kernel)) rfl, lg_in (List.mem_of_getElem? (i := 651) (by decide +kernel)) rfl⟩
theorem mv_X4_read : MV yX4_read cX4_read 3 none 1 := ⟨lg_in (List.mem_of_getElem? (i := 619) (by decide +kernel)) rfl, lg_in (List.mem_of_getElem? (i := 98) (by decide +kernel)) rfl, by decide +kernel⟩
theorem mi_X4_read : MI yX4_read := ⟨lg_in (List.mem_of_getElem? (i := 617) (by decide +kernel)) rfl, lg_in (List.mem_of_getElem? (i := 618) (by decide +kernel)) rfl⟩
theorem mv_X4_readDoor : MV yX4_readDoor cX4_readDoor 3 none 0 := ⟨lg_in (List.mem_of_getElem? (i := 642) (by decide +kernel)) rfl, lg_in (List.mem_of_getElem? (i := 98) (by decide +kernel)) rfl, by decide +kernel⟩
theorem mi_X4_readDoor : MI yX4_readDoor := ⟨lg_in (List.mem_of_getElem? (i := 641) (by decide +kernel)) rfl, lg_in (List.mem_of_getElem? (i := 16) (by decide +kernel)) rfl⟩
theorem mv_X4_readKind : MV yX4_readKind cX4_readKind 1 none 0 := ⟨lg_in (List.mem_of_getElem? (i := 632) (by decide +kernel)) rfl, lg_in (List.mem_of_getElem? (i := 98) (by decide +kernel)) rfl, by decide +kernel⟩
theorem mi_X4_readKind : MI yX4_readKind := ⟨lg_in (List.mem_of_getElem? (i := 631) (by decide +kernel)) rfl, lg_in (List.mem_of_getElem? (i := 15) (by decide +kernel)) rfl⟩
theorem mv_X4_readLine : MV yX4_readLine cX4_readLine 2 none 0 := ⟨lg_in (List.mem_of_getElem? (i := 624) (by decide +kernel)) rfl, lg_in (List.mem_of_getElem? (i := 98) (by decide +kernel)) rfl, by decide +kernel⟩
theorem mi_X4_readLine : MI yX4_readLine := ⟨lg_in (List.mem_of_getElem? (i := 623) (by decide +kernel)) rfl, lg_in (List.mem_of_getElem? (i := 14) (by decide +kernel)) rfl⟩
theorem mv_X4_readRooms : MV yX4_readRooms cX4_readRooms 2 none 0 := ⟨lg_in (List.mem_of_getElem? (i := 647) (by decide +kernel)) rfl, lg_in (List.mem_of_getElem? (i := 98) (by decide +kernel)) rfl, by decide +kernel⟩
theorem mi_X4_readRooms : MI yX4_readRooms := ⟨lg_in (List.mem_of_getElem? (i := 646) (by decide +kernel)) rfl, lg_in (List.mem_of_getElem? (i := 17) (by decide +kernel)) rfl⟩
theorem mv_X5_areColours : MV yX5_areColours cX5_areColours 4 (some .boolean) 2 := ⟨lg_in (List.mem_of_getElem? (i := 943) (by decide +kernel)) rfl, lg_in (List.mem_of_getElem? (i := 110) (by decide +kernel)) rfl, by decide +kernel⟩
theorem ms_X5_areColours : Cond.static yX5_areColours ∈ lw_g := lg_in (List.mem_of_getElem? (i := 942) (by decide +kernel)) rfl
theorem mv_X5_areDials : MV yX5_areDials cX5_areDials 3 (some .boolean) 2 := ⟨lg_in (List.mem_of_getElem? (i := 974) (by decide +kernel)) rfl, lg_in (List.mem_of_getElem? (i := 110) (by decide +kernel)) rfl, by decide +kernel⟩
theorem ms_X5_areDials : Cond.static yX5_areDials ∈ lw_g := lg_in (List.mem_of_getElem? (i := 973) (by decide +kernel)) rfl
theorem mv_X5_couldBe : MV yX5_couldBe cX5_couldBe 7 (some .boolean) 3 := ⟨lg_in (List.mem_of_getElem? (i := 950) (by decide +kernel)) rfl, lg_in (List.mem_of_getElem? (i := 110) (by decide +kernel)) rfl, by decide +kernel⟩
theorem ms_X5_couldBe : Cond.static yX5_couldBe ∈ lw_g := lg_in (List.mem_of_getElem? (i := 949) (by decide +kernel)) rfl
theorem mv_X5_dialTurns : MV yX5_dialTurns cX5_dialTurns 5 (some .int) 2 := ⟨lg_in (List.mem_of_getElem? (i := 977) (by decide +kernel)) rfl, lg_in (List.mem_of_getElem? (i := 110) (by decide +kernel)) rfl, by decide +kernel⟩
theorem ms_X5_dialTurns : Cond.static yX5_dialTurns ∈ lw_g := lg_in (List.mem_of_getElem? (i := 976) (by decide +kernel)) rfl
theorem mv_X5_firstOfAnother : MV yX5_firstOfAnother cX5_firstOfAnother 4 (some .int) 3 := ⟨lg_in (List.mem_of_getElem? (i := 997) (by decide +kernel)) rfl, lg_in (List.mem_of_getElem? (i := 110) (by decide +kernel)) rfl, by decide +kernel⟩
theorem ms_X5_firstOfAnother : Cond.static yX5_firstOfAnother ∈ lw_g := lg_in (List.mem_of_getElem? (i := 996) (by decide +kernel)) rfl
theorem mv_X5_howManyCurls : MV yX5_howManyCurls cX5_howManyCurls 4 (some .int) 2 := ⟨lg_in (List.mem_of_getElem? (i := 947) (by decide +kernel)) rfl, lg_in (List.mem_of_getElem? (i := 110) (by decide +kernel)) rfl, by decide +kernel⟩
theorem ms_X5_howManyCurls : Cond.static yX5_howManyCurls ∈ lw_g := lg_in (List.mem_of_getElem? (i := 946) (by decide +kernel)) rfl
theorem mv_X5_howManyWeigh : MV yX5_howManyWeigh cX5_howManyWeigh 5 (some .int) 3 := ⟨lg_in (List.mem_of_getElem? (i := 993) (by decide +kernel)) rfl, lg_in (List.mem_of_getElem? (i := 110) (by decide +kernel)) rfl, by decide +kernel⟩
theorem ms_X5_howManyWeigh : Cond.static yX5_howManyWeigh ∈ lw_g := lg_in (List.mem_of_getElem? (i := 992) (by decide +kernel)) rfl
theorem mv_X5_leastCurls : MV yX5_leastCurls cX5_leastCurls 3 (some .int) 2 := ⟨lg_in (List.mem_of_getElem? (i := 960) (by decide +kernel)) rfl, lg_in (List.mem_of_getElem? (i := 110) (by decide +kernel)) rfl, by decide +kernel⟩
theorem ms_X5_leastCurls : Cond.static yX5_leastCurls ∈ lw_g := lg_in (List.mem_of_getElem? (i := 959) (by decide +kernel)) rfl
theorem mv_X5_mostWeight : MV yX5_mostWeight cX5_mostWeight 7 (some .int) 2 := ⟨lg_in (List.mem_of_getElem? (i := 990) (by decide +kernel)) rfl, lg_in (List.mem_of_getElem? (i := 110) (by decide +kernel)) rfl, by decide +kernel⟩
theorem ms_X5_mostWeight : Cond.static yX5_mostWeight ∈ lw_g := lg_in (List.mem_of_getElem? (i := 989) (by decide +kernel)) rfl
theorem mv_X5_rightOnes : MV yX5_rightOnes cX5_rightOnes 6 (some .int) 3 := ⟨lg_in (List.mem_of_getElem? (i := 953) (by decide +kernel)) rfl, lg_in (List.mem_of_getElem? (i := 110) (by decide +kernel)) rfl, by decide +kernel⟩
theorem ms_X5_rightOnes : Cond.static yX5_rightOnes ∈ lw_g := lg_in (List.mem_of_getElem? (i := 952) (by decide +kernel)) rfl
theorem mv_X5_ringMoves : MV yX5_ringMoves cX5_ringMoves 3 (some .int) 1 := ⟨lg_in (List.mem_of_getElem? (i := 967) (by decide +kernel)) rfl, lg_in (List.mem_of_getElem? (i := 110) (by decide +kernel)) rfl, by decide +kernel⟩
theorem ms_X5_ringMoves : Cond.static yX5_ringMoves ∈ lw_g := lg_in (List.mem_of_getElem? (i := 966) (by decide +kernel)) rfl
theorem mv_X5_sharedOnes : MV yX5_sharedOnes cX5_sharedOnes 8 (some .int) 3 := ⟨lg_in (List.mem_of_getElem? (i := 956) (by decide +kernel)) rfl, lg_in (List.mem_of_getElem? (i := 110) (by decide +kernel)) rfl, by decide +kernel⟩
theorem ms_X5_sharedOnes : Cond.static yX5_sharedOnes ∈ lw_g := lg_in (List.mem_of_getElem? (i := 955) (by decide +kernel)) rfl
theorem mv_X5_stepsFrom : MV yX5_stepsFrom cX5_stepsFrom 6 (some .int) 3 := ⟨lg_in (List.mem_of_getElem? (i := 1007) (by decide +kernel)) rfl, lg_in (List.mem_of_getElem? (i := 110) (by decide +kernel)) rfl, by decide +kernel⟩
theorem ms_X5_stepsFrom : Cond.static yX5_stepsFrom ∈ lw_g := lg_in (List.mem_of_getElem? (i := 1006) (by decide +kernel)) rfl
theorem mv_X5_turnsFrom : MV yX5_turnsFrom cX5_turnsFrom 8 (some .int) 3 := ⟨lg_in (List.mem_of_getElem? (i := 980) (by decide +kernel)) rfl, lg_in (List.mem_of_getElem? (i := 110) (by decide +kernel)) rfl, by decide +kernel⟩
theorem ms_X5_turnsFrom : Cond.static yX5_turnsFrom ∈ lw_g := lg_in (List.mem_of_getElem? (i := 979) (by decide +kernel)) rfl
theorem mv_X5_weekSteps : MV yX5_weekSteps cX5_weekSteps 5 (some .int) 1 := ⟨lg_in (List.mem_of_getElem? (i := 1004) (by decide +kernel)) rfl, lg_in (List.mem_of_getElem? (i := 110) (by decide +kernel)) rfl, by decide +kernel⟩
theorem ms_X5_weekSteps : Cond.static yX5_weekSteps ∈ lw_g := lg_in (List.mem_of_getElem? (i := 1003) (by decide +kernel)) rfl
theorem mv_X6_allRooms : MV yX6_allRooms cX6_allRooms 3 (some .int) 0 := ⟨lg_in (List.mem_of_getElem? (i := 863) (by decide +kernel)) rfl, lg_in (List.mem_of_getElem? (i := 102) (by decide +kernel)) rfl, by decide +kernel⟩
theorem mi_X6_allRooms : MI yX6_allRooms := ⟨lg_in (List.mem_of_getElem? (i := 861) (by decide +kernel)) rfl, lg_in (List.mem_of_getElem? (i := 862) (by decide +kernel)) rfl⟩
theorem mv_X6_fewestTo : MV yX6_fewestTo cX6_fewestTo 3 (some .int) 1 := ⟨lg_in (List.mem_of_getElem? (i := 845) (by decide +kernel)) rfl, lg_in (List.mem_of_getElem? (i := 102) (by decide +kernel)) rfl, by decide +kernel⟩
theorem mi_X6_fewestTo : MI yX6_fewestTo := ⟨lg_in (List.mem_of_getElem? (i := 843) (by decide +kernel)) rfl, lg_in (List.mem_of_getElem? (i := 844) (by decide +kernel)) rfl⟩
theorem mv_X6_firstDoor : MV yX6_firstDoor cX6_firstDoor 7 (some .int) 3 := ⟨lg_in (List.mem_of_getElem? (i := 849) (by decide +kernel)) rfl, lg_in (List.mem_of_getElem? (i := 102) (by decide +kernel)) rfl, by decide +kernel⟩
theorem mi_X6_firstDoor : MI yX6_firstDoor := ⟨lg_in (List.mem_of_getElem? (i := 847) (by decide +kernel)) rfl, lg_in (List.mem_of_getElem? (i := 848) (by decide +kernel)) rfl⟩
theorem mv_X6_freeKinds : MV yX6_freeKinds cX6_freeKinds 4 (some .int) 1 := ⟨lg_in (List.mem_of_getElem? (i := 836) (by decide +kernel)) rfl, lg_in (List.mem_of_getElem? (i := 102) (by decide +kernel)) rfl, by decide +kernel⟩
theorem mi_X6_freeKinds : MI yX6_freeKinds := ⟨lg_in (List.mem_of_getElem? (i := 835) (by decide +kernel)) rfl, lg_in (List.mem_of_getElem? (i := 26) (by decide +kernel)) rfl⟩
theorem mv_X6_goOn : MV yX6_goOn cX6_goOn 8 none 1 := ⟨lg_in (List.mem_of_getElem? (i := 826) (by decide +kernel)) rfl, lg_in (List.mem_of_getElem? (i := 102) (by decide +kernel)) rfl, by decide +kernel⟩
theorem mi_X6_goOn : MI yX6_goOn := ⟨lg_in (List.mem_of_getElem? (i := 825) (by decide +kernel)) rfl, lg_in (List.mem_of_getElem? (i := 25) (by decide +kernel)) rfl⟩
theorem mv_X6_joinRooms : MV yX6_joinRooms cX6_joinRooms 5 none 1 := ⟨lg_in (List.mem_of_getElem? (i := 819) (by decide +kernel)) rfl, lg_in (List.mem_of_getElem? (i := 102) (by decide +kernel)) rfl, by decide +kernel⟩
theorem mi_X6_joinRooms : MI yX6_joinRooms := ⟨lg_in (List.mem_of_getElem? (i := 818) (by decide +kernel)) rfl, lg_in (List.mem_of_getElem? (i := 24) (by decide +kernel)) rfl⟩
theorem mv_X6_lowestDoor : MV yX6_lowestDoor cX6_lowestDoor 8 (some .int) 4 := ⟨lg_in (List.mem_of_getElem? (i := 854) (by decide +kernel)) rfl, lg_in (List.mem_of_getElem? (i := 102) (by decide +kernel)) rfl, by decide +kernel⟩
theorem mi_X6_lowestDoor : MI yX6_lowestDoor := ⟨lg_in (List.mem_of_getElem? (i := 853) (by decide +kernel)) rfl, lg_in (List.mem_of_getElem? (i := 28) (by decide +kernel)) rfl⟩
theorem mv_X6_placeOf : MV yX6_placeOf cX6_placeOf 5 (some .int) 1 := ⟨lg_in (List.mem_of_getElem? (i := 829) (by decide +kernel)) rfl, lg_in (List.mem_of_getElem? (i := 102) (by decide +kernel)) rfl, by decide +kernel⟩
theorem ms_X6_placeOf : Cond.static yX6_placeOf ∈ lw_g := lg_in (List.mem_of_getElem? (i := 828) (by decide +kernel)) rfl
theorem mv_X6_roomsNextTo : MV yX6_roomsNextTo cX6_roomsNextTo 5 (some .int) 2 := ⟨lg_in (List.mem_of_getElem? (i := 840) (by decide +kernel)) rfl, lg_in (List.mem_of_getElem? (i := 102) (by decide +kernel)) rfl, by decide +kernel⟩
theorem mi_X6_roomsNextTo : MI yX6_roomsNextTo := ⟨lg_in (List.mem_of_getElem? (i := 839) (by decide +kernel)) rfl, lg_in (List.mem_of_getElem? (i := 27) (by decide +kernel)) rfl⟩
theorem mv_X6_spread : MV yX6_spread cX6_spread 6 none 4 := ⟨lg_in (List.mem_of_getElem? (i := 815) (by decide +kernel)) rfl, lg_in (List.mem_of_getElem? (i := 102) (by decide +kernel)) rfl, by decide +kernel⟩
theorem mi_X6_spread : MI yX6_spread := ⟨lg_in (List.mem_of_getElem? (i := 813) (by decide +kernel)) rfl, lg_in (List.mem_of_getElem? (i := 814) (by decide +kernel)) rfl⟩
theorem mv_X7_fail : MV yX7_fail cX7_fail 3 none 2 := ⟨lg_in (List.mem_of_getElem? (i := 475) (by decide +kernel)) rfl, lg_in (List.mem_of_getElem? (i := 96) (by decide +kernel)) rfl, by decide +kernel⟩
theorem mi_X7_fail : MI yX7_fail := ⟨lg_in (List.mem_of_getElem? (i := 473) (by decide +kernel)) rfl, lg_in (List.mem_of_getElem? (i := 474) (by decide +kernel)) rfl⟩
theorem mv_X7_isAtEnd : MV yX7_isAtEnd cX7_isAtEnd 1 (some .boolean) 0 := ⟨lg_in (List.mem_of_getElem? (i := 549) (by decide +kernel)) rfl, lg_in (List.mem_of_getElem? (i := 96) (by decide +kernel)) rfl, by decide +kernel⟩
theorem mi_X7_isAtEnd : MI yX7_isAtEnd := ⟨lg_in (List.mem_of_getElem? (i := 547) (by decide +kernel)) rfl, lg_in (List.mem_of_getElem? (i := 548) (by decide +kernel)) rfl⟩
theorem mv_X7_isDigit : MV yX7_isDigit cX7_isDigit 1 (some .boolean) 0 := ⟨lg_in (List.mem_of_getElem? (i := 518) (by decide +kernel)) rfl, lg_in (List.mem_of_getElem? (i := 96) (by decide +kernel)) rfl, by decide +kernel⟩
theorem mi_X7_isDigit : MI yX7_isDigit := ⟨lg_in (List.mem_of_getElem? (i := 516) (by decide +kernel)) rfl, lg_in (List.mem_of_getElem? (i := 517) (by decide +kernel)) rfl⟩
theorem mv_X7_isSound : MV yX7_isSound cX7_isSound 1 (some .boolean) 0 := ⟨lg_in (List.mem_of_getElem? (i := 459) (by decide +kernel)) rfl, lg_in (List.mem_of_getElem? (i := 96) (by decide +kernel)) rfl, by decide +kernel⟩
theorem mi_X7_isSound : MI yX7_isSound := ⟨lg_in (List.mem_of_getElem? (i := 457) (by decide +kernel)) rfl, lg_in (List.mem_of_getElem? (i := 458) (by decide +kernel)) rfl⟩
theorem mv_X7_number : MV yX7_number cX7_number 4 (some .int) 1 := ⟨lg_in (List.mem_of_getElem? (i := 514) (by decide +kernel)) rfl, lg_in (List.mem_of_getElem? (i := 96) (by decide +kernel)) rfl, by decide +kernel⟩
theorem mi_X7_number : MI yX7_number := ⟨lg_in (List.mem_of_getElem? (i := 512) (by decide +kernel)) rfl, lg_in (List.mem_of_getElem? (i := 513) (by decide +kernel)) rfl⟩
theorem mv_X7_numberUpTo : MV yX7_numberUpTo cX7_numberUpTo 4 (some .int) 1 := ⟨lg_in (List.mem_of_getElem? (i := 637) (by decide +kernel)) rfl, lg_in (List.mem_of_getElem? (i := 96) (by decide +kernel)) rfl, by decide +kernel⟩
theorem mi_X7_numberUpTo : MI yX7_numberUpTo := ⟨lg_in (List.mem_of_getElem? (i := 635) (by decide +kernel)) rfl, lg_in (List.mem_of_getElem? (i := 636) (by decide +kernel)) rfl⟩
theorem mv_X7_open : MV yX7_open cX7_open 2 none 1 := ⟨lg_in (List.mem_of_getElem? (i := 447) (by decide +kernel)) rfl, lg_in (List.mem_of_getElem? (i := 96) (by decide +kernel)) rfl, by decide +kernel⟩
theorem mi_X7_open : MI yX7_open := ⟨lg_in (List.mem_of_getElem? (i := 445) (by decide +kernel)) rfl, lg_in (List.mem_of_getElem? (i := 446) (by decide +kernel)) rfl⟩
theorem mv_X7_sign : MV yX7_sign cX7_sign 1 (some .int) 0 := ⟨lg_in (List.mem_of_getElem? (i := 467) (by decide +kernel)) rfl, lg_in (List.mem_of_getElem? (i := 96) (by decide +kernel)) rfl, by decide +kernel⟩
theorem mi_X7_sign : MI yX7_sign := ⟨lg_in (List.mem_of_getElem? (i := 465) (by decide +kernel)) rfl, lg_in (List.mem_of_getElem? (i := 466) (by decide +kernel)) rfl⟩
theorem mv_X7_take : MV yX7_take cX7_take 2 (some .boolean) 1 := ⟨lg_in (List.mem_of_getElem? (i := 504) (by decide +kernel)) rfl, lg_in (List.mem_of_getElem? (i := 96) (by decide +kernel)) rfl, by decide +kernel⟩
theorem mi_X7_take : MI yX7_take := ⟨lg_in (List.mem_of_getElem? (i := 502) (by decide +kernel)) rfl, lg_in (List.mem_of_getElem? (i := 503) (by decide +kernel)) rfl⟩
theorem mv_X7_want : MV yX7_want cX7_want 2 none 1 := ⟨lg_in (List.mem_of_getElem? (i := 500) (by decide +kernel)) rfl, lg_in (List.mem_of_getElem? (i := 96) (by decide +kernel)) rfl, by decide +kernel⟩
theorem mi_X7_want : MI yX7_want := ⟨lg_in (List.mem_of_getElem? (i := 498) (by decide +kernel)) rfl, lg_in (List.mem_of_getElem? (i := 499) (by decide +kernel)) rfl⟩
theorem mv_X8_add : MV yX8_add cX8_add 3 none 1 := ⟨lg_in (List.mem_of_getElem? (i := 439) (by decide +kernel)) rfl, lg_in (List.mem_of_getElem? (i := 95) (by decide +kernel)) rfl, by decide +kernel⟩
theorem mi_X8_add : MI yX8_add := ⟨lg_in (List.mem_of_getElem? (i := 437) (by decide +kernel)) rfl, lg_in (List.mem_of_getElem? (i := 438) (by decide +kernel)) rfl⟩
theorem mv_X8_at : MV yX8_at cX8_at 2 (some .int) 1 := ⟨lg_in (List.mem_of_getElem? (i := 471) (by decide +kernel)) rfl, lg_in (List.mem_of_getElem? (i := 95) (by decide +kernel)) rfl, by decide +kernel⟩
theorem mi_X8_at : MI yX8_at := ⟨lg_in (List.mem_of_getElem? (i := 469) (by decide +kernel)) rfl, lg_in (List.mem_of_getElem? (i := 470) (by decide +kernel)) rfl⟩
theorem mv_X8_clear : MV yX8_clear cX8_clear 1 none 0 := ⟨lg_in (List.mem_of_getElem? (i := 553) (by decide +kernel)) rfl, lg_in (List.mem_of_getElem? (i := 95) (by decide +kernel)) rfl, by decide +kernel⟩
theorem mi_X8_clear : MI yX8_clear := ⟨lg_in (List.mem_of_getElem? (i := 551) (by decide +kernel)) rfl, lg_in (List.mem_of_getElem? (i := 552) (by decide +kernel)) rfl⟩
theorem mv_X9_copy : MV yX9_copy cX9_copy 2 none 1 := ⟨lg_in (List.mem_of_getElem? (i := 793) (by decide +kernel)) rfl, lg_in (List.mem_of_getElem? (i := 100) (by decide +kernel)) rfl, by decide +kernel⟩
theorem mi_X9_copy : MI yX9_copy := ⟨lg_in (List.mem_of_getElem? (i := 791) (by decide +kernel)) rfl, lg_in (List.mem_of_getElem? (i := 792) (by decide +kernel)) rfl⟩
theorem mv_X9_draw : MV yX9_draw cX9_draw 1 (some .int) 0 := ⟨lg_in (List.mem_of_getElem? (i := 770) (by decide +kernel)) rfl, lg_in (List.mem_of_getElem? (i := 100) (by decide +kernel)) rfl, by decide +kernel⟩
theorem mi_X9_draw : MI yX9_draw := ⟨lg_in (List.mem_of_getElem? (i := 768) (by decide +kernel)) rfl, lg_in (List.mem_of_getElem? (i := 769) (by decide +kernel)) rfl⟩
theorem mv_X9_inRoom : MV yX9_inRoom cX9_inRoom 4 (some .int) 1 := ⟨lg_in (List.mem_of_getElem? (i := 749) (by decide +kernel)) rfl, lg_in (List.mem_of_getElem? (i := 100) (by decide +kernel)) rfl, by decide +kernel⟩
theorem mi_X9_inRoom : MI yX9_inRoom := ⟨lg_in (List.mem_of_getElem? (i := 747) (by decide +kernel)) rfl, lg_in (List.mem_of_getElem? (i := 748) (by decide +kernel)) rfl⟩
theorem mv_X9_isTold : MV yX9_isTold cX9_isTold 2 (some .boolean) 1 := ⟨lg_in (List.mem_of_getElem? (i := 562) (by decide +kernel)) rfl, lg_in (List.mem_of_getElem? (i := 100) (by decide +kernel)) rfl, by decide +kernel⟩
theorem mi_X9_isTold : MI yX9_isTold := ⟨lg_in (List.mem_of_getElem? (i := 560) (by decide +kernel)) rfl, lg_in (List.mem_of_getElem? (i := 561) (by decide +kernel)) rfl⟩
theorem mv_X9_kindsLeft : MV yX9_kindsLeft cX9_kindsLeft 4 (some .int) 1 := ⟨lg_in (List.mem_of_getElem? (i := 724) (by decide +kernel)) rfl, lg_in (List.mem_of_getElem? (i := 100) (by decide +kernel)) rfl, by decide +kernel⟩
theorem mi_X9_kindsLeft : MI yX9_kindsLeft := ⟨lg_in (List.mem_of_getElem? (i := 722) (by decide +kernel)) rfl, lg_in (List.mem_of_getElem? (i := 723) (by decide +kernel)) rfl⟩
theorem mv_X9_pinsOf : MV yX9_pinsOf cX9_pinsOf 4 (some .int) 1 := ⟨lg_in (List.mem_of_getElem? (i := 611) (by decide +kernel)) rfl, lg_in (List.mem_of_getElem? (i := 100) (by decide +kernel)) rfl, by decide +kernel⟩
theorem mi_X9_pinsOf : MI yX9_pinsOf := ⟨lg_in (List.mem_of_getElem? (i := 609) (by decide +kernel)) rfl, lg_in (List.mem_of_getElem? (i := 610) (by decide +kernel)) rfl⟩
theorem mv_X9_pinsOfAll : MV yX9_pinsOfAll cX9_pinsOfAll 3 (some .int) 0 := ⟨lg_in (List.mem_of_getElem? (i := 780) (by decide +kernel)) rfl, lg_in (List.mem_of_getElem? (i := 100) (by decide +kernel)) rfl, by decide +kernel⟩
theorem mi_X9_pinsOfAll : MI yX9_pinsOfAll := ⟨lg_in (List.mem_of_getElem? (i := 778) (by decide +kernel)) rfl, lg_in (List.mem_of_getElem? (i := 779) (by decide +kernel)) rfl⟩
theorem mv_X9_put : MV yX9_put cX9_put 3 none 2 := ⟨lg_in (List.mem_of_getElem? (i := 430) (by decide +kernel)) rfl, lg_in (List.mem_of_getElem? (i := 100) (by decide +kernel)) rfl, by decide +kernel⟩
theorem mi_X9_put : MI yX9_put := ⟨lg_in (List.mem_of_getElem? (i := 428) (by decide +kernel)) rfl, lg_in (List.mem_of_getElem? (i := 429) (by decide +kernel)) rfl⟩
theorem mv_X9_roomOf : MV yX9_roomOf cX9_roomOf 2 (some .int) 1 := ⟨lg_in (List.mem_of_getElem? (i := 701) (by decide +kernel)) rfl, lg_in (List.mem_of_getElem? (i := 100) (by decide +kernel)) rfl, by decide +kernel⟩
theorem mi_X9_roomOf : MI yX9_roomOf := ⟨lg_in (List.mem_of_getElem? (i := 699) (by decide +kernel)) rfl, lg_in (List.mem_of_getElem? (i := 700) (by decide +kernel)) rfl⟩
theorem mv_X9_unrust : MV yX9_unrust cX9_unrust 2 none 1 := ⟨lg_in (List.mem_of_getElem? (i := 665) (by decide +kernel)) rfl, lg_in (List.mem_of_getElem? (i := 100) (by decide +kernel)) rfl, by decide +kernel⟩
theorem mi_X9_unrust : MI yX9_unrust := ⟨lg_in (List.mem_of_getElem? (i := 663) (by decide +kernel)) rfl, lg_in (List.mem_of_getElem? (i := 664) (by decide +kernel)) rfl⟩
theorem mv_X9_whoPutUp : MV yX9_whoPutUp cX9_whoPutUp 5 (some .int) 2 := ⟨lg_in (List.mem_of_getElem? (i := 913) (by decide +kernel)) rfl, lg_in (List.mem_of_getElem? (i := 100) (by decide +kernel)) rfl, by decide +kernel⟩
theorem mi_X9_whoPutUp : MI yX9_whoPutUp := ⟨lg_in (List.mem_of_getElem? (i := 911) (by decide +kernel)) rfl, lg_in (List.mem_of_getElem? (i := 912) (by decide +kernel)) rfl⟩
theorem ms_min : Cond.static Lib.Math.min.name ∈ lw_g := lg_in (List.mem_of_getElem? (i := 761) (by decide +kernel)) rfl
theorem mcode_min : Cond.code Lib.Math.min.name Lib.Math.min.code 2 (some .int) ∈ lw_g := lg_in (List.mem_of_getElem? (i := 762) (by decide +kernel)) rfl
theorem ms_max : Cond.static Lib.Math.max.name ∈ lw_g := lg_in (List.mem_of_getElem? (i := 764) (by decide +kernel)) rfl
theorem mcode_max : Cond.code Lib.Math.max.name Lib.Math.max.code 2 (some .int) ∈ lw_g := lg_in (List.mem_of_getElem? (i := 765) (by decide +kernel)) rfl
theorem mnat_copy : Cond.native arraycopyName ∈ lw_g := lg_in (List.mem_of_getElem? (i := 601) (by decide +kernel)) rfl
theorem ms_copy : Cond.static arraycopyName ∈ lw_g := lg_in (List.mem_of_getElem? (i := 600) (by decide +kernel)) rfl
theorem mini_Math : Cond.initialized "java/lang/Math" ∈ lw_g := lg_in (List.mem_of_getElem? (i := 109) (by decide +kernel)) rfl
theorem mini_System : Cond.initialized "java/lang/System" ∈ lw_g := lg_in (List.mem_of_getElem? (i := 107) (by decide +kernel)) rfl
end
section
abbrev W_J6_bitCount_0f7a4 (E : GE) : va_W := []
def f_J6_bitCount_0f7a4 (x0 : Int32) : Option (Int32) := nm (x0 - (((x0).toUInt32 >>> (((1 : Int32)).toUInt32 &&& Int32.toUInt32 31)).toInt32 &&& (1431655765 : Int32))) fun v1 => nm ((v1 &&& (858993459 : Int32)) + (((v1).toUInt32 >>> (((2 : Int32)).toUInt32 &&& Int32.toUInt32 31)).toInt32 &&& (858993459 : Int32))) fun v2 => nm ((v2 + ((v2).toUInt32 >>> (((4 : Int32)).toUInt32 &&& Int32.toUInt32 31)).toInt32) &&& (252645135 : Int32)) fun v3 => nm (v3 + ((v3).toUInt32 >>> (((8 : Int32)).toUInt32 &&& Int32.toUInt32 31)).toInt32) fun v4 => nm (v4 + ((v4).toUInt32 >>> (((16 : Int32)).toUInt32 &&& Int32.toUInt32 31)).toInt32) fun v5 => some (v5 &&& (63 : Int32))
theorem dJ6_bitCount_0f7a4_0 : decode cJ6_bitCount_0f7a4 0 = .ok (.iload_n 0, 1) := by decide +kernel
theorem dJ6_bitCount_0f7a4_1 : decode cJ6_bitCount_0f7a4 1 = .ok (.iload_n 0, 1) := by decide +kernel
theorem dJ6_bitCount_0f7a4_2 : decode cJ6_bitCount_0f7a4 2 = .ok (.iconst 1, 1) := by decide +kernel
theorem dJ6_bitCount_0f7a4_3 : decode cJ6_bitCount_0f7a4 3 = .ok (.iushr, 1) := by decide +kernel
theorem dJ6_bitCount_0f7a4_4 : decode cJ6_bitCount_0f7a4 4 = .ok (.ldc_w 265, 3) := by decide +kernel
theorem dJ6_bitCount_0f7a4_7 : decode cJ6_bitCount_0f7a4 7 = .ok (.iand, 1) := by decide +kernel
theorem dJ6_bitCount_0f7a4_8 : decode cJ6_bitCount_0f7a4 8 = .ok (.isub, 1) := by decide +kernel
theorem dJ6_bitCount_0f7a4_9 : decode cJ6_bitCount_0f7a4 9 = .ok (.istore_n 0, 1) := by decide +kernel
theorem dJ6_bitCount_0f7a4_10 : decode cJ6_bitCount_0f7a4 10 = .ok (.iload_n 0, 1) := by decide +kernel
theorem dJ6_bitCount_0f7a4_11 : decode cJ6_bitCount_0f7a4 11 = .ok (.ldc_w 266, 3) := by decide +kernel
theorem dJ6_bitCount_0f7a4_14 : decode cJ6_bitCount_0f7a4 14 = .ok (.iand, 1) := by decide +kernel
theorem dJ6_bitCount_0f7a4_15 : decode cJ6_bitCount_0f7a4 15 = .ok (.iload_n 0, 1) := by decide +kernel
theorem dJ6_bitCount_0f7a4_16 : decode cJ6_bitCount_0f7a4 16 = .ok (.iconst 2, 1) := by decide +kernel
theorem dJ6_bitCount_0f7a4_17 : decode cJ6_bitCount_0f7a4 17 = .ok (.iushr, 1) := by decide +kernel
theorem dJ6_bitCount_0f7a4_18 : decode cJ6_bitCount_0f7a4 18 = .ok (.ldc_w 266, 3) := by decide +kernel
theorem dJ6_bitCount_0f7a4_21 : decode cJ6_bitCount_0f7a4 21 = .ok (.iand, 1) := by decide +kernel
theorem dJ6_bitCount_0f7a4_22 : decode cJ6_bitCount_0f7a4 22 = .ok (.iadd, 1) := by decide +kernel
theorem dJ6_bitCount_0f7a4_23 : decode cJ6_bitCount_0f7a4 23 = .ok (.istore_n 0, 1) := by decide +kernel
theorem dJ6_bitCount_0f7a4_24 : decode cJ6_bitCount_0f7a4 24 = .ok (.iload_n 0, 1) := by decide +kernel
theorem dJ6_bitCount_0f7a4_25 : decode cJ6_bitCount_0f7a4 25 = .ok (.iload_n 0, 1) := by decide +kernel
theorem dJ6_bitCount_0f7a4_26 : decode cJ6_bitCount_0f7a4 26 = .ok (.iconst 4, 1) := by decide +kernel
theorem dJ6_bitCount_0f7a4_27 : decode cJ6_bitCount_0f7a4 27 = .ok (.iushr, 1) := by decide +kernel
theorem dJ6_bitCount_0f7a4_28 : decode cJ6_bitCount_0f7a4 28 = .ok (.iadd, 1) := by decide +kernel
theorem dJ6_bitCount_0f7a4_29 : decode cJ6_bitCount_0f7a4 29 = .ok (.ldc_w 267, 3) := by decide +kernel
theorem dJ6_bitCount_0f7a4_32 : decode cJ6_bitCount_0f7a4 32 = .ok (.iand, 1) := by decide +kernel
theorem dJ6_bitCount_0f7a4_33 : decode cJ6_bitCount_0f7a4 33 = .ok (.istore_n 0, 1) := by decide +kernel
theorem dJ6_bitCount_0f7a4_34 : decode cJ6_bitCount_0f7a4 34 = .ok (.iload_n 0, 1) := by decide +kernel
theorem dJ6_bitCount_0f7a4_35 : decode cJ6_bitCount_0f7a4 35 = .ok (.iload_n 0, 1) := by decide +kernel
theorem dJ6_bitCount_0f7a4_36 : decode cJ6_bitCount_0f7a4 36 = .ok (.bipush 8, 2) := by decide +kernel
theorem dJ6_bitCount_0f7a4_38 : decode cJ6_bitCount_0f7a4 38 = .ok (.iushr, 1) := by decide +kernel
theorem dJ6_bitCount_0f7a4_39 : decode cJ6_bitCount_0f7a4 39 = .ok (.iadd, 1) := by decide +kernel
theorem dJ6_bitCount_0f7a4_40 : decode cJ6_bitCount_0f7a4 40 = .ok (.istore_n 0, 1) := by decide +kernel
theorem dJ6_bitCount_0f7a4_41 : decode cJ6_bitCount_0f7a4 41 = .ok (.iload_n 0, 1) := by decide +kernel
theorem dJ6_bitCount_0f7a4_42 : decode cJ6_bitCount_0f7a4 42 = .ok (.iload_n 0, 1) := by decide +kernel
theorem dJ6_bitCount_0f7a4_43 : decode cJ6_bitCount_0f7a4 43 = .ok (.bipush 16, 2) := by decide +kernel
theorem dJ6_bitCount_0f7a4_45 : decode cJ6_bitCount_0f7a4 45 = .ok (.iushr, 1) := by decide +kernel
theorem dJ6_bitCount_0f7a4_46 : decode cJ6_bitCount_0f7a4 46 = .ok (.iadd, 1) := by decide +kernel
theorem dJ6_bitCount_0f7a4_47 : decode cJ6_bitCount_0f7a4 47 = .ok (.istore_n 0, 1) := by decide +kernel
theorem dJ6_bitCount_0f7a4_48 : decode cJ6_bitCount_0f7a4 48 = .ok (.iload_n 0, 1) := by decide +kernel
theorem dJ6_bitCount_0f7a4_49 : decode cJ6_bitCount_0f7a4 49 = .ok (.bipush 63, 2) := by decide +kernel
theorem dJ6_bitCount_0f7a4_51 : decode cJ6_bitCount_0f7a4 51 = .ok (.iand, 1) := by decide +kernel
theorem dJ6_bitCount_0f7a4_52 : decode cJ6_bitCount_0f7a4 52 = .ok (.ireturn, 1) := by decide +kernel
set_option maxHeartbeats 4000000 in
set_option maxRecDepth 100000 in
theorem c_J6_bitCount_0f7a4 (l : Launch) (E : GE) (x0 : Int32) (r : Int32) (h : f_J6_bitCount_0f7a4 x0 = some r) : Cn l E yJ6_bitCount_0f7a4 cJ6_bitCount_0f7a4 1 (some .int) 1 0 0 [.int x0] (W_J6_bitCount_0f7a4 E) (fun w => w = (W_J6_bitCount_0f7a4 E)) (some (.int r)) := by
  refine Cn.ofI (by decide) (Nat.le_of_ble_eq_true rfl) (fun X hX hR C hret => ?_)
  subst hX
  show Gx X E 0 0 (W_J6_bitCount_0f7a4 E) 0 [(0, .int x0)] []
  unfold f_J6_bitCount_0f7a4 at h
  refine g_iload_n (pc := 0) C dJ6_bitCount_0f7a4_0 rfl 0 rfl ?_
  refine g_iload_n (pc := 1) C dJ6_bitCount_0f7a4_1 rfl 0 rfl ?_
  refine g_iconst (pc := 2) (v := 1) C dJ6_bitCount_0f7a4_2 (by decide) ?_
  refine g_iushr (pc := 3) C dJ6_bitCount_0f7a4_3 ?_
  refine g_ldcw (pc := 4) C dJ6_bitCount_0f7a4_4 ct_J6_265 ?_
  refine g_iand (pc := 7) C dJ6_bitCount_0f7a4_7 ?_
  refine g_isub (pc := 8) C dJ6_bitCount_0f7a4_8 ?_
  refine g_nm h (fun v1 h => ?_)
  refine g_istore_n (pc := 9) (lv' := [(0, .int v1)]) C dJ6_bitCount_0f7a4_9 rfl (by decide) rfl ?_
  refine g_iload_n (pc := 10) C dJ6_bitCount_0f7a4_10 rfl 0 rfl ?_
  refine g_ldcw (pc := 11) C dJ6_bitCount_0f7a4_11 ct_J6_266 ?_
  refine g_iand (pc := 14) C dJ6_bitCount_0f7a4_14 ?_
  refine g_iload_n (pc := 15) C dJ6_bitCount_0f7a4_15 rfl 0 rfl ?_
  refine g_iconst (pc := 16) (v := 2) C dJ6_bitCount_0f7a4_16 (by decide) ?_
  refine g_iushr (pc := 17) C dJ6_bitCount_0f7a4_17 ?_
  refine g_ldcw (pc := 18) C dJ6_bitCount_0f7a4_18 ct_J6_266 ?_
  refine g_iand (pc := 21) C dJ6_bitCount_0f7a4_21 ?_
  refine g_iadd (pc := 22) C dJ6_bitCount_0f7a4_22 ?_
  refine g_nm h (fun v2 h => ?_)
  refine g_istore_n (pc := 23) (lv' := [(0, .int v2)]) C dJ6_bitCount_0f7a4_23 rfl (by decide) rfl ?_
  refine g_iload_n (pc := 24) C dJ6_bitCount_0f7a4_24 rfl 0 rfl ?_
  refine g_iload_n (pc := 25) C dJ6_bitCount_0f7a4_25 rfl 0 rfl ?_
  refine g_iconst (pc := 26) (v := 4) C dJ6_bitCount_0f7a4_26 (by decide) ?_
  refine g_iushr (pc := 27) C dJ6_bitCount_0f7a4_27 ?_
  refine g_iadd (pc := 28) C dJ6_bitCount_0f7a4_28 ?_
  refine g_ldcw (pc := 29) C dJ6_bitCount_0f7a4_29 ct_J6_267 ?_
  refine g_iand (pc := 32) C dJ6_bitCount_0f7a4_32 ?_
  refine g_nm h (fun v3 h => ?_)
  refine g_istore_n (pc := 33) (lv' := [(0, .int v3)]) C dJ6_bitCount_0f7a4_33 rfl (by decide) rfl ?_
  refine g_iload_n (pc := 34) C dJ6_bitCount_0f7a4_34 rfl 0 rfl ?_
  refine g_iload_n (pc := 35) C dJ6_bitCount_0f7a4_35 rfl 0 rfl ?_
  refine g_bipush (pc := 36) (v := 8) C dJ6_bitCount_0f7a4_36 (by decide) ?_
  refine g_iushr (pc := 38) C dJ6_bitCount_0f7a4_38 ?_
  refine g_iadd (pc := 39) C dJ6_bitCount_0f7a4_39 ?_
  refine g_nm h (fun v4 h => ?_)
  refine g_istore_n (pc := 40) (lv' := [(0, .int v4)]) C dJ6_bitCount_0f7a4_40 rfl (by decide) rfl ?_
  refine g_iload_n (pc := 41) C dJ6_bitCount_0f7a4_41 rfl 0 rfl ?_
  refine g_iload_n (pc := 42) C dJ6_bitCount_0f7a4_42 rfl 0 rfl ?_
  refine g_bipush (pc := 43) (v := 16) C dJ6_bitCount_0f7a4_43 (by decide) ?_
  refine g_iushr (pc := 45) C dJ6_bitCount_0f7a4_45 ?_
  refine g_iadd (pc := 46) C dJ6_bitCount_0f7a4_46 ?_
  refine g_nm h (fun v5 h => ?_)
  refine g_istore_n (pc := 47) (lv' := [(0, .int v5)]) C dJ6_bitCount_0f7a4_47 rfl (by decide) rfl ?_
  refine g_iload_n (pc := 48) C dJ6_bitCount_0f7a4_48 rfl 0 rfl ?_
  refine g_bipush (pc := 49) (v := 63) C dJ6_bitCount_0f7a4_49 (by decide) ?_
  refine g_iand (pc := 51) C dJ6_bitCount_0f7a4_51 ?_
  cases h
  exact hret _ _ _ dJ6_bitCount_0f7a4_52 rfl rfl
abbrev W_J6_numberOfTrailingZeros_0f7a4 (E : GE) : va_W := []
def f_J6_numberOfTrailingZeros_0f7a4 (x0 : Int32) : Option (Int32) := nm ((x0 ^^^ (-1 : Int32)) &&& (x0 - (1 : Int32))) fun v1 => if 0 < v1 then (jn (fun s2 : Int32 × Int32 => jn (fun s3 : Int32 × Int32 => jn (fun s4 : Int32 × Int32 => if s4.1 ≤ (4 : Int32) then (some (s4.2 + ((s4.1).toUInt32 >>> (((1 : Int32)).toUInt32 &&& Int32.toUInt32 31)).toInt32)) else nm (s4.2 + (2 : Int32)) fun v5 => nm ((s4.1).toUInt32 >>> (((2 : Int32)).toUInt32 &&& Int32.toUInt32 31)).toInt32 fun v6 => some (v5 + ((v6).toUInt32 >>> (((1 : Int32)).toUInt32 &&& Int32.toUInt32 31)).toInt32)) fun j62 => if s3.1 ≤ (16 : Int32) then (j62 (s3.1, s3.2)) else nm (s3.2 + (4 : Int32)) fun v7 => nm ((s3.1).toUInt32 >>> (((4 : Int32)).toUInt32 &&& Int32.toUInt32 31)).toInt32 fun v8 => j62 (v8, v7)) fun j49 => if s2.1 ≤ (256 : Int32) then (j49 (s2.1, s2.2)) else nm (s2.2 + (8 : Int32)) fun v9 => nm ((s2.1).toUInt32 >>> (((8 : Int32)).toUInt32 &&& Int32.toUInt32 31)).toInt32 fun v10 => j49 (v10, v9)) fun j34 => if v1 ≤ (65536 : Int32) then (j34 (v1, (1 : Int32))) else nm ((1 : Int32) + (16 : Int32)) fun v11 => nm ((v1).toUInt32 >>> (((16 : Int32)).toUInt32 &&& Int32.toUInt32 31)).toInt32 fun v12 => j34 (v12, v11)) else some (v1 &&& (32 : Int32))
theorem dJ6_numberOfTrailingZeros_0f7a4_0 : decode cJ6_numberOfTrailingZeros_0f7a4 0 = .ok (.iload_n 0, 1) := by decide +kernel
theorem dJ6_numberOfTrailingZeros_0f7a4_1 : decode cJ6_numberOfTrailingZeros_0f7a4 1 = .ok (.iconst (-1), 1) := by decide +kernel
theorem dJ6_numberOfTrailingZeros_0f7a4_2 : decode cJ6_numberOfTrailingZeros_0f7a4 2 = .ok (.ixor, 1) := by decide +kernel
theorem dJ6_numberOfTrailingZeros_0f7a4_3 : decode cJ6_numberOfTrailingZeros_0f7a4 3 = .ok (.iload_n 0, 1) := by decide +kernel
theorem dJ6_numberOfTrailingZeros_0f7a4_4 : decode cJ6_numberOfTrailingZeros_0f7a4 4 = .ok (.iconst 1, 1) := by decide +kernel
theorem dJ6_numberOfTrailingZeros_0f7a4_5 : decode cJ6_numberOfTrailingZeros_0f7a4 5 = .ok (.isub, 1) := by decide +kernel
theorem dJ6_numberOfTrailingZeros_0f7a4_6 : decode cJ6_numberOfTrailingZeros_0f7a4 6 = .ok (.iand, 1) := by decide +kernel
theorem dJ6_numberOfTrailingZeros_0f7a4_7 : decode cJ6_numberOfTrailingZeros_0f7a4 7 = .ok (.istore_n 0, 1) := by decide +kernel
theorem dJ6_numberOfTrailingZeros_0f7a4_8 : decode cJ6_numberOfTrailingZeros_0f7a4 8 = .ok (.iload_n 0, 1) := by decide +kernel
theorem dJ6_numberOfTrailingZeros_0f7a4_9 : decode cJ6_numberOfTrailingZeros_0f7a4 9 = .ok (.ifCond .gt 8, 3) := by decide +kernel
theorem dJ6_numberOfTrailingZeros_0f7a4_12 : decode cJ6_numberOfTrailingZeros_0f7a4 12 = .ok (.iload_n 0, 1) := by decide +kernel
theorem dJ6_numberOfTrailingZeros_0f7a4_13 : decode cJ6_numberOfTrailingZeros_0f7a4 13 = .ok (.bipush 32, 2) := by decide +kernel
theorem dJ6_numberOfTrailingZeros_0f7a4_15 : decode cJ6_numberOfTrailingZeros_0f7a4 15 = .ok (.iand, 1) := by decide +kernel
theorem dJ6_numberOfTrailingZeros_0f7a4_16 : decode cJ6_numberOfTrailingZeros_0f7a4 16 = .ok (.ireturn, 1) := by decide +kernel
theorem dJ6_numberOfTrailingZeros_0f7a4_17 : decode cJ6_numberOfTrailingZeros_0f7a4 17 = .ok (.iconst 1, 1) := by decide +kernel
theorem dJ6_numberOfTrailingZeros_0f7a4_18 : decode cJ6_numberOfTrailingZeros_0f7a4 18 = .ok (.istore_n 1, 1) := by decide +kernel
theorem dJ6_numberOfTrailingZeros_0f7a4_19 : decode cJ6_numberOfTrailingZeros_0f7a4 19 = .ok (.iload_n 0, 1) := by decide +kernel
theorem dJ6_numberOfTrailingZeros_0f7a4_20 : decode cJ6_numberOfTrailingZeros_0f7a4 20 = .ok (.ldc_w 264, 3) := by decide +kernel
theorem dJ6_numberOfTrailingZeros_0f7a4_23 : decode cJ6_numberOfTrailingZeros_0f7a4 23 = .ok (.if_icmp .le 11, 3) := by decide +kernel
theorem dJ6_numberOfTrailingZeros_0f7a4_26 : decode cJ6_numberOfTrailingZeros_0f7a4 26 = .ok (.iinc 1 16, 3) := by decide +kernel
theorem dJ6_numberOfTrailingZeros_0f7a4_29 : decode cJ6_numberOfTrailingZeros_0f7a4 29 = .ok (.iload_n 0, 1) := by decide +kernel
theorem dJ6_numberOfTrailingZeros_0f7a4_30 : decode cJ6_numberOfTrailingZeros_0f7a4 30 = .ok (.bipush 16, 2) := by decide +kernel
theorem dJ6_numberOfTrailingZeros_0f7a4_32 : decode cJ6_numberOfTrailingZeros_0f7a4 32 = .ok (.iushr, 1) := by decide +kernel
theorem dJ6_numberOfTrailingZeros_0f7a4_33 : decode cJ6_numberOfTrailingZeros_0f7a4 33 = .ok (.istore_n 0, 1) := by decide +kernel
theorem dJ6_numberOfTrailingZeros_0f7a4_34 : decode cJ6_numberOfTrailingZeros_0f7a4 34 = .ok (.iload_n 0, 1) := by decide +kernel
theorem dJ6_numberOfTrailingZeros_0f7a4_35 : decode cJ6_numberOfTrailingZeros_0f7a4 35 = .ok (.sipush 256, 3) := by decide +kernel
theorem dJ6_numberOfTrailingZeros_0f7a4_38 : decode cJ6_numberOfTrailingZeros_0f7a4 38 = .ok (.if_icmp .le 11, 3) := by decide +kernel
theorem dJ6_numberOfTrailingZeros_0f7a4_41 : decode cJ6_numberOfTrailingZeros_0f7a4 41 = .ok (.iinc 1 8, 3) := by decide +kernel
theorem dJ6_numberOfTrailingZeros_0f7a4_44 : decode cJ6_numberOfTrailingZeros_0f7a4 44 = .ok (.iload_n 0, 1) := by decide +kernel
theorem dJ6_numberOfTrailingZeros_0f7a4_45 : decode cJ6_numberOfTrailingZeros_0f7a4 45 = .ok (.bipush 8, 2) := by decide +kernel
theorem dJ6_numberOfTrailingZeros_0f7a4_47 : decode cJ6_numberOfTrailingZeros_0f7a4 47 = .ok (.iushr, 1) := by decide +kernel
theorem dJ6_numberOfTrailingZeros_0f7a4_48 : decode cJ6_numberOfTrailingZeros_0f7a4 48 = .ok (.istore_n 0, 1) := by decide +kernel
theorem dJ6_numberOfTrailingZeros_0f7a4_49 : decode cJ6_numberOfTrailingZeros_0f7a4 49 = .ok (.iload_n 0, 1) := by decide +kernel
theorem dJ6_numberOfTrailingZeros_0f7a4_50 : decode cJ6_numberOfTrailingZeros_0f7a4 50 = .ok (.bipush 16, 2) := by decide +kernel
theorem dJ6_numberOfTrailingZeros_0f7a4_52 : decode cJ6_numberOfTrailingZeros_0f7a4 52 = .ok (.if_icmp .le 10, 3) := by decide +kernel
theorem dJ6_numberOfTrailingZeros_0f7a4_55 : decode cJ6_numberOfTrailingZeros_0f7a4 55 = .ok (.iinc 1 4, 3) := by decide +kernel
theorem dJ6_numberOfTrailingZeros_0f7a4_58 : decode cJ6_numberOfTrailingZeros_0f7a4 58 = .ok (.iload_n 0, 1) := by decide +kernel
theorem dJ6_numberOfTrailingZeros_0f7a4_59 : decode cJ6_numberOfTrailingZeros_0f7a4 59 = .ok (.iconst 4, 1) := by decide +kernel
theorem dJ6_numberOfTrailingZeros_0f7a4_60 : decode cJ6_numberOfTrailingZeros_0f7a4 60 = .ok (.iushr, 1) := by decide +kernel
theorem dJ6_numberOfTrailingZeros_0f7a4_61 : decode cJ6_numberOfTrailingZeros_0f7a4 61 = .ok (.istore_n 0, 1) := by decide +kernel
theorem dJ6_numberOfTrailingZeros_0f7a4_62 : decode cJ6_numberOfTrailingZeros_0f7a4 62 = .ok (.iload_n 0, 1) := by decide +kernel
theorem dJ6_numberOfTrailingZeros_0f7a4_63 : decode cJ6_numberOfTrailingZeros_0f7a4 63 = .ok (.iconst 4, 1) := by decide +kernel
theorem dJ6_numberOfTrailingZeros_0f7a4_64 : decode cJ6_numberOfTrailingZeros_0f7a4 64 = .ok (.if_icmp .le 10, 3) := by decide +kernel
theorem dJ6_numberOfTrailingZeros_0f7a4_67 : decode cJ6_numberOfTrailingZeros_0f7a4 67 = .ok (.iinc 1 2, 3) := by decide +kernel
theorem dJ6_numberOfTrailingZeros_0f7a4_70 : decode cJ6_numberOfTrailingZeros_0f7a4 70 = .ok (.iload_n 0, 1) := by decide +kernel
theorem dJ6_numberOfTrailingZeros_0f7a4_71 : decode cJ6_numberOfTrailingZeros_0f7a4 71 = .ok (.iconst 2, 1) := by decide +kernel
theorem dJ6_numberOfTrailingZeros_0f7a4_72 : decode cJ6_numberOfTrailingZeros_0f7a4 72 = .ok (.iushr, 1) := by decide +kernel
theorem dJ6_numberOfTrailingZeros_0f7a4_73 : decode cJ6_numberOfTrailingZeros_0f7a4 73 = .ok (.istore_n 0, 1) := by decide +kernel
theorem dJ6_numberOfTrailingZeros_0f7a4_74 : decode cJ6_numberOfTrailingZeros_0f7a4 74 = .ok (.iload_n 1, 1) := by decide +kernel
theorem dJ6_numberOfTrailingZeros_0f7a4_75 : decode cJ6_numberOfTrailingZeros_0f7a4 75 = .ok (.iload_n 0, 1) := by decide +kernel
theorem dJ6_numberOfTrailingZeros_0f7a4_76 : decode cJ6_numberOfTrailingZeros_0f7a4 76 = .ok (.iconst 1, 1) := by decide +kernel
theorem dJ6_numberOfTrailingZeros_0f7a4_77 : decode cJ6_numberOfTrailingZeros_0f7a4 77 = .ok (.iushr, 1) := by decide +kernel
theorem dJ6_numberOfTrailingZeros_0f7a4_78 : decode cJ6_numberOfTrailingZeros_0f7a4 78 = .ok (.iadd, 1) := by decide +kernel
theorem dJ6_numberOfTrailingZeros_0f7a4_79 : decode cJ6_numberOfTrailingZeros_0f7a4 79 = .ok (.ireturn, 1) := by decide +kernel
set_option maxHeartbeats 4000000 in
set_option maxRecDepth 100000 in
theorem c_J6_numberOfTrailingZeros_0f7a4 (l : Launch) (E : GE) (x0 : Int32) (r : Int32) (h : f_J6_numberOfTrailingZeros_0f7a4 x0 = some r) : Cn l E yJ6_numberOfTrailingZeros_0f7a4 cJ6_numberOfTrailingZeros_0f7a4 2 (some .int) 1 0 0 [.int x0] (W_J6_numberOfTrailingZeros_0f7a4 E) (fun w => w = (W_J6_numberOfTrailingZeros_0f7a4 E)) (some (.int r)) := by
  refine Cn.ofI (by decide) (Nat.le_of_ble_eq_true rfl) (fun X hX hR C hret => ?_)
  subst hX
  show Gx X E 0 0 (W_J6_numberOfTrailingZeros_0f7a4 E) 0 [(0, .int x0)] []
  unfold f_J6_numberOfTrailingZeros_0f7a4 at h
  refine g_iload_n (pc := 0) C dJ6_numberOfTrailingZeros_0f7a4_0 rfl 0 rfl ?_
  refine g_iconst (pc := 1) (v := -1) C dJ6_numberOfTrailingZeros_0f7a4_1 (by decide) ?_
  refine g_ixor (pc := 2) C dJ6_numberOfTrailingZeros_0f7a4_2 ?_
  refine g_iload_n (pc := 3) C dJ6_numberOfTrailingZeros_0f7a4_3 rfl 0 rfl ?_
  refine g_iconst (pc := 4) (v := 1) C dJ6_numberOfTrailingZeros_0f7a4_4 (by decide) ?_
  refine g_isub (pc := 5) C dJ6_numberOfTrailingZeros_0f7a4_5 ?_
  refine g_iand (pc := 6) C dJ6_numberOfTrailingZeros_0f7a4_6 ?_
  refine g_nm h (fun v1 h => ?_)
  refine g_istore_n (pc := 7) (lv' := [(0, .int v1)]) C dJ6_numberOfTrailingZeros_0f7a4_7 rfl (by decide) rfl ?_
  refine g_iload_n (pc := 8) C dJ6_numberOfTrailingZeros_0f7a4_8 rfl 0 rfl ?_
  refine g_if_gt (pc := 9) (tgt := 17) C dJ6_numberOfTrailingZeros_0f7a4_9 (by decide) h (fun h => ?_) (fun h => ?_)
  · refine g_iconst (pc := 17) (v := 1) C dJ6_numberOfTrailingZeros_0f7a4_17 (by decide) ?_
    refine g_istore_n (pc := 18) (lv' := [(1, .int (1 : Int32)), (0, .int v1)]) C dJ6_numberOfTrailingZeros_0f7a4_18 rfl (by decide) rfl ?_
    refine g_iload_n (pc := 19) C dJ6_numberOfTrailingZeros_0f7a4_19 rfl 1 rfl ?_
    refine g_ldcw (pc := 20) C dJ6_numberOfTrailingZeros_0f7a4_20 ct_J6_264 ?_
    refine g_jn (fun s2 : Int32 × Int32 => Gx X E 0 0 (W_J6_numberOfTrailingZeros_0f7a4 E) 34 [(0, .int s2.1), (1, .int s2.2)] []) h (fun s2 h => ?_) (fun j34 hj34 h => ?_)
    · refine g_iload_n (pc := 34) C dJ6_numberOfTrailingZeros_0f7a4_34 rfl 0 rfl ?_
      refine g_sipush (pc := 35) (v := 256) C dJ6_numberOfTrailingZeros_0f7a4_35 (by decide) ?_
      refine g_jn (fun s3 : Int32 × Int32 => Gx X E 0 0 (W_J6_numberOfTrailingZeros_0f7a4 E) 49 [(0, .int s3.1), (1, .int s3.2)] []) h (fun s3 h => ?_) (fun j49 hj49 h => ?_)
      · refine g_iload_n (pc := 49) C dJ6_numberOfTrailingZeros_0f7a4_49 rfl 0 rfl ?_
        refine g_bipush (pc := 50) (v := 16) C dJ6_numberOfTrailingZeros_0f7a4_50 (by decide) ?_
        refine g_jn (fun s4 : Int32 × Int32 => Gx X E 0 0 (W_J6_numberOfTrailingZeros_0f7a4 E) 62 [(0, .int s4.1), (1, .int s4.2)] []) h (fun s4 h => ?_) (fun j62 hj62 h => ?_)
        · refine g_iload_n (pc := 62) C dJ6_numberOfTrailingZeros_0f7a4_62 rfl 0 rfl ?_
          refine g_iconst (pc := 63) (v := 4) C dJ6_numberOfTrailingZeros_0f7a4_63 (by decide) ?_
          refine g_icmp_le (pc := 64) (tgt := 74) C dJ6_numberOfTrailingZeros_0f7a4_64 (by decide) h (fun h => ?_) (fun h => ?_)
          · refine g_iload_n (pc := 74) C dJ6_numberOfTrailingZeros_0f7a4_74 rfl 1 rfl ?_
            refine g_iload_n (pc := 75) C dJ6_numberOfTrailingZeros_0f7a4_75 rfl 0 rfl ?_
            refine g_iconst (pc := 76) (v := 1) C dJ6_numberOfTrailingZeros_0f7a4_76 (by decide) ?_
            refine g_iushr (pc := 77) C dJ6_numberOfTrailingZeros_0f7a4_77 ?_
            refine g_iadd (pc := 78) C dJ6_numberOfTrailingZeros_0f7a4_78 ?_
            cases h
            exact hret _ _ _ dJ6_numberOfTrailingZeros_0f7a4_79 rfl rfl
          · refine g_iincn (pc := 67) (j := 1) (d := 2) (lv' := fun v5 => [(1, .int v5), (0, .int s4.1)]) C dJ6_numberOfTrailingZeros_0f7a4_67 rfl (by decide) (by decide) (fun _ => rfl) h (fun v5 h => ?_)
            refine g_iload_n (pc := 70) C dJ6_numberOfTrailingZeros_0f7a4_70 rfl 1 rfl ?_
            refine g_iconst (pc := 71) (v := 2) C dJ6_numberOfTrailingZeros_0f7a4_71 (by decide) ?_
            refine g_iushr (pc := 72) C dJ6_numberOfTrailingZeros_0f7a4_72 ?_
            refine g_nm h (fun v6 h => ?_)
            refine g_istore_n (pc := 73) (lv' := [(0, .int v6), (1, .int v5)]) C dJ6_numberOfTrailingZeros_0f7a4_73 rfl (by decide) rfl ?_
            refine g_iload_n (pc := 74) C dJ6_numberOfTrailingZeros_0f7a4_74 rfl 1 rfl ?_
            refine g_iload_n (pc := 75) C dJ6_numberOfTrailingZeros_0f7a4_75 rfl 0 rfl ?_
            refine g_iconst (pc := 76) (v := 1) C dJ6_numberOfTrailingZeros_0f7a4_76 (by decide) ?_
            refine g_iushr (pc := 77) C dJ6_numberOfTrailingZeros_0f7a4_77 ?_
            refine g_iadd (pc := 78) C dJ6_numberOfTrailingZeros_0f7a4_78 ?_
            cases h
            exact hret _ _ _ dJ6_numberOfTrailingZeros_0f7a4_79 rfl rfl
        refine g_icmp_le (pc := 52) (tgt := 62) C dJ6_numberOfTrailingZeros_0f7a4_52 (by decide) h (fun h => ?_) (fun h => ?_)
        · exact hj62 _ h
        · refine g_iincn (pc := 55) (j := 1) (d := 4) (lv' := fun v7 => [(1, .int v7), (0, .int s3.1)]) C dJ6_numberOfTrailingZeros_0f7a4_55 rfl (by decide) (by decide) (fun _ => rfl) h (fun v7 h => ?_)
          refine g_iload_n (pc := 58) C dJ6_numberOfTrailingZeros_0f7a4_58 rfl 1 rfl ?_
          refine g_iconst (pc := 59) (v := 4) C dJ6_numberOfTrailingZeros_0f7a4_59 (by decide) ?_
          refine g_iushr (pc := 60) C dJ6_numberOfTrailingZeros_0f7a4_60 ?_
          refine g_nm h (fun v8 h => ?_)
          refine g_istore_n (pc := 61) (lv' := [(0, .int v8), (1, .int v7)]) C dJ6_numberOfTrailingZeros_0f7a4_61 rfl (by decide) rfl ?_
          exact hj62 _ h
      refine g_icmp_le (pc := 38) (tgt := 49) C dJ6_numberOfTrailingZeros_0f7a4_38 (by decide) h (fun h => ?_) (fun h => ?_)
      · exact hj49 _ h
      · refine g_iincn (pc := 41) (j := 1) (d := 8) (lv' := fun v9 => [(1, .int v9), (0, .int s2.1)]) C dJ6_numberOfTrailingZeros_0f7a4_41 rfl (by decide) (by decide) (fun _ => rfl) h (fun v9 h => ?_)
        refine g_iload_n (pc := 44) C dJ6_numberOfTrailingZeros_0f7a4_44 rfl 1 rfl ?_
        refine g_bipush (pc := 45) (v := 8) C dJ6_numberOfTrailingZeros_0f7a4_45 (by decide) ?_
        refine g_iushr (pc := 47) C dJ6_numberOfTrailingZeros_0f7a4_47 ?_
        refine g_nm h (fun v10 h => ?_)
        refine g_istore_n (pc := 48) (lv' := [(0, .int v10), (1, .int v9)]) C dJ6_numberOfTrailingZeros_0f7a4_48 rfl (by decide) rfl ?_
        exact hj49 _ h
    refine g_icmp_le (pc := 23) (tgt := 34) C dJ6_numberOfTrailingZeros_0f7a4_23 (by decide) h (fun h => ?_) (fun h => ?_)
    · refine g_sub [1, 0] rfl ?_
      exact hj34 _ h
    · refine g_iincn (pc := 26) (j := 0) (d := 16) (lv' := fun v11 => [(1, .int v11), (0, .int v1)]) C dJ6_numberOfTrailingZeros_0f7a4_26 rfl (by decide) (by decide) (fun _ => rfl) h (fun v11 h => ?_)
      refine g_iload_n (pc := 29) C dJ6_numberOfTrailingZeros_0f7a4_29 rfl 1 rfl ?_
      refine g_bipush (pc := 30) (v := 16) C dJ6_numberOfTrailingZeros_0f7a4_30 (by decide) ?_
      refine g_iushr (pc := 32) C dJ6_numberOfTrailingZeros_0f7a4_32 ?_
      refine g_nm h (fun v12 h => ?_)
      refine g_istore_n (pc := 33) (lv' := [(0, .int v12), (1, .int v11)]) C dJ6_numberOfTrailingZeros_0f7a4_33 rfl (by decide) rfl ?_
      exact hj34 _ h
  · refine g_iload_n (pc := 12) C dJ6_numberOfTrailingZeros_0f7a4_12 rfl 0 rfl ?_
    refine g_bipush (pc := 13) (v := 32) C dJ6_numberOfTrailingZeros_0f7a4_13 (by decide) ?_
    refine g_iand (pc := 15) C dJ6_numberOfTrailingZeros_0f7a4_15 ?_
    cases h
    exact hret _ _ _ dJ6_numberOfTrailingZeros_0f7a4_16 rfl rfl
abbrev W_J7_fill_53178 (E : GE) (q0 : Nat) (n0 : Nat) (f0 : (Nat → Int32)) : va_W := [(q0, .inl (E.2.1, n0, .inl f0))]
def L_J7_fill_53178_5 (n0 : Nat) (x1 : Int32) (x3 : Int32) : Nat → Int32 × (Nat → Int32) → Option ((Nat → Int32)) := lp fun go s => if x3 ≤ s.1 then (some s.2) else wr s.2 n0 s.1 x1 fun g2 => nm (s.1 + (1 : Int32)) fun v3 => go (v3, g2)
def f_J7_fill_53178 (n0 : Nat) (f0 : (Nat → Int32)) (x1 : Int32) : Option ((Nat → Int32)) := nm (Int32.ofNat n0) fun v1 => L_J7_fill_53178_5 n0 x1 v1 fu ((0 : Int32), f0)
theorem dJ7_fill_53178_0 : decode cJ7_fill_53178 0 = .ok (.iconst 0, 1) := by decide +kernel
theorem dJ7_fill_53178_1 : decode cJ7_fill_53178 1 = .ok (.istore_n 2, 1) := by decide +kernel
theorem dJ7_fill_53178_2 : decode cJ7_fill_53178 2 = .ok (.aload_n 0, 1) := by decide +kernel
theorem dJ7_fill_53178_3 : decode cJ7_fill_53178 3 = .ok (.arraylength, 1) := by decide +kernel
theorem dJ7_fill_53178_4 : decode cJ7_fill_53178 4 = .ok (.istore_n 3, 1) := by decide +kernel
theorem dJ7_fill_53178_5 : decode cJ7_fill_53178 5 = .ok (.iload_n 2, 1) := by decide +kernel
theorem dJ7_fill_53178_6 : decode cJ7_fill_53178 6 = .ok (.iload_n 3, 1) := by decide +kernel
theorem dJ7_fill_53178_7 : decode cJ7_fill_53178 7 = .ok (.if_icmp .ge 13, 3) := by decide +kernel
theorem dJ7_fill_53178_10 : decode cJ7_fill_53178 10 = .ok (.aload_n 0, 1) := by decide +kernel
theorem dJ7_fill_53178_11 : decode cJ7_fill_53178 11 = .ok (.iload_n 2, 1) := by decide +kernel
theorem dJ7_fill_53178_12 : decode cJ7_fill_53178 12 = .ok (.iload_n 1, 1) := by decide +kernel
theorem dJ7_fill_53178_13 : decode cJ7_fill_53178 13 = .ok (.iastore, 1) := by decide +kernel
theorem dJ7_fill_53178_14 : decode cJ7_fill_53178 14 = .ok (.iinc 2 1, 3) := by decide +kernel
theorem dJ7_fill_53178_17 : decode cJ7_fill_53178 17 = .ok (.goto (-12), 3) := by decide +kernel
theorem dJ7_fill_53178_20 : decode cJ7_fill_53178 20 = .ok (.return_, 1) := by decide +kernel
set_option maxHeartbeats 4000000 in
set_option maxRecDepth 100000 in
theorem kL_J7_fill_53178_5 {X : GC} {E : GE} (C : Cx X E cJ7_fill_53178 RJ7 1 4) (q0 : Nat) (n0 : Nat) (x1 : Int32) (x3 : Int32) {r : (Nat → Int32)} (hret : RtV X E cJ7_fill_53178 0 0 (fun w => w = (W_J7_fill_53178 E q0 n0 r))) : ∀ (n : Nat) (s : Int32 × (Nat → Int32)), L_J7_fill_53178_5 n0 x1 x3 n s = some r → Gx X E 0 0 (W_J7_fill_53178 E q0 n0 s.2) 5 [(0, .ref q0), (1, .int x1), (2, .int s.1), (3, .int x3)] [] := by
  unfold L_J7_fill_53178_5
  refine lp_ind _ (fun go ih s h => ?_)
  refine g_iload_n (pc := 5) C dJ7_fill_53178_5 rfl 2 rfl ?_
  refine g_iload_n (pc := 6) C dJ7_fill_53178_6 rfl 3 rfl ?_
  refine g_icmp_ge (pc := 7) (tgt := 20) C dJ7_fill_53178_7 (by decide) h (fun h => ?_) (fun h => ?_)
  · cases h
    exact hret _ _ _ dJ7_fill_53178_20 rfl
  · refine g_aload_n (pc := 10) C dJ7_fill_53178_10 rfl 0 rfl ?_
    refine g_iload_n (pc := 11) C dJ7_fill_53178_11 rfl 2 rfl ?_
    refine g_iload_n (pc := 12) C dJ7_fill_53178_12 rfl 1 rfl ?_
    refine g_iast (pc := 13) C dJ7_fill_53178_13 0 rfl h (fun g2 h => ?_)
    refine g_ws (ws' := (W_J7_fill_53178 E q0 n0 g2)) rfl ?_
    refine g_iincn (pc := 14) (j := 2) (d := 1) (lv' := fun v3 => [(2, .int v3), (0, .ref q0), (1, .int x1), (3, .int x3)]) C dJ7_fill_53178_14 rfl (by decide) (by decide) (fun _ => rfl) h (fun v3 h => ?_)
    refine g_goto (pc := 17) (tgt := 5) C dJ7_fill_53178_17 (by decide) ?_
    refine g_sub [1, 2, 0, 3] rfl ?_
    exact ih _ h
set_option maxHeartbeats 4000000 in
set_option maxRecDepth 100000 in
theorem c_J7_fill_53178 (l : Launch) (E : GE) (q0 : Nat) (n0 : Nat) (f0 : (Nat → Int32)) (x1 : Int32) (r : (Nat → Int32)) (h : f_J7_fill_53178 n0 f0 x1 = some r) : Cn l E yJ7_fill_53178 cJ7_fill_53178 4 none 1 0 0 [.ref q0, .int x1] (W_J7_fill_53178 E q0 n0 f0) (fun w => w = (W_J7_fill_53178 E q0 n0 r)) none := by
  refine Cn.ofV (by decide) (Nat.le_of_ble_eq_true rfl) (fun X hX hR C hret => ?_)
  subst hX
  show Gx X E 0 0 (W_J7_fill_53178 E q0 n0 f0) 0 [(0, .ref q0), (1, .int x1)] []
  unfold f_J7_fill_53178 at h
  refine g_iconst (pc := 0) (v := 0) C dJ7_fill_53178_0 (by decide) ?_
  refine g_istore_n (pc := 1) (lv' := [(2, .int (0 : Int32)), (0, .ref q0), (1, .int x1)]) C dJ7_fill_53178_1 rfl (by decide) rfl ?_
  refine g_aload_n (pc := 2) C dJ7_fill_53178_2 rfl 1 rfl ?_
  refine g_alen (pc := 3) C dJ7_fill_53178_3 0 rfl rfl ?_
  refine g_nm h (fun v1 h => ?_)
  refine g_istore_n (pc := 4) (lv' := [(3, .int v1), (2, .int (0 : Int32)), (0, .ref q0), (1, .int x1)]) C dJ7_fill_53178_4 rfl (by decide) rfl ?_
  refine g_sub [2, 3, 1, 0] rfl ?_
  refine kL_J7_fill_53178_5 C q0 n0 x1 v1 hret  _ _ h
abbrev W_J7_rangeCheck_23922 (E : GE) : va_W := []
def f_J7_rangeCheck_23922 (x0 : Int32) (x1 : Int32) (x2 : Int32) : Option (Unit) := if x1 ≤ x2 then (if 0 ≤ x1 then (if x2 ≤ x0 then (some ()) else none) else none) else none
theorem dJ7_rangeCheck_23922_0 : decode cJ7_rangeCheck_23922 0 = .ok (.iload_n 1, 1) := by decide +kernel
theorem dJ7_rangeCheck_23922_1 : decode cJ7_rangeCheck_23922 1 = .ok (.iload_n 2, 1) := by decide +kernel
theorem dJ7_rangeCheck_23922_2 : decode cJ7_rangeCheck_23922 2 = .ok (.if_icmp .le 44, 3) := by decide +kernel
theorem dJ7_rangeCheck_23922_46 : decode cJ7_rangeCheck_23922 46 = .ok (.iload_n 1, 1) := by decide +kernel
theorem dJ7_rangeCheck_23922_47 : decode cJ7_rangeCheck_23922 47 = .ok (.ifCond .ge 12, 3) := by decide +kernel
theorem dJ7_rangeCheck_23922_59 : decode cJ7_rangeCheck_23922 59 = .ok (.iload_n 2, 1) := by decide +kernel
theorem dJ7_rangeCheck_23922_60 : decode cJ7_rangeCheck_23922 60 = .ok (.iload_n 0, 1) := by decide +kernel
theorem dJ7_rangeCheck_23922_61 : decode cJ7_rangeCheck_23922 61 = .ok (.if_icmp .le 12, 3) := by decide +kernel
theorem dJ7_rangeCheck_23922_73 : decode cJ7_rangeCheck_23922 73 = .ok (.return_, 1) := by decide +kernel
set_option maxHeartbeats 4000000 in
set_option maxRecDepth 100000 in
theorem c_J7_rangeCheck_23922 (l : Launch) (E : GE) (x0 : Int32) (x1 : Int32) (x2 : Int32) (r : Unit) (h : f_J7_rangeCheck_23922 x0 x1 x2 = some r) : Cn l E yJ7_rangeCheck_23922 cJ7_rangeCheck_23922 3 none 1 0 0 [.int x0, .int x1, .int x2] (W_J7_rangeCheck_23922 E) (fun w => w = (W_J7_rangeCheck_23922 E)) none := by
  refine Cn.ofV (by decide) (Nat.le_of_ble_eq_true rfl) (fun X hX hR C hret => ?_)
  subst hX
  show Gx X E 0 0 (W_J7_rangeCheck_23922 E) 0 [(0, .int x0), (1, .int x1), (2, .int x2)] []
  unfold f_J7_rangeCheck_23922 at h
  refine g_iload_n (pc := 0) C dJ7_rangeCheck_23922_0 rfl 1 rfl ?_
  refine g_iload_n (pc := 1) C dJ7_rangeCheck_23922_1 rfl 2 rfl ?_
  refine g_icmp_le (pc := 2) (tgt := 46) C dJ7_rangeCheck_23922_2 (by decide) h (fun h => ?_) (fun h => ?_)
  · refine g_iload_n (pc := 46) C dJ7_rangeCheck_23922_46 rfl 1 rfl ?_
    refine g_if_ge (pc := 47) (tgt := 59) C dJ7_rangeCheck_23922_47 (by decide) h (fun h => ?_) (fun h => ?_)
    · refine g_iload_n (pc := 59) C dJ7_rangeCheck_23922_59 rfl 2 rfl ?_
      refine g_iload_n (pc := 60) C dJ7_rangeCheck_23922_60 rfl 0 rfl ?_
      refine g_icmp_le (pc := 61) (tgt := 73) C dJ7_rangeCheck_23922_61 (by decide) h (fun h => ?_) (fun h => ?_)
      · cases h
        exact hret _ _ _ dJ7_rangeCheck_23922_73 rfl
      · cases h
    · cases h
  · cases h
abbrev W_J9_abs_0f7a4 (E : GE) : va_W := []
def f_J9_abs_0f7a4 (x0 : Int32) : Option (Int32) := if 0 ≤ x0 then (some x0) else some (-x0)
theorem dJ9_abs_0f7a4_0 : decode cJ9_abs_0f7a4 0 = .ok (.iload_n 0, 1) := by decide +kernel
theorem dJ9_abs_0f7a4_1 : decode cJ9_abs_0f7a4 1 = .ok (.ifCond .ge 8, 3) := by decide +kernel
theorem dJ9_abs_0f7a4_4 : decode cJ9_abs_0f7a4 4 = .ok (.iload_n 0, 1) := by decide +kernel
theorem dJ9_abs_0f7a4_5 : decode cJ9_abs_0f7a4 5 = .ok (.ineg, 1) := by decide +kernel
theorem dJ9_abs_0f7a4_6 : decode cJ9_abs_0f7a4 6 = .ok (.goto 4, 3) := by decide +kernel
theorem dJ9_abs_0f7a4_9 : decode cJ9_abs_0f7a4 9 = .ok (.iload_n 0, 1) := by decide +kernel
theorem dJ9_abs_0f7a4_10 : decode cJ9_abs_0f7a4 10 = .ok (.ireturn, 1) := by decide +kernel
set_option maxHeartbeats 4000000 in
set_option maxRecDepth 100000 in
theorem c_J9_abs_0f7a4 (l : Launch) (E : GE) (x0 : Int32) (r : Int32) (h : f_J9_abs_0f7a4 x0 = some r) : Cn l E yJ9_abs_0f7a4 cJ9_abs_0f7a4 1 (some .int) 1 0 0 [.int x0] (W_J9_abs_0f7a4 E) (fun w => w = (W_J9_abs_0f7a4 E)) (some (.int r)) := by
  refine Cn.ofI (by decide) (Nat.le_of_ble_eq_true rfl) (fun X hX hR C hret => ?_)
  subst hX
  show Gx X E 0 0 (W_J9_abs_0f7a4 E) 0 [(0, .int x0)] []
  unfold f_J9_abs_0f7a4 at h
  refine g_iload_n (pc := 0) C dJ9_abs_0f7a4_0 rfl 0 rfl ?_
  refine g_if_ge (pc := 1) (tgt := 9) C dJ9_abs_0f7a4_1 (by decide) h (fun h => ?_) (fun h => ?_)
  · refine g_iload_n (pc := 9) C dJ9_abs_0f7a4_9 rfl 0 rfl ?_
    cases h
    exact hret _ _ _ dJ9_abs_0f7a4_10 rfl rfl
  · refine g_iload_n (pc := 4) C dJ9_abs_0f7a4_4 rfl 0 rfl ?_
    refine g_ineg (pc := 5) C dJ9_abs_0f7a4_5 ?_
    refine g_goto (pc := 6) (tgt := 10) C dJ9_abs_0f7a4_6 (by decide) ?_
    cases h
    exact hret _ _ _ dJ9_abs_0f7a4_10 rfl rfl
abbrev W_J9_floorMod_7cf53 (E : GE) : va_W := []
def f_J9_floorMod_7cf53 (x0 : Int32) (x1 : Int32) : Option (Int32) := rm x0 x1 fun v1 => if 0 ≤ (x0 ^^^ x1) then (some v1) else if v1 = 0 then (some v1) else some (v1 + x1)
theorem dJ9_floorMod_7cf53_0 : decode cJ9_floorMod_7cf53 0 = .ok (.iload_n 0, 1) := by decide +kernel
theorem dJ9_floorMod_7cf53_1 : decode cJ9_floorMod_7cf53 1 = .ok (.iload_n 1, 1) := by decide +kernel
theorem dJ9_floorMod_7cf53_2 : decode cJ9_floorMod_7cf53 2 = .ok (.irem, 1) := by decide +kernel
theorem dJ9_floorMod_7cf53_3 : decode cJ9_floorMod_7cf53 3 = .ok (.istore_n 2, 1) := by decide +kernel
theorem dJ9_floorMod_7cf53_4 : decode cJ9_floorMod_7cf53 4 = .ok (.iload_n 0, 1) := by decide +kernel
theorem dJ9_floorMod_7cf53_5 : decode cJ9_floorMod_7cf53 5 = .ok (.iload_n 1, 1) := by decide +kernel
theorem dJ9_floorMod_7cf53_6 : decode cJ9_floorMod_7cf53 6 = .ok (.ixor, 1) := by decide +kernel
theorem dJ9_floorMod_7cf53_7 : decode cJ9_floorMod_7cf53 7 = .ok (.ifCond .ge 11, 3) := by decide +kernel
theorem dJ9_floorMod_7cf53_10 : decode cJ9_floorMod_7cf53 10 = .ok (.iload_n 2, 1) := by decide +kernel
theorem dJ9_floorMod_7cf53_11 : decode cJ9_floorMod_7cf53 11 = .ok (.ifCond .eq 7, 3) := by decide +kernel
theorem dJ9_floorMod_7cf53_14 : decode cJ9_floorMod_7cf53 14 = .ok (.iload_n 2, 1) := by decide +kernel
theorem dJ9_floorMod_7cf53_15 : decode cJ9_floorMod_7cf53 15 = .ok (.iload_n 1, 1) := by decide +kernel
theorem dJ9_floorMod_7cf53_16 : decode cJ9_floorMod_7cf53 16 = .ok (.iadd, 1) := by decide +kernel
theorem dJ9_floorMod_7cf53_17 : decode cJ9_floorMod_7cf53 17 = .ok (.ireturn, 1) := by decide +kernel
theorem dJ9_floorMod_7cf53_18 : decode cJ9_floorMod_7cf53 18 = .ok (.iload_n 2, 1) := by decide +kernel
theorem dJ9_floorMod_7cf53_19 : decode cJ9_floorMod_7cf53 19 = .ok (.ireturn, 1) := by decide +kernel
set_option maxHeartbeats 4000000 in
set_option maxRecDepth 100000 in
theorem c_J9_floorMod_7cf53 (l : Launch) (E : GE) (x0 : Int32) (x1 : Int32) (r : Int32) (h : f_J9_floorMod_7cf53 x0 x1 = some r) : Cn l E yJ9_floorMod_7cf53 cJ9_floorMod_7cf53 3 (some .int) 1 0 0 [.int x0, .int x1] (W_J9_floorMod_7cf53 E) (fun w => w = (W_J9_floorMod_7cf53 E)) (some (.int r)) := by
  refine Cn.ofI (by decide) (Nat.le_of_ble_eq_true rfl) (fun X hX hR C hret => ?_)
  subst hX
  show Gx X E 0 0 (W_J9_floorMod_7cf53 E) 0 [(0, .int x0), (1, .int x1)] []
  unfold f_J9_floorMod_7cf53 at h
  refine g_iload_n (pc := 0) C dJ9_floorMod_7cf53_0 rfl 0 rfl ?_
  refine g_iload_n (pc := 1) C dJ9_floorMod_7cf53_1 rfl 1 rfl ?_
  refine g_irem (pc := 2) C dJ9_floorMod_7cf53_2 h (fun v1 h => ?_)
  refine g_istore_n (pc := 3) (lv' := [(2, .int v1), (0, .int x0), (1, .int x1)]) C dJ9_floorMod_7cf53_3 rfl (by decide) rfl ?_
  refine g_iload_n (pc := 4) C dJ9_floorMod_7cf53_4 rfl 1 rfl ?_
  refine g_iload_n (pc := 5) C dJ9_floorMod_7cf53_5 rfl 2 rfl ?_
  refine g_ixor (pc := 6) C dJ9_floorMod_7cf53_6 ?_
  refine g_if_ge (pc := 7) (tgt := 18) C dJ9_floorMod_7cf53_7 (by decide) h (fun h => ?_) (fun h => ?_)
  · refine g_iload_n (pc := 18) C dJ9_floorMod_7cf53_18 rfl 0 rfl ?_
    cases h
    exact hret _ _ _ dJ9_floorMod_7cf53_19 rfl rfl
  · refine g_iload_n (pc := 10) C dJ9_floorMod_7cf53_10 rfl 0 rfl ?_
    refine g_if_eq (pc := 11) (tgt := 18) C dJ9_floorMod_7cf53_11 (by decide) h (fun h => ?_) (fun h => ?_)
    · refine g_iload_n (pc := 18) C dJ9_floorMod_7cf53_18 rfl 0 rfl ?_
      cases h
      exact hret _ _ _ dJ9_floorMod_7cf53_19 rfl rfl
    · refine g_iload_n (pc := 14) C dJ9_floorMod_7cf53_14 rfl 0 rfl ?_
      refine g_iload_n (pc := 15) C dJ9_floorMod_7cf53_15 rfl 2 rfl ?_
      refine g_iadd (pc := 16) C dJ9_floorMod_7cf53_16 ?_
      cases h
      exact hret _ _ _ dJ9_floorMod_7cf53_17 rfl rfl
abbrev W_J7_fill_fda19 (E : GE) (q0 : Nat) (n0 : Nat) (f0 : (Nat → Int32)) : va_W := [(q0, .inl (E.2.1, n0, .inl f0))]
def L_J7_fill_fda19_10 (n0 : Nat) (x2 : Int32) (x3 : Int32) : Nat → Int32 × (Nat → Int32) → Option ((Nat → Int32)) := lp fun go s => if x2 ≤ s.1 then (some s.2) else wr s.2 n0 s.1 x3 fun g2 => nm (s.1 + (1 : Int32)) fun v3 => go (v3, g2)
def f_J7_fill_fda19 (n0 : Nat) (f0 : (Nat → Int32)) (x1 : Int32) (x2 : Int32) (x3 : Int32) : Option ((Nat → Int32)) := (f_J7_rangeCheck_23922 (Int32.ofNat n0) x1 x2).bind fun u1 => L_J7_fill_fda19_10 n0 x2 x3 fu (x1, f0)
theorem dJ7_fill_fda19_0 : decode cJ7_fill_fda19 0 = .ok (.aload_n 0, 1) := by decide +kernel
theorem dJ7_fill_fda19_1 : decode cJ7_fill_fda19 1 = .ok (.arraylength, 1) := by decide +kernel
theorem dJ7_fill_fda19_2 : decode cJ7_fill_fda19 2 = .ok (.iload_n 1, 1) := by decide +kernel
theorem dJ7_fill_fda19_3 : decode cJ7_fill_fda19 3 = .ok (.iload_n 2, 1) := by decide +kernel
theorem dJ7_fill_fda19_4 : decode cJ7_fill_fda19 4 = .ok (.invokestatic 13, 3) := by decide +kernel
theorem dJ7_fill_fda19_7 : decode cJ7_fill_fda19 7 = .ok (.iload_n 1, 1) := by decide +kernel
theorem dJ7_fill_fda19_8 : decode cJ7_fill_fda19 8 = .ok (.istore 4, 2) := by decide +kernel
theorem dJ7_fill_fda19_10 : decode cJ7_fill_fda19 10 = .ok (.iload 4, 2) := by decide +kernel
theorem dJ7_fill_fda19_12 : decode cJ7_fill_fda19 12 = .ok (.iload_n 2, 1) := by decide +kernel
theorem dJ7_fill_fda19_13 : decode cJ7_fill_fda19 13 = .ok (.if_icmp .ge 14, 3) := by decide +kernel
theorem dJ7_fill_fda19_16 : decode cJ7_fill_fda19 16 = .ok (.aload_n 0, 1) := by decide +kernel
theorem dJ7_fill_fda19_17 : decode cJ7_fill_fda19 17 = .ok (.iload 4, 2) := by decide +kernel
theorem dJ7_fill_fda19_19 : decode cJ7_fill_fda19 19 = .ok (.iload_n 3, 1) := by decide +kernel
theorem dJ7_fill_fda19_20 : decode cJ7_fill_fda19 20 = .ok (.iastore, 1) := by decide +kernel
theorem dJ7_fill_fda19_21 : decode cJ7_fill_fda19 21 = .ok (.iinc 4 1, 3) := by decide +kernel
theorem dJ7_fill_fda19_24 : decode cJ7_fill_fda19 24 = .ok (.goto (-14), 3) := by decide +kernel
theorem dJ7_fill_fda19_27 : decode cJ7_fill_fda19 27 = .ok (.return_, 1) := by decide +kernel
set_option maxHeartbeats 4000000 in
set_option maxRecDepth 100000 in
theorem kL_J7_fill_fda19_10 {X : GC} {E : GE} (C : Cx X E cJ7_fill_fda19 RJ7 2 5) (q0 : Nat) (n0 : Nat) (x2 : Int32) (x3 : Int32) {r : (Nat → Int32)} (hret : RtV X E cJ7_fill_fda19 0 0 (fun w => w = (W_J7_fill_fda19 E q0 n0 r))) : ∀ (n : Nat) (s : Int32 × (Nat → Int32)), L_J7_fill_fda19_10 n0 x2 x3 n s = some r → Gx X E 0 0 (W_J7_fill_fda19 E q0 n0 s.2) 10 [(0, .ref q0), (2, .int x2), (3, .int x3), (4, .int s.1)] [] := by
  unfold L_J7_fill_fda19_10
  refine lp_ind _ (fun go ih s h => ?_)
  refine g_iload (pc := 10) C dJ7_fill_fda19_10 3 rfl ?_
  refine g_iload_n (pc := 12) C dJ7_fill_fda19_12 rfl 1 rfl ?_
  refine g_icmp_ge (pc := 13) (tgt := 27) C dJ7_fill_fda19_13 (by decide) h (fun h => ?_) (fun h => ?_)
  · cases h
    exact hret _ _ _ dJ7_fill_fda19_27 rfl
  · refine g_aload_n (pc := 16) C dJ7_fill_fda19_16 rfl 0 rfl ?_
    refine g_iload (pc := 17) C dJ7_fill_fda19_17 3 rfl ?_
    refine g_iload_n (pc := 19) C dJ7_fill_fda19_19 rfl 2 rfl ?_
    refine g_iast (pc := 20) C dJ7_fill_fda19_20 0 rfl h (fun g2 h => ?_)
    refine g_ws (ws' := (W_J7_fill_fda19 E q0 n0 g2)) rfl ?_
    refine g_iincn (pc := 21) (j := 3) (d := 1) (lv' := fun v3 => [(4, .int v3), (0, .ref q0), (2, .int x2), (3, .int x3)]) C dJ7_fill_fda19_21 rfl (by decide) (by decide) (fun _ => rfl) h (fun v3 h => ?_)
    refine g_goto (pc := 24) (tgt := 10) C dJ7_fill_fda19_24 (by decide) ?_
    refine g_sub [1, 2, 3, 0] rfl ?_
    exact ih _ h
set_option maxHeartbeats 4000000 in
set_option maxRecDepth 100000 in
theorem c_J7_fill_fda19 (l : Launch) (E : GE) (q0 : Nat) (n0 : Nat) (f0 : (Nat → Int32)) (x1 : Int32) (x2 : Int32) (x3 : Int32) (r : (Nat → Int32)) (h : f_J7_fill_fda19 n0 f0 x1 x2 x3 = some r) : Cn l E yJ7_fill_fda19 cJ7_fill_fda19 5 none 2 0 0 [.ref q0, .int x1, .int x2, .int x3] (W_J7_fill_fda19 E q0 n0 f0) (fun w => w = (W_J7_fill_fda19 E q0 n0 r)) none := by
  refine Cn.ofV (by decide) (Nat.le_of_ble_eq_true rfl) (fun X hX hR C hret => ?_)
  subst hX
  show Gx X E 0 0 (W_J7_fill_fda19 E q0 n0 f0) 0 [(0, .ref q0), (1, .int x1), (2, .int x2), (3, .int x3)] []
  unfold f_J7_fill_fda19 at h
  refine g_aload_n (pc := 0) C dJ7_fill_fda19_0 rfl 0 rfl ?_
  refine g_alen (pc := 1) C dJ7_fill_fda19_1 0 rfl rfl ?_
  refine g_iload_n (pc := 2) C dJ7_fill_fda19_2 rfl 1 rfl ?_
  refine g_iload_n (pc := 3) C dJ7_fill_fda19_3 rfl 2 rfl ?_
  obtain ⟨u1, hu1, h⟩ := bs h
  refine g_callS (pc := 4) (st := []) (st1 := []) (ws' := (W_J7_fill_fda19 E q0 n0 f0)) C mv_J7_rangeCheck_23922 ms_J7_rangeCheck_23922 ml_J7_13 (c_J7_rangeCheck_23922 X.2.1 E (Int32.ofNat n0) x1 x2 u1 hu1) dJ7_fill_fda19_4 (by decide) rfl (Nat.le_of_ble_eq_true rfl) [] rfl (by decide) rfl rfl rfl rfl ?_
  refine g_iload_n (pc := 7) C dJ7_fill_fda19_7 rfl 1 rfl ?_
  refine g_istore (pc := 8) (lv' := [(4, .int x1), (0, .ref q0), (1, .int x1), (2, .int x2), (3, .int x3)]) C dJ7_fill_fda19_8 (by decide) rfl ?_
  refine g_sub [1, 3, 4, 0] rfl ?_
  refine kL_J7_fill_fda19_10 C q0 n0 x2 x3 hret  _ _ h
abbrev W_X11_isWithin (E : GE) : va_W := []
def f_X11_isWithin (x0 : Int32) (x1 : Int32) (x2 : Int32) : Option (Int32) := if x0 < x1 then (some (0 : Int32)) else if x2 < x0 then (some (0 : Int32)) else some (1 : Int32)
theorem dX11_isWithin_0 : decode cX11_isWithin 0 = .ok (.iload_n 0, 1) := by decide +kernel
theorem dX11_isWithin_1 : decode cX11_isWithin 1 = .ok (.iload_n 1, 1) := by decide +kernel
theorem dX11_isWithin_2 : decode cX11_isWithin 2 = .ok (.if_icmp .lt 12, 3) := by decide +kernel
theorem dX11_isWithin_5 : decode cX11_isWithin 5 = .ok (.iload_n 0, 1) := by decide +kernel
theorem dX11_isWithin_6 : decode cX11_isWithin 6 = .ok (.iload_n 2, 1) := by decide +kernel
theorem dX11_isWithin_7 : decode cX11_isWithin 7 = .ok (.if_icmp .gt 7, 3) := by decide +kernel
theorem dX11_isWithin_10 : decode cX11_isWithin 10 = .ok (.iconst 1, 1) := by decide +kernel
theorem dX11_isWithin_11 : decode cX11_isWithin 11 = .ok (.goto 4, 3) := by decide +kernel
theorem dX11_isWithin_14 : decode cX11_isWithin 14 = .ok (.iconst 0, 1) := by decide +kernel
theorem dX11_isWithin_15 : decode cX11_isWithin 15 = .ok (.ireturn, 1) := by decide +kernel
set_option maxHeartbeats 4000000 in
set_option maxRecDepth 100000 in
theorem c_X11_isWithin (l : Launch) (E : GE) (x0 : Int32) (x1 : Int32) (x2 : Int32) (r : Int32) (h : f_X11_isWithin x0 x1 x2 = some r) : Cn l E yX11_isWithin cX11_isWithin 3 (some .boolean) 1 0 0 [.int x0, .int x1, .int x2] (W_X11_isWithin E) (fun w => w = (W_X11_isWithin E)) (some (.int r)) := by
  refine Cn.ofI (by decide) (Nat.le_of_ble_eq_true rfl) (fun X hX hR C hret => ?_)
  subst hX
  show Gx X E 0 0 (W_X11_isWithin E) 0 [(0, .int x0), (1, .int x1), (2, .int x2)] []
  unfold f_X11_isWithin at h
  refine g_iload_n (pc := 0) C dX11_isWithin_0 rfl 0 rfl ?_
  refine g_iload_n (pc := 1) C dX11_isWithin_1 rfl 1 rfl ?_
  refine g_icmp_lt (pc := 2) (tgt := 14) C dX11_isWithin_2 (by decide) h (fun h => ?_) (fun h => ?_)
  · refine g_iconst (pc := 14) (v := 0) C dX11_isWithin_14 (by decide) ?_
    cases h
    exact hret _ _ _ dX11_isWithin_15 (by decide) rfl
  · refine g_iload_n (pc := 5) C dX11_isWithin_5 rfl 0 rfl ?_
    refine g_iload_n (pc := 6) C dX11_isWithin_6 rfl 2 rfl ?_
    refine g_icmp_gt (pc := 7) (tgt := 14) C dX11_isWithin_7 (by decide) h (fun h => ?_) (fun h => ?_)
    · refine g_iconst (pc := 14) (v := 0) C dX11_isWithin_14 (by decide) ?_
      cases h
      exact hret _ _ _ dX11_isWithin_15 (by decide) rfl
    · refine g_iconst (pc := 10) (v := 1) C dX11_isWithin_10 (by decide) ?_
      refine g_goto (pc := 11) (tgt := 15) C dX11_isWithin_11 (by decide) ?_
      cases h
      exact hret _ _ _ dX11_isWithin_15 (by decide) rfl
end
section
abbrev W_X9_copy (E : GE) (O_t : Nat) (a_t : Nat → Nat) (O_p1 : Nat) (a_p1 : Nat → Nat) (t_told : Int32) (t_round : Int32) (t_x : Int32) (t_rust : (Nat → Int32)) (t_rooms : (Nat → Int32)) (t_hair : (Nat → Int32)) (t_pins : (Nat → Int32)) (p1_told : Int32) (p1_round : Int32) (p1_x : Int32) (p1_rust : (Nat → Int32)) (p1_rooms : (Nat → Int32)) (p1_hair : (Nat → Int32)) (p1_pins : (Nat → Int32)) : va_W := [(O_t, ob_X9 a_t t_told t_round t_x), (a_t 0, .inl (E.2.1, 24, .inl t_rust)), (a_t 1, .inl (E.2.1, 10, .inl t_rooms)), (a_t 2, .inl (E.2.1, 60, .inl t_hair)), (a_t 3, .inl (E.2.1, 60, .inl t_pins)), (O_p1, ob_X9 a_p1 p1_told p1_round p1_x), (a_p1 0, .inl (E.2.1, 24, .inl p1_rust)), (a_p1 1, .inl (E.2.1, 10, .inl p1_rooms)), (a_p1 2, .inl (E.2.1, 60, .inl p1_hair)), (a_p1 3, .inl (E.2.1, 60, .inl p1_pins))]
def f_X9_copy (t_told : Int32) (t_round : Int32) (t_x : Int32) (t_rust : (Nat → Int32)) (t_rooms : (Nat → Int32)) (t_hair : (Nat → Int32)) (t_pins : (Nat → Int32)) (p1_told : Int32) (p1_round : Int32) (p1_x : Int32) (p1_rust : (Nat → Int32)) (p1_rooms : (Nat → Int32)) (p1_hair : (Nat → Int32)) (p1_pins : (Nat → Int32)) : Option (Int32 × Int32 × Int32 × (Nat → Int32) × (Nat → Int32) × (Nat → Int32) × (Nat → Int32)) := cpy p1_rust 24 t_rust 24 (0 : Int32) (0 : Int32) (24 : Int32) fun g1 => cpy p1_rooms 10 t_rooms 10 (0 : Int32) (0 : Int32) (10 : Int32) fun g2 => cpy p1_hair 60 t_hair 60 (0 : Int32) (0 : Int32) (60 : Int32) fun g3 => cpy p1_pins 60 t_pins 60 (0 : Int32) (0 : Int32) (60 : Int32) fun g4 => some (p1_told, p1_round, p1_x, g1, g2, g3, g4)
theorem dX9_copy_0 : decode cX9_copy 0 = .ok (.aload_n 1, 1) := by decide +kernel
theorem dX9_copy_1 : decode cX9_copy 1 = .ok (.getfield 9, 3) := by decide +kernel
theorem dX9_copy_4 : decode cX9_copy 4 = .ok (.iconst 0, 1) := by decide +kernel
theorem dX9_copy_5 : decode cX9_copy 5 = .ok (.aload_n 0, 1) := by decide +kernel
theorem dX9_copy_6 : decode cX9_copy 6 = .ok (.getfield 9, 3) := by decide +kernel
theorem dX9_copy_9 : decode cX9_copy 9 = .ok (.iconst 0, 1) := by decide +kernel
theorem dX9_copy_10 : decode cX9_copy 10 = .ok (.bipush 24, 2) := by decide +kernel
theorem dX9_copy_12 : decode cX9_copy 12 = .ok (.invokestatic 28, 3) := by decide +kernel
theorem dX9_copy_15 : decode cX9_copy 15 = .ok (.aload_n 1, 1) := by decide +kernel
theorem dX9_copy_16 : decode cX9_copy 16 = .ok (.getfield 15, 3) := by decide +kernel
theorem dX9_copy_19 : decode cX9_copy 19 = .ok (.iconst 0, 1) := by decide +kernel
theorem dX9_copy_20 : decode cX9_copy 20 = .ok (.aload_n 0, 1) := by decide +kernel
theorem dX9_copy_21 : decode cX9_copy 21 = .ok (.getfield 15, 3) := by decide +kernel
theorem dX9_copy_24 : decode cX9_copy 24 = .ok (.iconst 0, 1) := by decide +kernel
theorem dX9_copy_25 : decode cX9_copy 25 = .ok (.bipush 10, 2) := by decide +kernel
theorem dX9_copy_27 : decode cX9_copy 27 = .ok (.invokestatic 28, 3) := by decide +kernel
theorem dX9_copy_30 : decode cX9_copy 30 = .ok (.aload_n 1, 1) := by decide +kernel
theorem dX9_copy_31 : decode cX9_copy 31 = .ok (.getfield 18, 3) := by decide +kernel
theorem dX9_copy_34 : decode cX9_copy 34 = .ok (.iconst 0, 1) := by decide +kernel
theorem dX9_copy_35 : decode cX9_copy 35 = .ok (.aload_n 0, 1) := by decide +kernel
theorem dX9_copy_36 : decode cX9_copy 36 = .ok (.getfield 18, 3) := by decide +kernel
theorem dX9_copy_39 : decode cX9_copy 39 = .ok (.iconst 0, 1) := by decide +kernel
theorem dX9_copy_40 : decode cX9_copy 40 = .ok (.bipush 60, 2) := by decide +kernel
theorem dX9_copy_42 : decode cX9_copy 42 = .ok (.invokestatic 28, 3) := by decide +kernel
theorem dX9_copy_45 : decode cX9_copy 45 = .ok (.aload_n 1, 1) := by decide +kernel
theorem dX9_copy_46 : decode cX9_copy 46 = .ok (.getfield 21, 3) := by decide +kernel
theorem dX9_copy_49 : decode cX9_copy 49 = .ok (.iconst 0, 1) := by decide +kernel
theorem dX9_copy_50 : decode cX9_copy 50 = .ok (.aload_n 0, 1) := by decide +kernel
theorem dX9_copy_51 : decode cX9_copy 51 = .ok (.getfield 21, 3) := by decide +kernel
theorem dX9_copy_54 : decode cX9_copy 54 = .ok (.iconst 0, 1) := by decide +kernel
theorem dX9_copy_55 : decode cX9_copy 55 = .ok (.bipush 60, 2) := by decide +kernel
theorem dX9_copy_57 : decode cX9_copy 57 = .ok (.invokestatic 28, 3) := by decide +kernel
theorem dX9_copy_60 : decode cX9_copy 60 = .ok (.aload_n 0, 1) := by decide +kernel
theorem dX9_copy_61 : decode cX9_copy 61 = .ok (.aload_n 1, 1) := by decide +kernel
theorem dX9_copy_62 : decode cX9_copy 62 = .ok (.getfield 34, 3) := by decide +kernel
theorem dX9_copy_65 : decode cX9_copy 65 = .ok (.putfield 34, 3) := by decide +kernel
theorem dX9_copy_68 : decode cX9_copy 68 = .ok (.aload_n 0, 1) := by decide +kernel
theorem dX9_copy_69 : decode cX9_copy 69 = .ok (.aload_n 1, 1) := by decide +kernel
theorem dX9_copy_70 : decode cX9_copy 70 = .ok (.getfield 37, 3) := by decide +kernel
theorem dX9_copy_73 : decode cX9_copy 73 = .ok (.putfield 37, 3) := by decide +kernel
theorem dX9_copy_76 : decode cX9_copy 76 = .ok (.aload_n 0, 1) := by decide +kernel
theorem dX9_copy_77 : decode cX9_copy 77 = .ok (.aload_n 1, 1) := by decide +kernel
theorem dX9_copy_78 : decode cX9_copy 78 = .ok (.getfield 24, 3) := by decide +kernel
theorem dX9_copy_81 : decode cX9_copy 81 = .ok (.putfield 24, 3) := by decide +kernel
theorem dX9_copy_84 : decode cX9_copy 84 = .ok (.return_, 1) := by decide +kernel
set_option maxHeartbeats 4000000 in
set_option maxRecDepth 100000 in
theorem c_X9_copy (l : Launch) (E : GE) (o_t : Nat) (a_t : Nat → Nat) (o_p1 : Nat) (a_p1 : Nat → Nat) (t_told : Int32) (t_round : Int32) (t_x : Int32) (t_rust : (Nat → Int32)) (t_rooms : (Nat → Int32)) (t_hair : (Nat → Int32)) (t_pins : (Nat → Int32)) (p1_told : Int32) (p1_round : Int32) (p1_x : Int32) (p1_rust : (Nat → Int32)) (p1_rooms : (Nat → Int32)) (p1_hair : (Nat → Int32)) (p1_pins : (Nat → Int32)) (r : Int32 × Int32 × Int32 × (Nat → Int32) × (Nat → Int32) × (Nat → Int32) × (Nat → Int32)) (h : f_X9_copy t_told t_round t_x t_rust t_rooms t_hair t_pins p1_told p1_round p1_x p1_rust p1_rooms p1_hair p1_pins = some r) : Cn l E yX9_copy cX9_copy 2 none 1 0 0 [.ref o_t, .ref o_p1] (W_X9_copy E o_t a_t o_p1 a_p1 t_told t_round t_x t_rust t_rooms t_hair t_pins p1_told p1_round p1_x p1_rust p1_rooms p1_hair p1_pins) (fun w => w = (W_X9_copy E o_t a_t o_p1 a_p1 r.1 r.2.1 r.2.2.1 r.2.2.2.1 r.2.2.2.2.1 r.2.2.2.2.2.1 r.2.2.2.2.2.2 p1_told p1_round p1_x p1_rust p1_rooms p1_hair p1_pins)) none := by
  refine Cn.ofV (by decide) (Nat.le_of_ble_eq_true rfl) (fun X hX hR C hret => ?_)
  subst hX
  show Gx X E 0 0 (W_X9_copy E o_t a_t o_p1 a_p1 t_told t_round t_x t_rust t_rooms t_hair t_pins p1_told p1_round p1_x p1_rust p1_rooms p1_hair p1_pins) 0 [(0, .ref o_t), (1, .ref o_p1)] []
  unfold f_X9_copy at h
  refine g_aload_n (pc := 0) C dX9_copy_0 rfl 1 rfl ?_
  refine g_get (pc := 1) C fl_X9_9 dX9_copy_1 5 rfl rfl ?_
  refine g_iconst (pc := 4) (v := 0) C dX9_copy_4 (by decide) ?_
  refine g_aload_n (pc := 5) C dX9_copy_5 rfl 0 rfl ?_
  refine g_get (pc := 6) C fl_X9_9 dX9_copy_6 0 rfl rfl ?_
  refine g_iconst (pc := 9) (v := 0) C dX9_copy_9 (by decide) ?_
  refine g_bipush (pc := 10) (v := 24) C dX9_copy_10 (by decide) ?_
  refine g_copy (pc := 12) C ml_X9_28 mnat_copy ms_copy mini_System (Nat.le_of_ble_eq_true rfl) dX9_copy_12 6 1 rfl rfl h (fun g1 h => ?_)
  refine g_ws (ws' := (W_X9_copy E o_t a_t o_p1 a_p1 t_told t_round t_x g1 t_rooms t_hair t_pins p1_told p1_round p1_x p1_rust p1_rooms p1_hair p1_pins)) rfl ?_
  refine g_aload_n (pc := 15) C dX9_copy_15 rfl 1 rfl ?_
  refine g_get (pc := 16) C fl_X9_15 dX9_copy_16 5 rfl rfl ?_
  refine g_iconst (pc := 19) (v := 0) C dX9_copy_19 (by decide) ?_
  refine g_aload_n (pc := 20) C dX9_copy_20 rfl 0 rfl ?_
  refine g_get (pc := 21) C fl_X9_15 dX9_copy_21 0 rfl rfl ?_
  refine g_iconst (pc := 24) (v := 0) C dX9_copy_24 (by decide) ?_
  refine g_bipush (pc := 25) (v := 10) C dX9_copy_25 (by decide) ?_
  refine g_copy (pc := 27) C ml_X9_28 mnat_copy ms_copy mini_System (Nat.le_of_ble_eq_true rfl) dX9_copy_27 7 2 rfl rfl h (fun g2 h => ?_)
  refine g_ws (ws' := (W_X9_copy E o_t a_t o_p1 a_p1 t_told t_round t_x g1 g2 t_hair t_pins p1_told p1_round p1_x p1_rust p1_rooms p1_hair p1_pins)) rfl ?_
  refine g_aload_n (pc := 30) C dX9_copy_30 rfl 1 rfl ?_
  refine g_get (pc := 31) C fl_X9_18 dX9_copy_31 5 rfl rfl ?_
  refine g_iconst (pc := 34) (v := 0) C dX9_copy_34 (by decide) ?_
  refine g_aload_n (pc := 35) C dX9_copy_35 rfl 0 rfl ?_
  refine g_get (pc := 36) C fl_X9_18 dX9_copy_36 0 rfl rfl ?_
  refine g_iconst (pc := 39) (v := 0) C dX9_copy_39 (by decide) ?_
  refine g_bipush (pc := 40) (v := 60) C dX9_copy_40 (by decide) ?_
  refine g_copy (pc := 42) C ml_X9_28 mnat_copy ms_copy mini_System (Nat.le_of_ble_eq_true rfl) dX9_copy_42 8 3 rfl rfl h (fun g3 h => ?_)
  refine g_ws (ws' := (W_X9_copy E o_t a_t o_p1 a_p1 t_told t_round t_x g1 g2 g3 t_pins p1_told p1_round p1_x p1_rust p1_rooms p1_hair p1_pins)) rfl ?_
  refine g_aload_n (pc := 45) C dX9_copy_45 rfl 1 rfl ?_
  refine g_get (pc := 46) C fl_X9_21 dX9_copy_46 5 rfl rfl ?_
  refine g_iconst (pc := 49) (v := 0) C dX9_copy_49 (by decide) ?_
  refine g_aload_n (pc := 50) C dX9_copy_50 rfl 0 rfl ?_
  refine g_get (pc := 51) C fl_X9_21 dX9_copy_51 0 rfl rfl ?_
  refine g_iconst (pc := 54) (v := 0) C dX9_copy_54 (by decide) ?_
  refine g_bipush (pc := 55) (v := 60) C dX9_copy_55 (by decide) ?_
  refine g_copy (pc := 57) C ml_X9_28 mnat_copy ms_copy mini_System (Nat.le_of_ble_eq_true rfl) dX9_copy_57 9 4 rfl rfl h (fun g4 h => ?_)
  refine g_ws (ws' := (W_X9_copy E o_t a_t o_p1 a_p1 t_told t_round t_x g1 g2 g3 g4 p1_told p1_round p1_x p1_rust p1_rooms p1_hair p1_pins)) rfl ?_
  refine g_aload_n (pc := 60) C dX9_copy_60 rfl 0 rfl ?_
  refine g_aload_n (pc := 61) C dX9_copy_61 rfl 1 rfl ?_
  refine g_get (pc := 62) C fl_X9_34 dX9_copy_62 5 rfl rfl ?_
  refine g_put (pc := 65) (ws' := (W_X9_copy E o_t a_t o_p1 a_p1 p1_told t_round t_x g1 g2 g3 g4 p1_told p1_round p1_x p1_rust p1_rooms p1_hair p1_pins)) C .int fl_X9_34 dX9_copy_65 0 rfl (by decide +kernel) rfl rfl (by decide) rfl ?_
  refine g_aload_n (pc := 68) C dX9_copy_68 rfl 0 rfl ?_
  refine g_aload_n (pc := 69) C dX9_copy_69 rfl 1 rfl ?_
  refine g_get (pc := 70) C fl_X9_37 dX9_copy_70 5 rfl rfl ?_
  refine g_put (pc := 73) (ws' := (W_X9_copy E o_t a_t o_p1 a_p1 p1_told p1_round t_x g1 g2 g3 g4 p1_told p1_round p1_x p1_rust p1_rooms p1_hair p1_pins)) C .int fl_X9_37 dX9_copy_73 0 rfl (by decide +kernel) rfl rfl (by decide) rfl ?_
  refine g_aload_n (pc := 76) C dX9_copy_76 rfl 0 rfl ?_
  refine g_aload_n (pc := 77) C dX9_copy_77 rfl 1 rfl ?_
  refine g_get (pc := 78) C fl_X9_24 dX9_copy_78 5 rfl rfl ?_
  refine g_put (pc := 81) (ws' := (W_X9_copy E o_t a_t o_p1 a_p1 p1_told p1_round p1_x g1 g2 g3 g4 p1_told p1_round p1_x p1_rust p1_rooms p1_hair p1_pins)) C .int fl_X9_24 dX9_copy_81 0 rfl (by decide +kernel) rfl rfl (by decide) rfl ?_
  cases h
  exact hret _ _ _ dX9_copy_84 rfl
abbrev W_X9_draw (E : GE) (O_t : Nat) (a_t : Nat → Nat) (t_told : Int32) (t_round : Int32) (t_x : Int32) : va_W := [(O_t, ob_X9 a_t t_told t_round t_x)]
def f_X9_draw (t_x : Int32) : Option (Int32 × Int32) := nm ((((25173 : Int32) * t_x) + (13849 : Int32)) &&& (65535 : Int32)) fun v1 => rm v1 (10 : Int32) fun v2 => some (v2, v1)
theorem dX9_draw_0 : decode cX9_draw 0 = .ok (.aload_n 0, 1) := by decide +kernel
theorem dX9_draw_1 : decode cX9_draw 1 = .ok (.sipush 25173, 3) := by decide +kernel
theorem dX9_draw_4 : decode cX9_draw 4 = .ok (.aload_n 0, 1) := by decide +kernel
theorem dX9_draw_5 : decode cX9_draw 5 = .ok (.getfield 24, 3) := by decide +kernel
theorem dX9_draw_8 : decode cX9_draw 8 = .ok (.imul, 1) := by decide +kernel
theorem dX9_draw_9 : decode cX9_draw 9 = .ok (.sipush 13849, 3) := by decide +kernel
theorem dX9_draw_12 : decode cX9_draw 12 = .ok (.iadd, 1) := by decide +kernel
theorem dX9_draw_13 : decode cX9_draw 13 = .ok (.ldc 48, 2) := by decide +kernel
theorem dX9_draw_15 : decode cX9_draw 15 = .ok (.iand, 1) := by decide +kernel
theorem dX9_draw_16 : decode cX9_draw 16 = .ok (.putfield 24, 3) := by decide +kernel
theorem dX9_draw_19 : decode cX9_draw 19 = .ok (.aload_n 0, 1) := by decide +kernel
theorem dX9_draw_20 : decode cX9_draw 20 = .ok (.getfield 24, 3) := by decide +kernel
theorem dX9_draw_23 : decode cX9_draw 23 = .ok (.bipush 10, 2) := by decide +kernel
theorem dX9_draw_25 : decode cX9_draw 25 = .ok (.irem, 1) := by decide +kernel
theorem dX9_draw_26 : decode cX9_draw 26 = .ok (.ireturn, 1) := by decide +kernel
set_option maxHeartbeats 4000000 in
set_option maxRecDepth 100000 in
theorem c_X9_draw (l : Launch) (E : GE) (o_t : Nat) (a_t : Nat → Nat) (t_told : Int32) (t_round : Int32) (t_x : Int32) (r : Int32 × Int32) (h : f_X9_draw t_x = some r) : Cn l E yX9_draw cX9_draw 1 (some .int) 1 0 0 [.ref o_t] (W_X9_draw E o_t a_t t_told t_round t_x) (fun w => w = (W_X9_draw E o_t a_t t_told t_round r.2)) (some (.int r.1)) := by
  refine Cn.ofI (by decide) (Nat.le_of_ble_eq_true rfl) (fun X hX hR C hret => ?_)
  subst hX
  show Gx X E 0 0 (W_X9_draw E o_t a_t t_told t_round t_x) 0 [(0, .ref o_t)] []
  unfold f_X9_draw at h
  refine g_aload_n (pc := 0) C dX9_draw_0 rfl 0 rfl ?_
  refine g_sipush (pc := 1) (v := 25173) C dX9_draw_1 (by decide) ?_
  refine g_aload_n (pc := 4) C dX9_draw_4 rfl 0 rfl ?_
  refine g_get (pc := 5) C fl_X9_24 dX9_draw_5 0 rfl rfl ?_
  refine g_imul (pc := 8) C dX9_draw_8 ?_
  refine g_sipush (pc := 9) (v := 13849) C dX9_draw_9 (by decide) ?_
  refine g_iadd (pc := 12) C dX9_draw_12 ?_
  refine g_ldc (pc := 13) C dX9_draw_13 ct_X9_48 ?_
  refine g_iand (pc := 15) C dX9_draw_15 ?_
  refine g_nm h (fun v1 h => ?_)
  refine g_put (pc := 16) (ws' := (W_X9_draw E o_t a_t t_told t_round v1)) C .int fl_X9_24 dX9_draw_16 0 rfl (by decide +kernel) rfl rfl (by decide) rfl ?_
  refine g_aload_n (pc := 19) C dX9_draw_19 rfl 0 rfl ?_
  refine g_get (pc := 20) C fl_X9_24 dX9_draw_20 0 rfl rfl ?_
  refine g_bipush (pc := 23) (v := 10) C dX9_draw_23 (by decide) ?_
  refine g_irem (pc := 25) C dX9_draw_25 h (fun v2 h => ?_)
  cases h
  exact hret _ _ _ dX9_draw_26 rfl rfl
abbrev W_X9_isTold (E : GE) (O_t : Nat) (a_t : Nat → Nat) (t_told : Int32) (t_round : Int32) (t_x : Int32) : va_W := [(O_t, ob_X9 a_t t_told t_round t_x)]
def f_X9_isTold (t_told : Int32) (x1 : Int32) : Option (Int32) := if x1 < 0 then (some (0 : Int32)) else if (10 : Int32) ≤ x1 then (some (0 : Int32)) else if ((t_told >>> (x1 &&& 31)) &&& (1 : Int32)) = 0 then (some (0 : Int32)) else some (1 : Int32)
theorem dX9_isTold_0 : decode cX9_isTold 0 = .ok (.iload_n 1, 1) := by decide +kernel
theorem dX9_isTold_1 : decode cX9_isTold 1 = .ok (.ifCond .lt 24, 3) := by decide +kernel
theorem dX9_isTold_4 : decode cX9_isTold 4 = .ok (.iload_n 1, 1) := by decide +kernel
theorem dX9_isTold_5 : decode cX9_isTold 5 = .ok (.bipush 10, 2) := by decide +kernel
theorem dX9_isTold_7 : decode cX9_isTold 7 = .ok (.if_icmp .ge 18, 3) := by decide +kernel
theorem dX9_isTold_10 : decode cX9_isTold 10 = .ok (.aload_n 0, 1) := by decide +kernel
theorem dX9_isTold_11 : decode cX9_isTold 11 = .ok (.getfield 34, 3) := by decide +kernel
theorem dX9_isTold_14 : decode cX9_isTold 14 = .ok (.iload_n 1, 1) := by decide +kernel
theorem dX9_isTold_15 : decode cX9_isTold 15 = .ok (.ishr, 1) := by decide +kernel
theorem dX9_isTold_16 : decode cX9_isTold 16 = .ok (.iconst 1, 1) := by decide +kernel
theorem dX9_isTold_17 : decode cX9_isTold 17 = .ok (.iand, 1) := by decide +kernel
theorem dX9_isTold_18 : decode cX9_isTold 18 = .ok (.ifCond .eq 7, 3) := by decide +kernel
theorem dX9_isTold_21 : decode cX9_isTold 21 = .ok (.iconst 1, 1) := by decide +kernel
theorem dX9_isTold_22 : decode cX9_isTold 22 = .ok (.goto 4, 3) := by decide +kernel
theorem dX9_isTold_25 : decode cX9_isTold 25 = .ok (.iconst 0, 1) := by decide +kernel
theorem dX9_isTold_26 : decode cX9_isTold 26 = .ok (.ireturn, 1) := by decide +kernel
set_option maxHeartbeats 4000000 in
set_option maxRecDepth 100000 in
theorem c_X9_isTold (l : Launch) (E : GE) (o_t : Nat) (a_t : Nat → Nat) (t_told : Int32) (t_round : Int32) (t_x : Int32) (x1 : Int32) (r : Int32) (h : f_X9_isTold t_told x1 = some r) : Cn l E yX9_isTold cX9_isTold 2 (some .boolean) 1 0 0 [.ref o_t, .int x1] (W_X9_isTold E o_t a_t t_told t_round t_x) (fun w => w = (W_X9_isTold E o_t a_t t_told t_round t_x)) (some (.int r)) := by
  refine Cn.ofI (by decide) (Nat.le_of_ble_eq_true rfl) (fun X hX hR C hret => ?_)
  subst hX
  show Gx X E 0 0 (W_X9_isTold E o_t a_t t_told t_round t_x) 0 [(0, .ref o_t), (1, .int x1)] []
  unfold f_X9_isTold at h
  refine g_iload_n (pc := 0) C dX9_isTold_0 rfl 1 rfl ?_
  refine g_if_lt (pc := 1) (tgt := 25) C dX9_isTold_1 (by decide) h (fun h => ?_) (fun h => ?_)
  · refine g_iconst (pc := 25) (v := 0) C dX9_isTold_25 (by decide) ?_
    cases h
    exact hret _ _ _ dX9_isTold_26 (by decide) rfl
  · refine g_iload_n (pc := 4) C dX9_isTold_4 rfl 1 rfl ?_
    refine g_bipush (pc := 5) (v := 10) C dX9_isTold_5 (by decide) ?_
    refine g_icmp_ge (pc := 7) (tgt := 25) C dX9_isTold_7 (by decide) h (fun h => ?_) (fun h => ?_)
    · refine g_iconst (pc := 25) (v := 0) C dX9_isTold_25 (by decide) ?_
      cases h
      exact hret _ _ _ dX9_isTold_26 (by decide) rfl
    · refine g_aload_n (pc := 10) C dX9_isTold_10 rfl 0 rfl ?_
      refine g_get (pc := 11) C fl_X9_34 dX9_isTold_11 0 rfl rfl ?_
      refine g_iload_n (pc := 14) C dX9_isTold_14 rfl 1 rfl ?_
      refine g_ishr (pc := 15) C dX9_isTold_15 ?_
      refine g_iconst (pc := 16) (v := 1) C dX9_isTold_16 (by decide) ?_
      refine g_iand (pc := 17) C dX9_isTold_17 ?_
      refine g_if_eq (pc := 18) (tgt := 25) C dX9_isTold_18 (by decide) h (fun h => ?_) (fun h => ?_)
      · refine g_iconst (pc := 25) (v := 0) C dX9_isTold_25 (by decide) ?_
        cases h
        exact hret _ _ _ dX9_isTold_26 (by decide) rfl
      · refine g_iconst (pc := 21) (v := 1) C dX9_isTold_21 (by decide) ?_
        refine g_goto (pc := 22) (tgt := 26) C dX9_isTold_22 (by decide) ?_
        cases h
        exact hret _ _ _ dX9_isTold_26 (by decide) rfl
abbrev W_X9_pinsOfAll (E : GE) (O_t : Nat) (a_t : Nat → Nat) (t_told : Int32) (t_round : Int32) (t_x : Int32) (t_pins : (Nat → Int32)) : va_W := [(O_t, ob_X9 a_t t_told t_round t_x), (a_t 3, .inl (E.2.1, 60, .inl t_pins))]
def L_X9_pinsOfAll_4 (t_pins : (Nat → Int32)) : Nat → Int32 × Int32 → Option (Int32) := lp fun go s => if (60 : Int32) ≤ s.2 then (some s.1) else rd t_pins 60 s.2 fun v1 => nm (s.1 + v1) fun v2 => nm (s.2 + (1 : Int32)) fun v3 => go (v2, v3)
def f_X9_pinsOfAll (t_pins : (Nat → Int32)) : Option (Int32) := L_X9_pinsOfAll_4 t_pins fu ((0 : Int32), (0 : Int32))
theorem dX9_pinsOfAll_0 : decode cX9_pinsOfAll 0 = .ok (.iconst 0, 1) := by decide +kernel
theorem dX9_pinsOfAll_1 : decode cX9_pinsOfAll 1 = .ok (.istore_n 1, 1) := by decide +kernel
theorem dX9_pinsOfAll_2 : decode cX9_pinsOfAll 2 = .ok (.iconst 0, 1) := by decide +kernel
theorem dX9_pinsOfAll_3 : decode cX9_pinsOfAll 3 = .ok (.istore_n 2, 1) := by decide +kernel
theorem dX9_pinsOfAll_4 : decode cX9_pinsOfAll 4 = .ok (.iload_n 2, 1) := by decide +kernel
theorem dX9_pinsOfAll_5 : decode cX9_pinsOfAll 5 = .ok (.aload_n 0, 1) := by decide +kernel
theorem dX9_pinsOfAll_6 : decode cX9_pinsOfAll 6 = .ok (.getfield 21, 3) := by decide +kernel
theorem dX9_pinsOfAll_9 : decode cX9_pinsOfAll 9 = .ok (.arraylength, 1) := by decide +kernel
theorem dX9_pinsOfAll_10 : decode cX9_pinsOfAll 10 = .ok (.if_icmp .ge 18, 3) := by decide +kernel
theorem dX9_pinsOfAll_13 : decode cX9_pinsOfAll 13 = .ok (.iload_n 1, 1) := by decide +kernel
theorem dX9_pinsOfAll_14 : decode cX9_pinsOfAll 14 = .ok (.aload_n 0, 1) := by decide +kernel
theorem dX9_pinsOfAll_15 : decode cX9_pinsOfAll 15 = .ok (.getfield 21, 3) := by decide +kernel
theorem dX9_pinsOfAll_18 : decode cX9_pinsOfAll 18 = .ok (.iload_n 2, 1) := by decide +kernel
theorem dX9_pinsOfAll_19 : decode cX9_pinsOfAll 19 = .ok (.iaload, 1) := by decide +kernel
theorem dX9_pinsOfAll_20 : decode cX9_pinsOfAll 20 = .ok (.iadd, 1) := by decide +kernel
theorem dX9_pinsOfAll_21 : decode cX9_pinsOfAll 21 = .ok (.istore_n 1, 1) := by decide +kernel
theorem dX9_pinsOfAll_22 : decode cX9_pinsOfAll 22 = .ok (.iinc 2 1, 3) := by decide +kernel
theorem dX9_pinsOfAll_25 : decode cX9_pinsOfAll 25 = .ok (.goto (-21), 3) := by decide +kernel
theorem dX9_pinsOfAll_28 : decode cX9_pinsOfAll 28 = .ok (.iload_n 1, 1) := by decide +kernel
theorem dX9_pinsOfAll_29 : decode cX9_pinsOfAll 29 = .ok (.ireturn, 1) := by decide +kernel
set_option maxHeartbeats 4000000 in
set_option maxRecDepth 100000 in
theorem kL_X9_pinsOfAll_4 {X : GC} {E : GE} (C : Cx X E cX9_pinsOfAll RX9 1 3) (o_t : Nat) (a_t : Nat → Nat) (t_told : Int32) (t_round : Int32) (t_x : Int32) (t_pins : (Nat → Int32)) {r : Int32} (hret : RtI X E cX9_pinsOfAll .int 0 0 (fun w => w = (W_X9_pinsOfAll E o_t a_t t_told t_round t_x t_pins)) r) : ∀ (n : Nat) (s : Int32 × Int32), L_X9_pinsOfAll_4 t_pins n s = some r → Gx X E 0 0 (W_X9_pinsOfAll E o_t a_t t_told t_round t_x t_pins) 4 [(0, .ref o_t), (1, .int s.1), (2, .int s.2)] [] := by
  unfold L_X9_pinsOfAll_4
  refine lp_ind _ (fun go ih s h => ?_)
  refine g_iload_n (pc := 4) C dX9_pinsOfAll_4 rfl 2 rfl ?_
  refine g_aload_n (pc := 5) C dX9_pinsOfAll_5 rfl 0 rfl ?_
  refine g_get (pc := 6) C fl_X9_21 dX9_pinsOfAll_6 0 rfl rfl ?_
  refine g_alen (pc := 9) (v := 60) C dX9_pinsOfAll_9 1 rfl (by decide) ?_
  refine g_icmp_ge (pc := 10) (tgt := 28) C dX9_pinsOfAll_10 (by decide) h (fun h => ?_) (fun h => ?_)
  · refine g_iload_n (pc := 28) C dX9_pinsOfAll_28 rfl 1 rfl ?_
    cases h
    exact hret _ _ _ dX9_pinsOfAll_29 rfl rfl
  · refine g_iload_n (pc := 13) C dX9_pinsOfAll_13 rfl 1 rfl ?_
    refine g_aload_n (pc := 14) C dX9_pinsOfAll_14 rfl 0 rfl ?_
    refine g_get (pc := 15) C fl_X9_21 dX9_pinsOfAll_15 0 rfl rfl ?_
    refine g_iload_n (pc := 18) C dX9_pinsOfAll_18 rfl 2 rfl ?_
    refine g_iald (pc := 19) C dX9_pinsOfAll_19 1 rfl h (fun v1 h => ?_)
    refine g_iadd (pc := 20) C dX9_pinsOfAll_20 ?_
    refine g_nm h (fun v2 h => ?_)
    refine g_istore_n (pc := 21) (lv' := [(1, .int v2), (0, .ref o_t), (2, .int s.2)]) C dX9_pinsOfAll_21 rfl (by decide) rfl ?_
    refine g_iincn (pc := 22) (j := 2) (d := 1) (lv' := fun v3 => [(2, .int v3), (1, .int v2), (0, .ref o_t)]) C dX9_pinsOfAll_22 rfl (by decide) (by decide) (fun _ => rfl) h (fun v3 h => ?_)
    refine g_goto (pc := 25) (tgt := 4) C dX9_pinsOfAll_25 (by decide) ?_
    refine g_sub [2, 1, 0] rfl ?_
    exact ih _ h
set_option maxHeartbeats 4000000 in
set_option maxRecDepth 100000 in
theorem c_X9_pinsOfAll (l : Launch) (E : GE) (o_t : Nat) (a_t : Nat → Nat) (t_told : Int32) (t_round : Int32) (t_x : Int32) (t_pins : (Nat → Int32)) (r : Int32) (h : f_X9_pinsOfAll t_pins = some r) : Cn l E yX9_pinsOfAll cX9_pinsOfAll 3 (some .int) 1 0 0 [.ref o_t] (W_X9_pinsOfAll E o_t a_t t_told t_round t_x t_pins) (fun w => w = (W_X9_pinsOfAll E o_t a_t t_told t_round t_x t_pins)) (some (.int r)) := by
  refine Cn.ofI (by decide) (Nat.le_of_ble_eq_true rfl) (fun X hX hR C hret => ?_)
  subst hX
  show Gx X E 0 0 (W_X9_pinsOfAll E o_t a_t t_told t_round t_x t_pins) 0 [(0, .ref o_t)] []
  unfold f_X9_pinsOfAll at h
  refine g_iconst (pc := 0) (v := 0) C dX9_pinsOfAll_0 (by decide) ?_
  refine g_istore_n (pc := 1) (lv' := [(1, .int (0 : Int32)), (0, .ref o_t)]) C dX9_pinsOfAll_1 rfl (by decide) rfl ?_
  refine g_iconst (pc := 2) (v := 0) C dX9_pinsOfAll_2 (by decide) ?_
  refine g_istore_n (pc := 3) (lv' := [(2, .int (0 : Int32)), (1, .int (0 : Int32)), (0, .ref o_t)]) C dX9_pinsOfAll_3 rfl (by decide) rfl ?_
  refine g_sub [2, 1, 0] rfl ?_
  refine kL_X9_pinsOfAll_4 C o_t a_t t_told t_round t_x t_pins hret  _ _ h
abbrev W_X9_dress (E : GE) (O_t : Nat) (a_t : Nat → Nat) (q2 : Nat) (n2 : Nat) (t_told : Int32) (t_round : Int32) (t_x : Int32) (t_hair : (Nat → Int32)) (t_pins : (Nat → Int32)) (f2 : (Nat → Int32)) : va_W := [(O_t, ob_X9 a_t t_told t_round t_x), (a_t 2, .inl (E.2.1, 60, .inl t_hair)), (a_t 3, .inl (E.2.1, 60, .inl t_pins)), (q2, .inl (E.2.1, n2, .inl f2))]
def f_X9_dress (n2 : Nat) (t_told : Int32) (t_hair : (Nat → Int32)) (t_pins : (Nat → Int32)) (f2 : (Nat → Int32)) (x1 : Int32) : Option ((Nat → Int32) × (Nat → Int32)) := (f_X9_isTold t_told x1).bind fun u1 => if u1 = 0 then (some (t_hair, t_pins)) else if (Int32.ofNat n2) = (6 : Int32) then (cpy f2 n2 t_hair 60 (0 : Int32) (x1 * (6 : Int32)) (6 : Int32) fun g2 => cpy f2 n2 t_pins 60 (0 : Int32) (x1 * (6 : Int32)) (6 : Int32) fun g3 => some (g2, g3)) else some (t_hair, t_pins)
theorem dX9_dress_0 : decode cX9_dress 0 = .ok (.aload_n 0, 1) := by decide +kernel
theorem dX9_dress_1 : decode cX9_dress 1 = .ok (.iload_n 1, 1) := by decide +kernel
theorem dX9_dress_2 : decode cX9_dress 2 = .ok (.invokevirtual 44, 3) := by decide +kernel
theorem dX9_dress_5 : decode cX9_dress 5 = .ok (.ifCond .eq 40, 3) := by decide +kernel
theorem dX9_dress_8 : decode cX9_dress 8 = .ok (.aload_n 2, 1) := by decide +kernel
theorem dX9_dress_9 : decode cX9_dress 9 = .ok (.arraylength, 1) := by decide +kernel
theorem dX9_dress_10 : decode cX9_dress 10 = .ok (.bipush 6, 2) := by decide +kernel
theorem dX9_dress_12 : decode cX9_dress 12 = .ok (.if_icmp .ne 33, 3) := by decide +kernel
theorem dX9_dress_15 : decode cX9_dress 15 = .ok (.aload_n 2, 1) := by decide +kernel
theorem dX9_dress_16 : decode cX9_dress 16 = .ok (.iconst 0, 1) := by decide +kernel
theorem dX9_dress_17 : decode cX9_dress 17 = .ok (.aload_n 0, 1) := by decide +kernel
theorem dX9_dress_18 : decode cX9_dress 18 = .ok (.getfield 18, 3) := by decide +kernel
theorem dX9_dress_21 : decode cX9_dress 21 = .ok (.iload_n 1, 1) := by decide +kernel
theorem dX9_dress_22 : decode cX9_dress 22 = .ok (.bipush 6, 2) := by decide +kernel
theorem dX9_dress_24 : decode cX9_dress 24 = .ok (.imul, 1) := by decide +kernel
theorem dX9_dress_25 : decode cX9_dress 25 = .ok (.bipush 6, 2) := by decide +kernel
theorem dX9_dress_27 : decode cX9_dress 27 = .ok (.invokestatic 28, 3) := by decide +kernel
theorem dX9_dress_30 : decode cX9_dress 30 = .ok (.aload_n 2, 1) := by decide +kernel
theorem dX9_dress_31 : decode cX9_dress 31 = .ok (.iconst 0, 1) := by decide +kernel
theorem dX9_dress_32 : decode cX9_dress 32 = .ok (.aload_n 0, 1) := by decide +kernel
theorem dX9_dress_33 : decode cX9_dress 33 = .ok (.getfield 21, 3) := by decide +kernel
theorem dX9_dress_36 : decode cX9_dress 36 = .ok (.iload_n 1, 1) := by decide +kernel
theorem dX9_dress_37 : decode cX9_dress 37 = .ok (.bipush 6, 2) := by decide +kernel
theorem dX9_dress_39 : decode cX9_dress 39 = .ok (.imul, 1) := by decide +kernel
theorem dX9_dress_40 : decode cX9_dress 40 = .ok (.bipush 6, 2) := by decide +kernel
theorem dX9_dress_42 : decode cX9_dress 42 = .ok (.invokestatic 28, 3) := by decide +kernel
theorem dX9_dress_45 : decode cX9_dress 45 = .ok (.return_, 1) := by decide +kernel
set_option maxHeartbeats 4000000 in
set_option maxRecDepth 100000 in
theorem c_X9_dress (l : Launch) (E : GE) (o_t : Nat) (a_t : Nat → Nat) (q2 : Nat) (n2 : Nat) (t_told : Int32) (t_round : Int32) (t_x : Int32) (t_hair : (Nat → Int32)) (t_pins : (Nat → Int32)) (f2 : (Nat → Int32)) (x1 : Int32) (r : (Nat → Int32) × (Nat → Int32)) (h : f_X9_dress n2 t_told t_hair t_pins f2 x1 = some r) : Cn l E yX9_dress cX9_dress 3 none 2 0 0 [.ref o_t, .int x1, .ref q2] (W_X9_dress E o_t a_t q2 n2 t_told t_round t_x t_hair t_pins f2) (fun w => w = (W_X9_dress E o_t a_t q2 n2 t_told t_round t_x r.1 r.2 f2)) none := by
  refine Cn.ofV (by decide) (Nat.le_of_ble_eq_true rfl) (fun X hX hR C hret => ?_)
  subst hX
  show Gx X E 0 0 (W_X9_dress E o_t a_t q2 n2 t_told t_round t_x t_hair t_pins f2) 0 [(0, .ref o_t), (1, .int x1), (2, .ref q2)] []
  unfold f_X9_dress at h
  refine g_aload_n (pc := 0) C dX9_dress_0 rfl 0 rfl ?_
  refine g_iload_n (pc := 1) C dX9_dress_1 rfl 1 rfl ?_
  obtain ⟨u1, hu1, h⟩ := bs h
  refine g_callV (pc := 2) (st := []) (st1 := [.int u1]) (ws' := (W_X9_dress E o_t a_t q2 n2 t_told t_round t_x t_hair t_pins f2)) C mv_X9_isTold mi_X9_isTold ml_X9_44 (c_X9_isTold X.2.1 E o_t a_t t_told t_round t_x x1 u1 hu1) dX9_dress_2 (by decide) rfl (Nat.le_of_ble_eq_true rfl) 0 8 rfl rfl [0] rfl (by decide) rfl rfl rfl rfl ?_
  refine g_if_eq (pc := 5) (tgt := 45) C dX9_dress_5 (by decide) h (fun h => ?_) (fun h => ?_)
  · cases h
    exact hret _ _ _ dX9_dress_45 rfl
  · refine g_aload_n (pc := 8) C dX9_dress_8 rfl 2 rfl ?_
    refine g_alen (pc := 9) C dX9_dress_9 3 rfl rfl ?_
    refine g_bipush (pc := 10) (v := 6) C dX9_dress_10 (by decide) ?_
    refine g_icmp_ne (pc := 12) (tgt := 45) C dX9_dress_12 (by decide) h (fun h => ?_) (fun h => ?_)
    · cases h
      exact hret _ _ _ dX9_dress_45 rfl
    · refine g_aload_n (pc := 15) C dX9_dress_15 rfl 2 rfl ?_
      refine g_iconst (pc := 16) (v := 0) C dX9_dress_16 (by decide) ?_
      refine g_aload_n (pc := 17) C dX9_dress_17 rfl 0 rfl ?_
      refine g_get (pc := 18) C fl_X9_18 dX9_dress_18 0 rfl rfl ?_
      refine g_iload_n (pc := 21) C dX9_dress_21 rfl 1 rfl ?_
      refine g_bipush (pc := 22) (v := 6) C dX9_dress_22 (by decide) ?_
      refine g_imul (pc := 24) C dX9_dress_24 ?_
      refine g_bipush (pc := 25) (v := 6) C dX9_dress_25 (by decide) ?_
      refine g_copy (pc := 27) C ml_X9_28 mnat_copy ms_copy mini_System (Nat.le_of_ble_eq_true rfl) dX9_dress_27 3 1 rfl rfl h (fun g2 h => ?_)
      refine g_ws (ws' := (W_X9_dress E o_t a_t q2 n2 t_told t_round t_x g2 t_pins f2)) rfl ?_
      refine g_aload_n (pc := 30) C dX9_dress_30 rfl 2 rfl ?_
      refine g_iconst (pc := 31) (v := 0) C dX9_dress_31 (by decide) ?_
      refine g_aload_n (pc := 32) C dX9_dress_32 rfl 0 rfl ?_
      refine g_get (pc := 33) C fl_X9_21 dX9_dress_33 0 rfl rfl ?_
      refine g_iload_n (pc := 36) C dX9_dress_36 rfl 1 rfl ?_
      refine g_bipush (pc := 37) (v := 6) C dX9_dress_37 (by decide) ?_
      refine g_imul (pc := 39) C dX9_dress_39 ?_
      refine g_bipush (pc := 40) (v := 6) C dX9_dress_40 (by decide) ?_
      refine g_copy (pc := 42) C ml_X9_28 mnat_copy ms_copy mini_System (Nat.le_of_ble_eq_true rfl) dX9_dress_42 3 2 rfl rfl h (fun g3 h => ?_)
      refine g_ws (ws' := (W_X9_dress E o_t a_t q2 n2 t_told t_round t_x g2 g3 f2)) rfl ?_
      cases h
      exact hret _ _ _ dX9_dress_45 rfl
abbrev W_X9_inRoom (E : GE) (O_t : Nat) (a_t : Nat → Nat) (t_told : Int32) (t_round : Int32) (t_x : Int32) (t_rooms : (Nat → Int32)) : va_W := [(O_t, ob_X9 a_t t_told t_round t_x), (a_t 1, .inl (E.2.1, 10, .inl t_rooms))]
def L_X9_inRoom_4 (t_told : Int32) (t_rooms : (Nat → Int32)) (x1 : Int32) : Nat → Int32 × Int32 → Option (Int32) := lp fun go s => if (10 : Int32) ≤ s.2 then (some s.1) else (f_X9_isTold t_told s.2).bind fun u1 => if u1 = 0 then (nm (s.2 + (1 : Int32)) fun v2 => go (s.1, v2)) else rd t_rooms 10 s.2 fun v3 => if v3 = x1 then (nm (s.1 ||| ((1 : Int32) <<< (s.2 &&& 31))) fun v5 => nm (s.2 + (1 : Int32)) fun v6 => go (v5, v6)) else nm (s.2 + (1 : Int32)) fun v4 => go (s.1, v4)
def f_X9_inRoom (t_told : Int32) (t_rooms : (Nat → Int32)) (x1 : Int32) : Option (Int32) := L_X9_inRoom_4 t_told t_rooms x1 fu ((0 : Int32), (0 : Int32))
theorem dX9_inRoom_0 : decode cX9_inRoom 0 = .ok (.iconst 0, 1) := by decide +kernel
theorem dX9_inRoom_1 : decode cX9_inRoom 1 = .ok (.istore_n 2, 1) := by decide +kernel
theorem dX9_inRoom_2 : decode cX9_inRoom 2 = .ok (.iconst 0, 1) := by decide +kernel
theorem dX9_inRoom_3 : decode cX9_inRoom 3 = .ok (.istore_n 3, 1) := by decide +kernel
theorem dX9_inRoom_4 : decode cX9_inRoom 4 = .ok (.iload_n 3, 1) := by decide +kernel
theorem dX9_inRoom_5 : decode cX9_inRoom 5 = .ok (.bipush 10, 2) := by decide +kernel
theorem dX9_inRoom_7 : decode cX9_inRoom 7 = .ok (.if_icmp .ge 33, 3) := by decide +kernel
theorem dX9_inRoom_10 : decode cX9_inRoom 10 = .ok (.aload_n 0, 1) := by decide +kernel
theorem dX9_inRoom_11 : decode cX9_inRoom 11 = .ok (.iload_n 3, 1) := by decide +kernel
theorem dX9_inRoom_12 : decode cX9_inRoom 12 = .ok (.invokevirtual 44, 3) := by decide +kernel
theorem dX9_inRoom_15 : decode cX9_inRoom 15 = .ok (.ifCond .eq 19, 3) := by decide +kernel
theorem dX9_inRoom_18 : decode cX9_inRoom 18 = .ok (.aload_n 0, 1) := by decide +kernel
theorem dX9_inRoom_19 : decode cX9_inRoom 19 = .ok (.getfield 15, 3) := by decide +kernel
theorem dX9_inRoom_22 : decode cX9_inRoom 22 = .ok (.iload_n 3, 1) := by decide +kernel
theorem dX9_inRoom_23 : decode cX9_inRoom 23 = .ok (.iaload, 1) := by decide +kernel
theorem dX9_inRoom_24 : decode cX9_inRoom 24 = .ok (.iload_n 1, 1) := by decide +kernel
theorem dX9_inRoom_25 : decode cX9_inRoom 25 = .ok (.if_icmp .ne 9, 3) := by decide +kernel
theorem dX9_inRoom_28 : decode cX9_inRoom 28 = .ok (.iload_n 2, 1) := by decide +kernel
theorem dX9_inRoom_29 : decode cX9_inRoom 29 = .ok (.iconst 1, 1) := by decide +kernel
theorem dX9_inRoom_30 : decode cX9_inRoom 30 = .ok (.iload_n 3, 1) := by decide +kernel
theorem dX9_inRoom_31 : decode cX9_inRoom 31 = .ok (.ishl, 1) := by decide +kernel
theorem dX9_inRoom_32 : decode cX9_inRoom 32 = .ok (.ior, 1) := by decide +kernel
theorem dX9_inRoom_33 : decode cX9_inRoom 33 = .ok (.istore_n 2, 1) := by decide +kernel
theorem dX9_inRoom_34 : decode cX9_inRoom 34 = .ok (.iinc 3 1, 3) := by decide +kernel
theorem dX9_inRoom_37 : decode cX9_inRoom 37 = .ok (.goto (-33), 3) := by decide +kernel
theorem dX9_inRoom_40 : decode cX9_inRoom 40 = .ok (.iload_n 2, 1) := by decide +kernel
theorem dX9_inRoom_41 : decode cX9_inRoom 41 = .ok (.ireturn, 1) := by decide +kernel
set_option maxHeartbeats 4000000 in
set_option maxRecDepth 100000 in
theorem kL_X9_inRoom_4 {X : GC} {E : GE} (C : Cx X E cX9_inRoom RX9 2 4) (o_t : Nat) (a_t : Nat → Nat) (t_round : Int32) (t_x : Int32) (t_told : Int32) (t_rooms : (Nat → Int32)) (x1 : Int32) {r : Int32} (hret : RtI X E cX9_inRoom .int 0 0 (fun w => w = (W_X9_inRoom E o_t a_t t_told t_round t_x t_rooms)) r) : ∀ (n : Nat) (s : Int32 × Int32), L_X9_inRoom_4 t_told t_rooms x1 n s = some r → Gx X E 0 0 (W_X9_inRoom E o_t a_t t_told t_round t_x t_rooms) 4 [(0, .ref o_t), (1, .int x1), (2, .int s.1), (3, .int s.2)] [] := by
  unfold L_X9_inRoom_4
  refine lp_ind _ (fun go ih s h => ?_)
  refine g_iload_n (pc := 4) C dX9_inRoom_4 rfl 3 rfl ?_
  refine g_bipush (pc := 5) (v := 10) C dX9_inRoom_5 (by decide) ?_
  refine g_icmp_ge (pc := 7) (tgt := 40) C dX9_inRoom_7 (by decide) h (fun h => ?_) (fun h => ?_)
  · refine g_iload_n (pc := 40) C dX9_inRoom_40 rfl 2 rfl ?_
    cases h
    exact hret _ _ _ dX9_inRoom_41 rfl rfl
  · refine g_aload_n (pc := 10) C dX9_inRoom_10 rfl 0 rfl ?_
    refine g_iload_n (pc := 11) C dX9_inRoom_11 rfl 3 rfl ?_
    obtain ⟨u1, hu1, h⟩ := bs h
    refine g_callV (pc := 12) (st := []) (st1 := [.int u1]) (ws' := (W_X9_inRoom E o_t a_t t_told t_round t_x t_rooms)) C mv_X9_isTold mi_X9_isTold ml_X9_44 (c_X9_isTold X.2.1 E o_t a_t t_told t_round t_x s.2 u1 hu1) dX9_inRoom_12 (by decide) rfl (Nat.le_of_ble_eq_true rfl) 0 8 rfl rfl [0] rfl (by decide) rfl rfl rfl rfl ?_
    refine g_if_eq (pc := 15) (tgt := 34) C dX9_inRoom_15 (by decide) h (fun h => ?_) (fun h => ?_)
    · refine g_iincn (pc := 34) (j := 3) (d := 1) (lv' := fun v2 => [(3, .int v2), (0, .ref o_t), (1, .int x1), (2, .int s.1)]) C dX9_inRoom_34 rfl (by decide) (by decide) (fun _ => rfl) h (fun v2 h => ?_)
      refine g_goto (pc := 37) (tgt := 4) C dX9_inRoom_37 (by decide) ?_
      refine g_sub [1, 2, 3, 0] rfl ?_
      exact ih _ h
    · refine g_aload_n (pc := 18) C dX9_inRoom_18 rfl 0 rfl ?_
      refine g_get (pc := 19) C fl_X9_15 dX9_inRoom_19 0 rfl rfl ?_
      refine g_iload_n (pc := 22) C dX9_inRoom_22 rfl 3 rfl ?_
      refine g_iald (pc := 23) C dX9_inRoom_23 1 rfl h (fun v3 h => ?_)
      refine g_iload_n (pc := 24) C dX9_inRoom_24 rfl 1 rfl ?_
      refine g_icmp_ne (pc := 25) (tgt := 34) C dX9_inRoom_25 (by decide) h (fun h => ?_) (fun h => ?_)
      · refine g_iincn (pc := 34) (j := 3) (d := 1) (lv' := fun v4 => [(3, .int v4), (0, .ref o_t), (1, .int x1), (2, .int s.1)]) C dX9_inRoom_34 rfl (by decide) (by decide) (fun _ => rfl) h (fun v4 h => ?_)
        refine g_goto (pc := 37) (tgt := 4) C dX9_inRoom_37 (by decide) ?_
        refine g_sub [1, 2, 3, 0] rfl ?_
        exact ih _ h
      · refine g_iload_n (pc := 28) C dX9_inRoom_28 rfl 2 rfl ?_
        refine g_iconst (pc := 29) (v := 1) C dX9_inRoom_29 (by decide) ?_
        refine g_iload_n (pc := 30) C dX9_inRoom_30 rfl 3 rfl ?_
        refine g_ishl (pc := 31) C dX9_inRoom_31 ?_
        refine g_ior (pc := 32) C dX9_inRoom_32 ?_
        refine g_nm h (fun v5 h => ?_)
        refine g_istore_n (pc := 33) (lv' := [(2, .int v5), (0, .ref o_t), (1, .int x1), (3, .int s.2)]) C dX9_inRoom_33 rfl (by decide) rfl ?_
        refine g_iincn (pc := 34) (j := 3) (d := 1) (lv' := fun v6 => [(3, .int v6), (2, .int v5), (0, .ref o_t), (1, .int x1)]) C dX9_inRoom_34 rfl (by decide) (by decide) (fun _ => rfl) h (fun v6 h => ?_)
        refine g_goto (pc := 37) (tgt := 4) C dX9_inRoom_37 (by decide) ?_
        refine g_sub [2, 3, 1, 0] rfl ?_
        exact ih _ h
set_option maxHeartbeats 4000000 in
set_option maxRecDepth 100000 in
theorem c_X9_inRoom (l : Launch) (E : GE) (o_t : Nat) (a_t : Nat → Nat) (t_told : Int32) (t_round : Int32) (t_x : Int32) (t_rooms : (Nat → Int32)) (x1 : Int32) (r : Int32) (h : f_X9_inRoom t_told t_rooms x1 = some r) : Cn l E yX9_inRoom cX9_inRoom 4 (some .int) 2 0 0 [.ref o_t, .int x1] (W_X9_inRoom E o_t a_t t_told t_round t_x t_rooms) (fun w => w = (W_X9_inRoom E o_t a_t t_told t_round t_x t_rooms)) (some (.int r)) := by
  refine Cn.ofI (by decide) (Nat.le_of_ble_eq_true rfl) (fun X hX hR C hret => ?_)
  subst hX
  show Gx X E 0 0 (W_X9_inRoom E o_t a_t t_told t_round t_x t_rooms) 0 [(0, .ref o_t), (1, .int x1)] []
  unfold f_X9_inRoom at h
  refine g_iconst (pc := 0) (v := 0) C dX9_inRoom_0 (by decide) ?_
  refine g_istore_n (pc := 1) (lv' := [(2, .int (0 : Int32)), (0, .ref o_t), (1, .int x1)]) C dX9_inRoom_1 rfl (by decide) rfl ?_
  refine g_iconst (pc := 2) (v := 0) C dX9_inRoom_2 (by decide) ?_
  refine g_istore_n (pc := 3) (lv' := [(3, .int (0 : Int32)), (2, .int (0 : Int32)), (0, .ref o_t), (1, .int x1)]) C dX9_inRoom_3 rfl (by decide) rfl ?_
  refine g_sub [2, 3, 1, 0] rfl ?_
  refine kL_X9_inRoom_4 C o_t a_t t_round t_x t_told t_rooms x1 hret  _ _ h
abbrev W_X9_kindsLeft (E : GE) (O_t : Nat) (a_t : Nat → Nat) (t_told : Int32) (t_round : Int32) (t_x : Int32) (t_pins : (Nat → Int32)) : va_W := [(O_t, ob_X9 a_t t_told t_round t_x), (a_t 3, .inl (E.2.1, 60, .inl t_pins))]
def L_X9_kindsLeft_4 (t_told : Int32) (t_pins : (Nat → Int32)) (x1 : Int32) : Nat → Int32 × Int32 → Option (Int32) := lp fun go s => if (6 : Int32) ≤ s.2 then (some s.1) else (f_X9_isTold t_told x1).bind fun u1 => if u1 = 0 then (some s.1) else rd t_pins 60 ((x1 * (6 : Int32)) + s.2) fun v2 => if v2 ≤ 0 then (nm (s.2 + (1 : Int32)) fun v3 => go (s.1, v3)) else nm (s.1 ||| ((1 : Int32) <<< (s.2 &&& 31))) fun v4 => nm (s.2 + (1 : Int32)) fun v5 => go (v4, v5)
def f_X9_kindsLeft (t_told : Int32) (t_pins : (Nat → Int32)) (x1 : Int32) : Option (Int32) := L_X9_kindsLeft_4 t_told t_pins x1 fu ((0 : Int32), (0 : Int32))
theorem dX9_kindsLeft_0 : decode cX9_kindsLeft 0 = .ok (.iconst 0, 1) := by decide +kernel
theorem dX9_kindsLeft_1 : decode cX9_kindsLeft 1 = .ok (.istore_n 2, 1) := by decide +kernel
theorem dX9_kindsLeft_2 : decode cX9_kindsLeft 2 = .ok (.iconst 0, 1) := by decide +kernel
theorem dX9_kindsLeft_3 : decode cX9_kindsLeft 3 = .ok (.istore_n 3, 1) := by decide +kernel
theorem dX9_kindsLeft_4 : decode cX9_kindsLeft 4 = .ok (.iload_n 3, 1) := by decide +kernel
theorem dX9_kindsLeft_5 : decode cX9_kindsLeft 5 = .ok (.bipush 6, 2) := by decide +kernel
theorem dX9_kindsLeft_7 : decode cX9_kindsLeft 7 = .ok (.if_icmp .ge 37, 3) := by decide +kernel
theorem dX9_kindsLeft_10 : decode cX9_kindsLeft 10 = .ok (.aload_n 0, 1) := by decide +kernel
theorem dX9_kindsLeft_11 : decode cX9_kindsLeft 11 = .ok (.iload_n 1, 1) := by decide +kernel
theorem dX9_kindsLeft_12 : decode cX9_kindsLeft 12 = .ok (.invokevirtual 44, 3) := by decide +kernel
theorem dX9_kindsLeft_15 : decode cX9_kindsLeft 15 = .ok (.ifCond .eq 29, 3) := by decide +kernel
theorem dX9_kindsLeft_18 : decode cX9_kindsLeft 18 = .ok (.aload_n 0, 1) := by decide +kernel
theorem dX9_kindsLeft_19 : decode cX9_kindsLeft 19 = .ok (.getfield 21, 3) := by decide +kernel
theorem dX9_kindsLeft_22 : decode cX9_kindsLeft 22 = .ok (.iload_n 1, 1) := by decide +kernel
theorem dX9_kindsLeft_23 : decode cX9_kindsLeft 23 = .ok (.bipush 6, 2) := by decide +kernel
theorem dX9_kindsLeft_25 : decode cX9_kindsLeft 25 = .ok (.imul, 1) := by decide +kernel
theorem dX9_kindsLeft_26 : decode cX9_kindsLeft 26 = .ok (.iload_n 3, 1) := by decide +kernel
theorem dX9_kindsLeft_27 : decode cX9_kindsLeft 27 = .ok (.iadd, 1) := by decide +kernel
theorem dX9_kindsLeft_28 : decode cX9_kindsLeft 28 = .ok (.iaload, 1) := by decide +kernel
theorem dX9_kindsLeft_29 : decode cX9_kindsLeft 29 = .ok (.ifCond .le 9, 3) := by decide +kernel
theorem dX9_kindsLeft_32 : decode cX9_kindsLeft 32 = .ok (.iload_n 2, 1) := by decide +kernel
theorem dX9_kindsLeft_33 : decode cX9_kindsLeft 33 = .ok (.iconst 1, 1) := by decide +kernel
theorem dX9_kindsLeft_34 : decode cX9_kindsLeft 34 = .ok (.iload_n 3, 1) := by decide +kernel
theorem dX9_kindsLeft_35 : decode cX9_kindsLeft 35 = .ok (.ishl, 1) := by decide +kernel
theorem dX9_kindsLeft_36 : decode cX9_kindsLeft 36 = .ok (.ior, 1) := by decide +kernel
theorem dX9_kindsLeft_37 : decode cX9_kindsLeft 37 = .ok (.istore_n 2, 1) := by decide +kernel
theorem dX9_kindsLeft_38 : decode cX9_kindsLeft 38 = .ok (.iinc 3 1, 3) := by decide +kernel
theorem dX9_kindsLeft_41 : decode cX9_kindsLeft 41 = .ok (.goto (-37), 3) := by decide +kernel
theorem dX9_kindsLeft_44 : decode cX9_kindsLeft 44 = .ok (.iload_n 2, 1) := by decide +kernel
theorem dX9_kindsLeft_45 : decode cX9_kindsLeft 45 = .ok (.ireturn, 1) := by decide +kernel
set_option maxHeartbeats 4000000 in
set_option maxRecDepth 100000 in
theorem kL_X9_kindsLeft_4 {X : GC} {E : GE} (C : Cx X E cX9_kindsLeft RX9 2 4) (o_t : Nat) (a_t : Nat → Nat) (t_round : Int32) (t_x : Int32) (t_told : Int32) (t_pins : (Nat → Int32)) (x1 : Int32) {r : Int32} (hret : RtI X E cX9_kindsLeft .int 0 0 (fun w => w = (W_X9_kindsLeft E o_t a_t t_told t_round t_x t_pins)) r) : ∀ (n : Nat) (s : Int32 × Int32), L_X9_kindsLeft_4 t_told t_pins x1 n s = some r → Gx X E 0 0 (W_X9_kindsLeft E o_t a_t t_told t_round t_x t_pins) 4 [(0, .ref o_t), (1, .int x1), (2, .int s.1), (3, .int s.2)] [] := by
  unfold L_X9_kindsLeft_4
  refine lp_ind _ (fun go ih s h => ?_)
  refine g_iload_n (pc := 4) C dX9_kindsLeft_4 rfl 3 rfl ?_
  refine g_bipush (pc := 5) (v := 6) C dX9_kindsLeft_5 (by decide) ?_
  refine g_icmp_ge (pc := 7) (tgt := 44) C dX9_kindsLeft_7 (by decide) h (fun h => ?_) (fun h => ?_)
  · refine g_iload_n (pc := 44) C dX9_kindsLeft_44 rfl 2 rfl ?_
    cases h
    exact hret _ _ _ dX9_kindsLeft_45 rfl rfl
  · refine g_aload_n (pc := 10) C dX9_kindsLeft_10 rfl 0 rfl ?_
    refine g_iload_n (pc := 11) C dX9_kindsLeft_11 rfl 1 rfl ?_
    obtain ⟨u1, hu1, h⟩ := bs h
    refine g_callV (pc := 12) (st := []) (st1 := [.int u1]) (ws' := (W_X9_kindsLeft E o_t a_t t_told t_round t_x t_pins)) C mv_X9_isTold mi_X9_isTold ml_X9_44 (c_X9_isTold X.2.1 E o_t a_t t_told t_round t_x x1 u1 hu1) dX9_kindsLeft_12 (by decide) rfl (Nat.le_of_ble_eq_true rfl) 0 8 rfl rfl [0] rfl (by decide) rfl rfl rfl rfl ?_
    refine g_if_eq (pc := 15) (tgt := 44) C dX9_kindsLeft_15 (by decide) h (fun h => ?_) (fun h => ?_)
    · refine g_iload_n (pc := 44) C dX9_kindsLeft_44 rfl 2 rfl ?_
      cases h
      exact hret _ _ _ dX9_kindsLeft_45 rfl rfl
    · refine g_aload_n (pc := 18) C dX9_kindsLeft_18 rfl 0 rfl ?_
      refine g_get (pc := 19) C fl_X9_21 dX9_kindsLeft_19 0 rfl rfl ?_
      refine g_iload_n (pc := 22) C dX9_kindsLeft_22 rfl 1 rfl ?_
      refine g_bipush (pc := 23) (v := 6) C dX9_kindsLeft_23 (by decide) ?_
      refine g_imul (pc := 25) C dX9_kindsLeft_25 ?_
      refine g_iload_n (pc := 26) C dX9_kindsLeft_26 rfl 3 rfl ?_
      refine g_iadd (pc := 27) C dX9_kindsLeft_27 ?_
      refine g_iald (pc := 28) C dX9_kindsLeft_28 1 rfl h (fun v2 h => ?_)
      refine g_if_le (pc := 29) (tgt := 38) C dX9_kindsLeft_29 (by decide) h (fun h => ?_) (fun h => ?_)
      · refine g_iincn (pc := 38) (j := 3) (d := 1) (lv' := fun v3 => [(3, .int v3), (0, .ref o_t), (1, .int x1), (2, .int s.1)]) C dX9_kindsLeft_38 rfl (by decide) (by decide) (fun _ => rfl) h (fun v3 h => ?_)
        refine g_goto (pc := 41) (tgt := 4) C dX9_kindsLeft_41 (by decide) ?_
        refine g_sub [1, 2, 3, 0] rfl ?_
        exact ih _ h
      · refine g_iload_n (pc := 32) C dX9_kindsLeft_32 rfl 2 rfl ?_
        refine g_iconst (pc := 33) (v := 1) C dX9_kindsLeft_33 (by decide) ?_
        refine g_iload_n (pc := 34) C dX9_kindsLeft_34 rfl 3 rfl ?_
        refine g_ishl (pc := 35) C dX9_kindsLeft_35 ?_
        refine g_ior (pc := 36) C dX9_kindsLeft_36 ?_
        refine g_nm h (fun v4 h => ?_)
        refine g_istore_n (pc := 37) (lv' := [(2, .int v4), (0, .ref o_t), (1, .int x1), (3, .int s.2)]) C dX9_kindsLeft_37 rfl (by decide) rfl ?_
        refine g_iincn (pc := 38) (j := 3) (d := 1) (lv' := fun v5 => [(3, .int v5), (2, .int v4), (0, .ref o_t), (1, .int x1)]) C dX9_kindsLeft_38 rfl (by decide) (by decide) (fun _ => rfl) h (fun v5 h => ?_)
        refine g_goto (pc := 41) (tgt := 4) C dX9_kindsLeft_41 (by decide) ?_
        refine g_sub [2, 3, 1, 0] rfl ?_
        exact ih _ h
set_option maxHeartbeats 4000000 in
set_option maxRecDepth 100000 in
theorem c_X9_kindsLeft (l : Launch) (E : GE) (o_t : Nat) (a_t : Nat → Nat) (t_told : Int32) (t_round : Int32) (t_x : Int32) (t_pins : (Nat → Int32)) (x1 : Int32) (r : Int32) (h : f_X9_kindsLeft t_told t_pins x1 = some r) : Cn l E yX9_kindsLeft cX9_kindsLeft 4 (some .int) 2 0 0 [.ref o_t, .int x1] (W_X9_kindsLeft E o_t a_t t_told t_round t_x t_pins) (fun w => w = (W_X9_kindsLeft E o_t a_t t_told t_round t_x t_pins)) (some (.int r)) := by
  refine Cn.ofI (by decide) (Nat.le_of_ble_eq_true rfl) (fun X hX hR C hret => ?_)
  subst hX
  show Gx X E 0 0 (W_X9_kindsLeft E o_t a_t t_told t_round t_x t_pins) 0 [(0, .ref o_t), (1, .int x1)] []
  unfold f_X9_kindsLeft at h
  refine g_iconst (pc := 0) (v := 0) C dX9_kindsLeft_0 (by decide) ?_
  refine g_istore_n (pc := 1) (lv' := [(2, .int (0 : Int32)), (0, .ref o_t), (1, .int x1)]) C dX9_kindsLeft_1 rfl (by decide) rfl ?_
  refine g_iconst (pc := 2) (v := 0) C dX9_kindsLeft_2 (by decide) ?_
  refine g_istore_n (pc := 3) (lv' := [(3, .int (0 : Int32)), (2, .int (0 : Int32)), (0, .ref o_t), (1, .int x1)]) C dX9_kindsLeft_3 rfl (by decide) rfl ?_
  refine g_sub [2, 3, 1, 0] rfl ?_
  refine kL_X9_kindsLeft_4 C o_t a_t t_round t_x t_told t_pins x1 hret  _ _ h
abbrev W_X9_pinsOf (E : GE) (O_t : Nat) (a_t : Nat → Nat) (t_told : Int32) (t_round : Int32) (t_x : Int32) (t_pins : (Nat → Int32)) : va_W := [(O_t, ob_X9 a_t t_told t_round t_x), (a_t 3, .inl (E.2.1, 60, .inl t_pins))]
def L_X9_pinsOf_4 (t_told : Int32) (t_pins : (Nat → Int32)) (x1 : Int32) : Nat → Int32 × Int32 → Option (Int32) := lp fun go s => if (6 : Int32) ≤ s.2 then (some s.1) else (f_X9_isTold t_told x1).bind fun u1 => if u1 = 0 then (some s.1) else rd t_pins 60 ((x1 * (6 : Int32)) + s.2) fun v2 => nm (s.1 + v2) fun v3 => nm (s.2 + (1 : Int32)) fun v4 => go (v3, v4)
def f_X9_pinsOf (t_told : Int32) (t_pins : (Nat → Int32)) (x1 : Int32) : Option (Int32) := L_X9_pinsOf_4 t_told t_pins x1 fu ((0 : Int32), (0 : Int32))
theorem dX9_pinsOf_0 : decode cX9_pinsOf 0 = .ok (.iconst 0, 1) := by decide +kernel
theorem dX9_pinsOf_1 : decode cX9_pinsOf 1 = .ok (.istore_n 2, 1) := by decide +kernel
theorem dX9_pinsOf_2 : decode cX9_pinsOf 2 = .ok (.iconst 0, 1) := by decide +kernel
theorem dX9_pinsOf_3 : decode cX9_pinsOf 3 = .ok (.istore_n 3, 1) := by decide +kernel
theorem dX9_pinsOf_4 : decode cX9_pinsOf 4 = .ok (.iload_n 3, 1) := by decide +kernel
theorem dX9_pinsOf_5 : decode cX9_pinsOf 5 = .ok (.bipush 6, 2) := by decide +kernel
theorem dX9_pinsOf_7 : decode cX9_pinsOf 7 = .ok (.if_icmp .ge 31, 3) := by decide +kernel
theorem dX9_pinsOf_10 : decode cX9_pinsOf 10 = .ok (.aload_n 0, 1) := by decide +kernel
theorem dX9_pinsOf_11 : decode cX9_pinsOf 11 = .ok (.iload_n 1, 1) := by decide +kernel
theorem dX9_pinsOf_12 : decode cX9_pinsOf 12 = .ok (.invokevirtual 44, 3) := by decide +kernel
theorem dX9_pinsOf_15 : decode cX9_pinsOf 15 = .ok (.ifCond .eq 23, 3) := by decide +kernel
theorem dX9_pinsOf_18 : decode cX9_pinsOf 18 = .ok (.iload_n 2, 1) := by decide +kernel
theorem dX9_pinsOf_19 : decode cX9_pinsOf 19 = .ok (.aload_n 0, 1) := by decide +kernel
theorem dX9_pinsOf_20 : decode cX9_pinsOf 20 = .ok (.getfield 21, 3) := by decide +kernel
theorem dX9_pinsOf_23 : decode cX9_pinsOf 23 = .ok (.iload_n 1, 1) := by decide +kernel
theorem dX9_pinsOf_24 : decode cX9_pinsOf 24 = .ok (.bipush 6, 2) := by decide +kernel
theorem dX9_pinsOf_26 : decode cX9_pinsOf 26 = .ok (.imul, 1) := by decide +kernel
theorem dX9_pinsOf_27 : decode cX9_pinsOf 27 = .ok (.iload_n 3, 1) := by decide +kernel
theorem dX9_pinsOf_28 : decode cX9_pinsOf 28 = .ok (.iadd, 1) := by decide +kernel
theorem dX9_pinsOf_29 : decode cX9_pinsOf 29 = .ok (.iaload, 1) := by decide +kernel
theorem dX9_pinsOf_30 : decode cX9_pinsOf 30 = .ok (.iadd, 1) := by decide +kernel
theorem dX9_pinsOf_31 : decode cX9_pinsOf 31 = .ok (.istore_n 2, 1) := by decide +kernel
theorem dX9_pinsOf_32 : decode cX9_pinsOf 32 = .ok (.iinc 3 1, 3) := by decide +kernel
theorem dX9_pinsOf_35 : decode cX9_pinsOf 35 = .ok (.goto (-31), 3) := by decide +kernel
theorem dX9_pinsOf_38 : decode cX9_pinsOf 38 = .ok (.iload_n 2, 1) := by decide +kernel
theorem dX9_pinsOf_39 : decode cX9_pinsOf 39 = .ok (.ireturn, 1) := by decide +kernel
set_option maxHeartbeats 4000000 in
set_option maxRecDepth 100000 in
theorem kL_X9_pinsOf_4 {X : GC} {E : GE} (C : Cx X E cX9_pinsOf RX9 2 4) (o_t : Nat) (a_t : Nat → Nat) (t_round : Int32) (t_x : Int32) (t_told : Int32) (t_pins : (Nat → Int32)) (x1 : Int32) {r : Int32} (hret : RtI X E cX9_pinsOf .int 0 0 (fun w => w = (W_X9_pinsOf E o_t a_t t_told t_round t_x t_pins)) r) : ∀ (n : Nat) (s : Int32 × Int32), L_X9_pinsOf_4 t_told t_pins x1 n s = some r → Gx X E 0 0 (W_X9_pinsOf E o_t a_t t_told t_round t_x t_pins) 4 [(0, .ref o_t), (1, .int x1), (2, .int s.1), (3, .int s.2)] [] := by
  unfold L_X9_pinsOf_4
  refine lp_ind _ (fun go ih s h => ?_)
  refine g_iload_n (pc := 4) C dX9_pinsOf_4 rfl 3 rfl ?_
  refine g_bipush (pc := 5) (v := 6) C dX9_pinsOf_5 (by decide) ?_
  refine g_icmp_ge (pc := 7) (tgt := 38) C dX9_pinsOf_7 (by decide) h (fun h => ?_) (fun h => ?_)
  · refine g_iload_n (pc := 38) C dX9_pinsOf_38 rfl 2 rfl ?_
    cases h
    exact hret _ _ _ dX9_pinsOf_39 rfl rfl
  · refine g_aload_n (pc := 10) C dX9_pinsOf_10 rfl 0 rfl ?_
    refine g_iload_n (pc := 11) C dX9_pinsOf_11 rfl 1 rfl ?_
    obtain ⟨u1, hu1, h⟩ := bs h
    refine g_callV (pc := 12) (st := []) (st1 := [.int u1]) (ws' := (W_X9_pinsOf E o_t a_t t_told t_round t_x t_pins)) C mv_X9_isTold mi_X9_isTold ml_X9_44 (c_X9_isTold X.2.1 E o_t a_t t_told t_round t_x x1 u1 hu1) dX9_pinsOf_12 (by decide) rfl (Nat.le_of_ble_eq_true rfl) 0 8 rfl rfl [0] rfl (by decide) rfl rfl rfl rfl ?_
    refine g_if_eq (pc := 15) (tgt := 38) C dX9_pinsOf_15 (by decide) h (fun h => ?_) (fun h => ?_)
    · refine g_iload_n (pc := 38) C dX9_pinsOf_38 rfl 2 rfl ?_
      cases h
      exact hret _ _ _ dX9_pinsOf_39 rfl rfl
    · refine g_iload_n (pc := 18) C dX9_pinsOf_18 rfl 2 rfl ?_
      refine g_aload_n (pc := 19) C dX9_pinsOf_19 rfl 0 rfl ?_
      refine g_get (pc := 20) C fl_X9_21 dX9_pinsOf_20 0 rfl rfl ?_
      refine g_iload_n (pc := 23) C dX9_pinsOf_23 rfl 1 rfl ?_
      refine g_bipush (pc := 24) (v := 6) C dX9_pinsOf_24 (by decide) ?_
      refine g_imul (pc := 26) C dX9_pinsOf_26 ?_
      refine g_iload_n (pc := 27) C dX9_pinsOf_27 rfl 3 rfl ?_
      refine g_iadd (pc := 28) C dX9_pinsOf_28 ?_
      refine g_iald (pc := 29) C dX9_pinsOf_29 1 rfl h (fun v2 h => ?_)
      refine g_iadd (pc := 30) C dX9_pinsOf_30 ?_
      refine g_nm h (fun v3 h => ?_)
      refine g_istore_n (pc := 31) (lv' := [(2, .int v3), (0, .ref o_t), (1, .int x1), (3, .int s.2)]) C dX9_pinsOf_31 rfl (by decide) rfl ?_
      refine g_iincn (pc := 32) (j := 3) (d := 1) (lv' := fun v4 => [(3, .int v4), (2, .int v3), (0, .ref o_t), (1, .int x1)]) C dX9_pinsOf_32 rfl (by decide) (by decide) (fun _ => rfl) h (fun v4 h => ?_)
      refine g_goto (pc := 35) (tgt := 4) C dX9_pinsOf_35 (by decide) ?_
      refine g_sub [2, 3, 1, 0] rfl ?_
      exact ih _ h
set_option maxHeartbeats 4000000 in
set_option maxRecDepth 100000 in
theorem c_X9_pinsOf (l : Launch) (E : GE) (o_t : Nat) (a_t : Nat → Nat) (t_told : Int32) (t_round : Int32) (t_x : Int32) (t_pins : (Nat → Int32)) (x1 : Int32) (r : Int32) (h : f_X9_pinsOf t_told t_pins x1 = some r) : Cn l E yX9_pinsOf cX9_pinsOf 4 (some .int) 2 0 0 [.ref o_t, .int x1] (W_X9_pinsOf E o_t a_t t_told t_round t_x t_pins) (fun w => w = (W_X9_pinsOf E o_t a_t t_told t_round t_x t_pins)) (some (.int r)) := by
  refine Cn.ofI (by decide) (Nat.le_of_ble_eq_true rfl) (fun X hX hR C hret => ?_)
  subst hX
  show Gx X E 0 0 (W_X9_pinsOf E o_t a_t t_told t_round t_x t_pins) 0 [(0, .ref o_t), (1, .int x1)] []
  unfold f_X9_pinsOf at h
  refine g_iconst (pc := 0) (v := 0) C dX9_pinsOf_0 (by decide) ?_
  refine g_istore_n (pc := 1) (lv' := [(2, .int (0 : Int32)), (0, .ref o_t), (1, .int x1)]) C dX9_pinsOf_1 rfl (by decide) rfl ?_
  refine g_iconst (pc := 2) (v := 0) C dX9_pinsOf_2 (by decide) ?_
  refine g_istore_n (pc := 3) (lv' := [(3, .int (0 : Int32)), (2, .int (0 : Int32)), (0, .ref o_t), (1, .int x1)]) C dX9_pinsOf_3 rfl (by decide) rfl ?_
  refine g_sub [2, 3, 1, 0] rfl ?_
  refine kL_X9_pinsOf_4 C o_t a_t t_round t_x t_told t_pins x1 hret  _ _ h
abbrev W_X9_put (E : GE) (O_t : Nat) (a_t : Nat → Nat) (t_told : Int32) (t_round : Int32) (t_x : Int32) (t_rooms : (Nat → Int32)) : va_W := [(O_t, ob_X9 a_t t_told t_round t_x), (a_t 1, .inl (E.2.1, 10, .inl t_rooms))]
def f_X9_put (t_told : Int32) (t_rooms : (Nat → Int32)) (x1 : Int32) (x2 : Int32) : Option (Int32 × (Nat → Int32)) := (f_X11_isWithin x1 (0 : Int32) (9 : Int32)).bind fun u1 => if u1 = 0 then (some (t_told, t_rooms)) else wr t_rooms 10 x1 x2 fun g2 => nm (t_told ||| ((1 : Int32) <<< (x1 &&& 31))) fun v3 => some (v3, g2)
theorem dX9_put_0 : decode cX9_put 0 = .ok (.iload_n 1, 1) := by decide +kernel
theorem dX9_put_1 : decode cX9_put 1 = .ok (.iconst 0, 1) := by decide +kernel
theorem dX9_put_2 : decode cX9_put 2 = .ok (.bipush 9, 2) := by decide +kernel
theorem dX9_put_4 : decode cX9_put 4 = .ok (.invokestatic 40, 3) := by decide +kernel
theorem dX9_put_7 : decode cX9_put 7 = .ok (.ifCond .eq 22, 3) := by decide +kernel
theorem dX9_put_10 : decode cX9_put 10 = .ok (.aload_n 0, 1) := by decide +kernel
theorem dX9_put_11 : decode cX9_put 11 = .ok (.getfield 15, 3) := by decide +kernel
theorem dX9_put_14 : decode cX9_put 14 = .ok (.iload_n 1, 1) := by decide +kernel
theorem dX9_put_15 : decode cX9_put 15 = .ok (.iload_n 2, 1) := by decide +kernel
theorem dX9_put_16 : decode cX9_put 16 = .ok (.iastore, 1) := by decide +kernel
theorem dX9_put_17 : decode cX9_put 17 = .ok (.aload_n 0, 1) := by decide +kernel
theorem dX9_put_18 : decode cX9_put 18 = .ok (.dup, 1) := by decide +kernel
theorem dX9_put_19 : decode cX9_put 19 = .ok (.getfield 34, 3) := by decide +kernel
theorem dX9_put_22 : decode cX9_put 22 = .ok (.iconst 1, 1) := by decide +kernel
theorem dX9_put_23 : decode cX9_put 23 = .ok (.iload_n 1, 1) := by decide +kernel
theorem dX9_put_24 : decode cX9_put 24 = .ok (.ishl, 1) := by decide +kernel
theorem dX9_put_25 : decode cX9_put 25 = .ok (.ior, 1) := by decide +kernel
theorem dX9_put_26 : decode cX9_put 26 = .ok (.putfield 34, 3) := by decide +kernel
theorem dX9_put_29 : decode cX9_put 29 = .ok (.return_, 1) := by decide +kernel
set_option maxHeartbeats 4000000 in
set_option maxRecDepth 100000 in
theorem c_X9_put (l : Launch) (E : GE) (o_t : Nat) (a_t : Nat → Nat) (t_told : Int32) (t_round : Int32) (t_x : Int32) (t_rooms : (Nat → Int32)) (x1 : Int32) (x2 : Int32) (r : Int32 × (Nat → Int32)) (h : f_X9_put t_told t_rooms x1 x2 = some r) : Cn l E yX9_put cX9_put 3 none 2 0 0 [.ref o_t, .int x1, .int x2] (W_X9_put E o_t a_t t_told t_round t_x t_rooms) (fun w => w = (W_X9_put E o_t a_t r.1 t_round t_x r.2)) none := by
  refine Cn.ofV (by decide) (Nat.le_of_ble_eq_true rfl) (fun X hX hR C hret => ?_)
  subst hX
  show Gx X E 0 0 (W_X9_put E o_t a_t t_told t_round t_x t_rooms) 0 [(0, .ref o_t), (1, .int x1), (2, .int x2)] []
  unfold f_X9_put at h
  refine g_iload_n (pc := 0) C dX9_put_0 rfl 1 rfl ?_
  refine g_iconst (pc := 1) (v := 0) C dX9_put_1 (by decide) ?_
  refine g_bipush (pc := 2) (v := 9) C dX9_put_2 (by decide) ?_
  obtain ⟨u1, hu1, h⟩ := bs h
  refine g_callSN (pc := 4) (st := []) (st1 := [.int u1]) (ws' := (W_X9_put E o_t a_t t_told t_round t_x t_rooms)) C mv_X11_isWithin ms_X11_isWithin mn_X9_40 (c_X11_isWithin X.2.1 E x1 (0 : Int32) (9 : Int32) u1 hu1) dX9_put_4 (by decide) rfl (Nat.le_of_ble_eq_true rfl) [] rfl (by decide) rfl rfl rfl rfl ?_
  refine g_if_eq (pc := 7) (tgt := 29) C dX9_put_7 (by decide) h (fun h => ?_) (fun h => ?_)
  · cases h
    exact hret _ _ _ dX9_put_29 rfl
  · refine g_aload_n (pc := 10) C dX9_put_10 rfl 0 rfl ?_
    refine g_get (pc := 11) C fl_X9_15 dX9_put_11 0 rfl rfl ?_
    refine g_iload_n (pc := 14) C dX9_put_14 rfl 1 rfl ?_
    refine g_iload_n (pc := 15) C dX9_put_15 rfl 2 rfl ?_
    refine g_iast (pc := 16) C dX9_put_16 1 rfl h (fun g2 h => ?_)
    refine g_ws (ws' := (W_X9_put E o_t a_t t_told t_round t_x g2)) rfl ?_
    refine g_aload_n (pc := 17) C dX9_put_17 rfl 0 rfl ?_
    refine g_dup (pc := 18) C dX9_put_18 rfl ?_
    refine g_get (pc := 19) C fl_X9_34 dX9_put_19 0 rfl rfl ?_
    refine g_iconst (pc := 22) (v := 1) C dX9_put_22 (by decide) ?_
    refine g_iload_n (pc := 23) C dX9_put_23 rfl 1 rfl ?_
    refine g_ishl (pc := 24) C dX9_put_24 ?_
    refine g_ior (pc := 25) C dX9_put_25 ?_
    refine g_nm h (fun v3 h => ?_)
    refine g_put (pc := 26) (ws' := (W_X9_put E o_t a_t v3 t_round t_x g2)) C .int fl_X9_34 dX9_put_26 0 rfl (by decide +kernel) rfl rfl (by decide) rfl ?_
    cases h
    exact hret _ _ _ dX9_put_29 rfl
abbrev W_X9_roomOf (E : GE) (O_t : Nat) (a_t : Nat → Nat) (t_told : Int32) (t_round : Int32) (t_x : Int32) (t_rooms : (Nat → Int32)) : va_W := [(O_t, ob_X9 a_t t_told t_round t_x), (a_t 1, .inl (E.2.1, 10, .inl t_rooms))]
def f_X9_roomOf (t_told : Int32) (t_rooms : (Nat → Int32)) (x1 : Int32) : Option (Int32) := (f_X9_isTold t_told x1).bind fun u1 => if u1 = 0 then (some (-1 : Int32)) else rd t_rooms 10 x1 fun v2 => some v2
theorem dX9_roomOf_0 : decode cX9_roomOf 0 = .ok (.aload_n 0, 1) := by decide +kernel
theorem dX9_roomOf_1 : decode cX9_roomOf 1 = .ok (.iload_n 1, 1) := by decide +kernel
theorem dX9_roomOf_2 : decode cX9_roomOf 2 = .ok (.invokevirtual 44, 3) := by decide +kernel
theorem dX9_roomOf_5 : decode cX9_roomOf 5 = .ok (.ifCond .eq 12, 3) := by decide +kernel
theorem dX9_roomOf_8 : decode cX9_roomOf 8 = .ok (.aload_n 0, 1) := by decide +kernel
theorem dX9_roomOf_9 : decode cX9_roomOf 9 = .ok (.getfield 15, 3) := by decide +kernel
theorem dX9_roomOf_12 : decode cX9_roomOf 12 = .ok (.iload_n 1, 1) := by decide +kernel
theorem dX9_roomOf_13 : decode cX9_roomOf 13 = .ok (.iaload, 1) := by decide +kernel
theorem dX9_roomOf_14 : decode cX9_roomOf 14 = .ok (.goto 4, 3) := by decide +kernel
theorem dX9_roomOf_17 : decode cX9_roomOf 17 = .ok (.iconst (-1), 1) := by decide +kernel
theorem dX9_roomOf_18 : decode cX9_roomOf 18 = .ok (.ireturn, 1) := by decide +kernel
set_option maxHeartbeats 4000000 in
set_option maxRecDepth 100000 in
theorem c_X9_roomOf (l : Launch) (E : GE) (o_t : Nat) (a_t : Nat → Nat) (t_told : Int32) (t_round : Int32) (t_x : Int32) (t_rooms : (Nat → Int32)) (x1 : Int32) (r : Int32) (h : f_X9_roomOf t_told t_rooms x1 = some r) : Cn l E yX9_roomOf cX9_roomOf 2 (some .int) 2 0 0 [.ref o_t, .int x1] (W_X9_roomOf E o_t a_t t_told t_round t_x t_rooms) (fun w => w = (W_X9_roomOf E o_t a_t t_told t_round t_x t_rooms)) (some (.int r)) := by
  refine Cn.ofI (by decide) (Nat.le_of_ble_eq_true rfl) (fun X hX hR C hret => ?_)
  subst hX
  show Gx X E 0 0 (W_X9_roomOf E o_t a_t t_told t_round t_x t_rooms) 0 [(0, .ref o_t), (1, .int x1)] []
  unfold f_X9_roomOf at h
  refine g_aload_n (pc := 0) C dX9_roomOf_0 rfl 0 rfl ?_
  refine g_iload_n (pc := 1) C dX9_roomOf_1 rfl 1 rfl ?_
  obtain ⟨u1, hu1, h⟩ := bs h
  refine g_callV (pc := 2) (st := []) (st1 := [.int u1]) (ws' := (W_X9_roomOf E o_t a_t t_told t_round t_x t_rooms)) C mv_X9_isTold mi_X9_isTold ml_X9_44 (c_X9_isTold X.2.1 E o_t a_t t_told t_round t_x x1 u1 hu1) dX9_roomOf_2 (by decide) rfl (Nat.le_of_ble_eq_true rfl) 0 8 rfl rfl [0] rfl (by decide) rfl rfl rfl rfl ?_
  refine g_if_eq (pc := 5) (tgt := 17) C dX9_roomOf_5 (by decide) h (fun h => ?_) (fun h => ?_)
  · refine g_iconst (pc := 17) (v := -1) C dX9_roomOf_17 (by decide) ?_
    cases h
    exact hret _ _ _ dX9_roomOf_18 rfl rfl
  · refine g_aload_n (pc := 8) C dX9_roomOf_8 rfl 0 rfl ?_
    refine g_get (pc := 9) C fl_X9_15 dX9_roomOf_9 0 rfl rfl ?_
    refine g_iload_n (pc := 12) C dX9_roomOf_12 rfl 1 rfl ?_
    refine g_iald (pc := 13) C dX9_roomOf_13 1 rfl h (fun v2 h => ?_)
    refine g_goto (pc := 14) (tgt := 18) C dX9_roomOf_14 (by decide) ?_
    cases h
    exact hret _ _ _ dX9_roomOf_18 rfl rfl
abbrev W_X9_unrust (E : GE) (O_t : Nat) (a_t : Nat → Nat) (t_told : Int32) (t_round : Int32) (t_x : Int32) (t_rust : (Nat → Int32)) : va_W := [(O_t, ob_X9 a_t t_told t_round t_x), (a_t 0, .inl (E.2.1, 24, .inl t_rust))]
def f_X9_unrust (t_rust : (Nat → Int32)) (x1 : Int32) : Option ((Nat → Int32)) := (f_X11_isWithin x1 (0 : Int32) (23 : Int32)).bind fun u1 => if u1 = 0 then (some t_rust) else wr t_rust 24 x1 (0 : Int32) fun g2 => some g2
theorem dX9_unrust_0 : decode cX9_unrust 0 = .ok (.iload_n 1, 1) := by decide +kernel
theorem dX9_unrust_1 : decode cX9_unrust 1 = .ok (.iconst 0, 1) := by decide +kernel
theorem dX9_unrust_2 : decode cX9_unrust 2 = .ok (.bipush 23, 2) := by decide +kernel
theorem dX9_unrust_4 : decode cX9_unrust 4 = .ok (.invokestatic 40, 3) := by decide +kernel
theorem dX9_unrust_7 : decode cX9_unrust 7 = .ok (.ifCond .eq 10, 3) := by decide +kernel
theorem dX9_unrust_10 : decode cX9_unrust 10 = .ok (.aload_n 0, 1) := by decide +kernel
theorem dX9_unrust_11 : decode cX9_unrust 11 = .ok (.getfield 9, 3) := by decide +kernel
theorem dX9_unrust_14 : decode cX9_unrust 14 = .ok (.iload_n 1, 1) := by decide +kernel
theorem dX9_unrust_15 : decode cX9_unrust 15 = .ok (.iconst 0, 1) := by decide +kernel
theorem dX9_unrust_16 : decode cX9_unrust 16 = .ok (.iastore, 1) := by decide +kernel
theorem dX9_unrust_17 : decode cX9_unrust 17 = .ok (.return_, 1) := by decide +kernel
set_option maxHeartbeats 4000000 in
set_option maxRecDepth 100000 in
theorem c_X9_unrust (l : Launch) (E : GE) (o_t : Nat) (a_t : Nat → Nat) (t_told : Int32) (t_round : Int32) (t_x : Int32) (t_rust : (Nat → Int32)) (x1 : Int32) (r : (Nat → Int32)) (h : f_X9_unrust t_rust x1 = some r) : Cn l E yX9_unrust cX9_unrust 2 none 2 0 0 [.ref o_t, .int x1] (W_X9_unrust E o_t a_t t_told t_round t_x t_rust) (fun w => w = (W_X9_unrust E o_t a_t t_told t_round t_x r)) none := by
  refine Cn.ofV (by decide) (Nat.le_of_ble_eq_true rfl) (fun X hX hR C hret => ?_)
  subst hX
  show Gx X E 0 0 (W_X9_unrust E o_t a_t t_told t_round t_x t_rust) 0 [(0, .ref o_t), (1, .int x1)] []
  unfold f_X9_unrust at h
  refine g_iload_n (pc := 0) C dX9_unrust_0 rfl 1 rfl ?_
  refine g_iconst (pc := 1) (v := 0) C dX9_unrust_1 (by decide) ?_
  refine g_bipush (pc := 2) (v := 23) C dX9_unrust_2 (by decide) ?_
  obtain ⟨u1, hu1, h⟩ := bs h
  refine g_callSN (pc := 4) (st := []) (st1 := [.int u1]) (ws' := (W_X9_unrust E o_t a_t t_told t_round t_x t_rust)) C mv_X11_isWithin ms_X11_isWithin mn_X9_40 (c_X11_isWithin X.2.1 E x1 (0 : Int32) (23 : Int32) u1 hu1) dX9_unrust_4 (by decide) rfl (Nat.le_of_ble_eq_true rfl) [] rfl (by decide) rfl rfl rfl rfl ?_
  refine g_if_eq (pc := 7) (tgt := 17) C dX9_unrust_7 (by decide) h (fun h => ?_) (fun h => ?_)
  · cases h
    exact hret _ _ _ dX9_unrust_17 rfl
  · refine g_aload_n (pc := 10) C dX9_unrust_10 rfl 0 rfl ?_
    refine g_get (pc := 11) C fl_X9_9 dX9_unrust_11 0 rfl rfl ?_
    refine g_iload_n (pc := 14) C dX9_unrust_14 rfl 1 rfl ?_
    refine g_iconst (pc := 15) (v := 0) C dX9_unrust_15 (by decide) ?_
    refine g_iast (pc := 16) C dX9_unrust_16 1 rfl h (fun g2 h => ?_)
    refine g_ws (ws' := (W_X9_unrust E o_t a_t t_told t_round t_x g2)) rfl ?_
    cases h
    exact hret _ _ _ dX9_unrust_17 rfl
abbrev W_X9_whoPutUp (E : GE) (O_t : Nat) (a_t : Nat → Nat) (t_told : Int32) (t_round : Int32) (t_x : Int32) (t_hair : (Nat → Int32)) : va_W := [(O_t, ob_X9 a_t t_told t_round t_x), (a_t 2, .inl (E.2.1, 60, .inl t_hair))]
def L_X9_whoPutUp_5 (t_told : Int32) (t_hair : (Nat → Int32)) (x1 : Int32) (x2 : Int32) : Nat → Int32 × Int32 → Option (Int32) := lp fun go s => if (10 : Int32) ≤ s.2 then (some s.1) else (f_X9_isTold t_told s.2).bind fun u1 => if u1 = 0 then (nm (s.2 + (1 : Int32)) fun v2 => go (s.1, v2)) else (f_X11_isWithin x1 (0 : Int32) (5 : Int32)).bind fun u3 => if u3 = 0 then (nm (s.2 + (1 : Int32)) fun v4 => go (s.1, v4)) else rd t_hair 60 ((s.2 * (6 : Int32)) + x1) fun v5 => if v5 < x2 then (nm (s.2 + (1 : Int32)) fun v6 => go (s.1, v6)) else nm (s.1 ||| ((1 : Int32) <<< (s.2 &&& 31))) fun v7 => nm (s.2 + (1 : Int32)) fun v8 => go (v7, v8)
def f_X9_whoPutUp (t_told : Int32) (t_hair : (Nat → Int32)) (x1 : Int32) (x2 : Int32) : Option (Int32) := L_X9_whoPutUp_5 t_told t_hair x1 x2 fu ((0 : Int32), (0 : Int32))
theorem dX9_whoPutUp_0 : decode cX9_whoPutUp 0 = .ok (.iconst 0, 1) := by decide +kernel
theorem dX9_whoPutUp_1 : decode cX9_whoPutUp 1 = .ok (.istore_n 3, 1) := by decide +kernel
theorem dX9_whoPutUp_2 : decode cX9_whoPutUp 2 = .ok (.iconst 0, 1) := by decide +kernel
theorem dX9_whoPutUp_3 : decode cX9_whoPutUp 3 = .ok (.istore 4, 2) := by decide +kernel
theorem dX9_whoPutUp_5 : decode cX9_whoPutUp 5 = .ok (.iload 4, 2) := by decide +kernel
theorem dX9_whoPutUp_7 : decode cX9_whoPutUp 7 = .ok (.bipush 10, 2) := by decide +kernel
theorem dX9_whoPutUp_9 : decode cX9_whoPutUp 9 = .ok (.if_icmp .ge 50, 3) := by decide +kernel
theorem dX9_whoPutUp_12 : decode cX9_whoPutUp 12 = .ok (.aload_n 0, 1) := by decide +kernel
theorem dX9_whoPutUp_13 : decode cX9_whoPutUp 13 = .ok (.iload 4, 2) := by decide +kernel
theorem dX9_whoPutUp_15 : decode cX9_whoPutUp 15 = .ok (.invokevirtual 44, 3) := by decide +kernel
theorem dX9_whoPutUp_18 : decode cX9_whoPutUp 18 = .ok (.ifCond .eq 35, 3) := by decide +kernel
theorem dX9_whoPutUp_21 : decode cX9_whoPutUp 21 = .ok (.iload_n 1, 1) := by decide +kernel
theorem dX9_whoPutUp_22 : decode cX9_whoPutUp 22 = .ok (.iconst 0, 1) := by decide +kernel
theorem dX9_whoPutUp_23 : decode cX9_whoPutUp 23 = .ok (.iconst 5, 1) := by decide +kernel
theorem dX9_whoPutUp_24 : decode cX9_whoPutUp 24 = .ok (.invokestatic 40, 3) := by decide +kernel
theorem dX9_whoPutUp_27 : decode cX9_whoPutUp 27 = .ok (.ifCond .eq 26, 3) := by decide +kernel
theorem dX9_whoPutUp_30 : decode cX9_whoPutUp 30 = .ok (.aload_n 0, 1) := by decide +kernel
theorem dX9_whoPutUp_31 : decode cX9_whoPutUp 31 = .ok (.getfield 18, 3) := by decide +kernel
theorem dX9_whoPutUp_34 : decode cX9_whoPutUp 34 = .ok (.iload 4, 2) := by decide +kernel
theorem dX9_whoPutUp_36 : decode cX9_whoPutUp 36 = .ok (.bipush 6, 2) := by decide +kernel
theorem dX9_whoPutUp_38 : decode cX9_whoPutUp 38 = .ok (.imul, 1) := by decide +kernel
theorem dX9_whoPutUp_39 : decode cX9_whoPutUp 39 = .ok (.iload_n 1, 1) := by decide +kernel
theorem dX9_whoPutUp_40 : decode cX9_whoPutUp 40 = .ok (.iadd, 1) := by decide +kernel
theorem dX9_whoPutUp_41 : decode cX9_whoPutUp 41 = .ok (.iaload, 1) := by decide +kernel
theorem dX9_whoPutUp_42 : decode cX9_whoPutUp 42 = .ok (.iload_n 2, 1) := by decide +kernel
theorem dX9_whoPutUp_43 : decode cX9_whoPutUp 43 = .ok (.if_icmp .lt 10, 3) := by decide +kernel
theorem dX9_whoPutUp_46 : decode cX9_whoPutUp 46 = .ok (.iload_n 3, 1) := by decide +kernel
theorem dX9_whoPutUp_47 : decode cX9_whoPutUp 47 = .ok (.iconst 1, 1) := by decide +kernel
theorem dX9_whoPutUp_48 : decode cX9_whoPutUp 48 = .ok (.iload 4, 2) := by decide +kernel
theorem dX9_whoPutUp_50 : decode cX9_whoPutUp 50 = .ok (.ishl, 1) := by decide +kernel
theorem dX9_whoPutUp_51 : decode cX9_whoPutUp 51 = .ok (.ior, 1) := by decide +kernel
theorem dX9_whoPutUp_52 : decode cX9_whoPutUp 52 = .ok (.istore_n 3, 1) := by decide +kernel
theorem dX9_whoPutUp_53 : decode cX9_whoPutUp 53 = .ok (.iinc 4 1, 3) := by decide +kernel
theorem dX9_whoPutUp_56 : decode cX9_whoPutUp 56 = .ok (.goto (-51), 3) := by decide +kernel
theorem dX9_whoPutUp_59 : decode cX9_whoPutUp 59 = .ok (.iload_n 3, 1) := by decide +kernel
theorem dX9_whoPutUp_60 : decode cX9_whoPutUp 60 = .ok (.ireturn, 1) := by decide +kernel
set_option maxHeartbeats 4000000 in
set_option maxRecDepth 100000 in
theorem kL_X9_whoPutUp_5 {X : GC} {E : GE} (C : Cx X E cX9_whoPutUp RX9 2 5) (o_t : Nat) (a_t : Nat → Nat) (t_round : Int32) (t_x : Int32) (t_told : Int32) (t_hair : (Nat → Int32)) (x1 : Int32) (x2 : Int32) {r : Int32} (hret : RtI X E cX9_whoPutUp .int 0 0 (fun w => w = (W_X9_whoPutUp E o_t a_t t_told t_round t_x t_hair)) r) : ∀ (n : Nat) (s : Int32 × Int32), L_X9_whoPutUp_5 t_told t_hair x1 x2 n s = some r → Gx X E 0 0 (W_X9_whoPutUp E o_t a_t t_told t_round t_x t_hair) 5 [(0, .ref o_t), (1, .int x1), (2, .int x2), (3, .int s.1), (4, .int s.2)] [] := by
  unfold L_X9_whoPutUp_5
  refine lp_ind _ (fun go ih s h => ?_)
  refine g_iload (pc := 5) C dX9_whoPutUp_5 4 rfl ?_
  refine g_bipush (pc := 7) (v := 10) C dX9_whoPutUp_7 (by decide) ?_
  refine g_icmp_ge (pc := 9) (tgt := 59) C dX9_whoPutUp_9 (by decide) h (fun h => ?_) (fun h => ?_)
  · refine g_iload_n (pc := 59) C dX9_whoPutUp_59 rfl 3 rfl ?_
    cases h
    exact hret _ _ _ dX9_whoPutUp_60 rfl rfl
  · refine g_aload_n (pc := 12) C dX9_whoPutUp_12 rfl 0 rfl ?_
    refine g_iload (pc := 13) C dX9_whoPutUp_13 4 rfl ?_
    obtain ⟨u1, hu1, h⟩ := bs h
    refine g_callV (pc := 15) (st := []) (st1 := [.int u1]) (ws' := (W_X9_whoPutUp E o_t a_t t_told t_round t_x t_hair)) C mv_X9_isTold mi_X9_isTold ml_X9_44 (c_X9_isTold X.2.1 E o_t a_t t_told t_round t_x s.2 u1 hu1) dX9_whoPutUp_15 (by decide) rfl (Nat.le_of_ble_eq_true rfl) 0 8 rfl rfl [0] rfl (by decide) rfl rfl rfl rfl ?_
    refine g_if_eq (pc := 18) (tgt := 53) C dX9_whoPutUp_18 (by decide) h (fun h => ?_) (fun h => ?_)
    · refine g_iincn (pc := 53) (j := 4) (d := 1) (lv' := fun v2 => [(4, .int v2), (0, .ref o_t), (1, .int x1), (2, .int x2), (3, .int s.1)]) C dX9_whoPutUp_53 rfl (by decide) (by decide) (fun _ => rfl) h (fun v2 h => ?_)
      refine g_goto (pc := 56) (tgt := 5) C dX9_whoPutUp_56 (by decide) ?_
      refine g_sub [1, 2, 3, 4, 0] rfl ?_
      exact ih _ h
    · refine g_iload_n (pc := 21) C dX9_whoPutUp_21 rfl 1 rfl ?_
      refine g_iconst (pc := 22) (v := 0) C dX9_whoPutUp_22 (by decide) ?_
      refine g_iconst (pc := 23) (v := 5) C dX9_whoPutUp_23 (by decide) ?_
      obtain ⟨u3, hu3, h⟩ := bs h
      refine g_callSN (pc := 24) (st := []) (st1 := [.int u3]) (ws' := (W_X9_whoPutUp E o_t a_t t_told t_round t_x t_hair)) C mv_X11_isWithin ms_X11_isWithin mn_X9_40 (c_X11_isWithin X.2.1 E x1 (0 : Int32) (5 : Int32) u3 hu3) dX9_whoPutUp_24 (by decide) rfl (Nat.le_of_ble_eq_true rfl) [] rfl (by decide) rfl rfl rfl rfl ?_
      refine g_if_eq (pc := 27) (tgt := 53) C dX9_whoPutUp_27 (by decide) h (fun h => ?_) (fun h => ?_)
      · refine g_iincn (pc := 53) (j := 4) (d := 1) (lv' := fun v4 => [(4, .int v4), (0, .ref o_t), (1, .int x1), (2, .int x2), (3, .int s.1)]) C dX9_whoPutUp_53 rfl (by decide) (by decide) (fun _ => rfl) h (fun v4 h => ?_)
        refine g_goto (pc := 56) (tgt := 5) C dX9_whoPutUp_56 (by decide) ?_
        refine g_sub [1, 2, 3, 4, 0] rfl ?_
        exact ih _ h
      · refine g_aload_n (pc := 30) C dX9_whoPutUp_30 rfl 0 rfl ?_
        refine g_get (pc := 31) C fl_X9_18 dX9_whoPutUp_31 0 rfl rfl ?_
        refine g_iload (pc := 34) C dX9_whoPutUp_34 4 rfl ?_
        refine g_bipush (pc := 36) (v := 6) C dX9_whoPutUp_36 (by decide) ?_
        refine g_imul (pc := 38) C dX9_whoPutUp_38 ?_
        refine g_iload_n (pc := 39) C dX9_whoPutUp_39 rfl 1 rfl ?_
        refine g_iadd (pc := 40) C dX9_whoPutUp_40 ?_
        refine g_iald (pc := 41) C dX9_whoPutUp_41 1 rfl h (fun v5 h => ?_)
        refine g_iload_n (pc := 42) C dX9_whoPutUp_42 rfl 2 rfl ?_
        refine g_icmp_lt (pc := 43) (tgt := 53) C dX9_whoPutUp_43 (by decide) h (fun h => ?_) (fun h => ?_)
        · refine g_iincn (pc := 53) (j := 4) (d := 1) (lv' := fun v6 => [(4, .int v6), (0, .ref o_t), (1, .int x1), (2, .int x2), (3, .int s.1)]) C dX9_whoPutUp_53 rfl (by decide) (by decide) (fun _ => rfl) h (fun v6 h => ?_)
          refine g_goto (pc := 56) (tgt := 5) C dX9_whoPutUp_56 (by decide) ?_
          refine g_sub [1, 2, 3, 4, 0] rfl ?_
          exact ih _ h
        · refine g_iload_n (pc := 46) C dX9_whoPutUp_46 rfl 3 rfl ?_
          refine g_iconst (pc := 47) (v := 1) C dX9_whoPutUp_47 (by decide) ?_
          refine g_iload (pc := 48) C dX9_whoPutUp_48 4 rfl ?_
          refine g_ishl (pc := 50) C dX9_whoPutUp_50 ?_
          refine g_ior (pc := 51) C dX9_whoPutUp_51 ?_
          refine g_nm h (fun v7 h => ?_)
          refine g_istore_n (pc := 52) (lv' := [(3, .int v7), (0, .ref o_t), (1, .int x1), (2, .int x2), (4, .int s.2)]) C dX9_whoPutUp_52 rfl (by decide) rfl ?_
          refine g_iincn (pc := 53) (j := 4) (d := 1) (lv' := fun v8 => [(4, .int v8), (3, .int v7), (0, .ref o_t), (1, .int x1), (2, .int x2)]) C dX9_whoPutUp_53 rfl (by decide) (by decide) (fun _ => rfl) h (fun v8 h => ?_)
          refine g_goto (pc := 56) (tgt := 5) C dX9_whoPutUp_56 (by decide) ?_
          refine g_sub [2, 3, 4, 1, 0] rfl ?_
          exact ih _ h
set_option maxHeartbeats 4000000 in
set_option maxRecDepth 100000 in
theorem c_X9_whoPutUp (l : Launch) (E : GE) (o_t : Nat) (a_t : Nat → Nat) (t_told : Int32) (t_round : Int32) (t_x : Int32) (t_hair : (Nat → Int32)) (x1 : Int32) (x2 : Int32) (r : Int32) (h : f_X9_whoPutUp t_told t_hair x1 x2 = some r) : Cn l E yX9_whoPutUp cX9_whoPutUp 5 (some .int) 2 0 0 [.ref o_t, .int x1, .int x2] (W_X9_whoPutUp E o_t a_t t_told t_round t_x t_hair) (fun w => w = (W_X9_whoPutUp E o_t a_t t_told t_round t_x t_hair)) (some (.int r)) := by
  refine Cn.ofI (by decide) (Nat.le_of_ble_eq_true rfl) (fun X hX hR C hret => ?_)
  subst hX
  show Gx X E 0 0 (W_X9_whoPutUp E o_t a_t t_told t_round t_x t_hair) 0 [(0, .ref o_t), (1, .int x1), (2, .int x2)] []
  unfold f_X9_whoPutUp at h
  refine g_iconst (pc := 0) (v := 0) C dX9_whoPutUp_0 (by decide) ?_
  refine g_istore_n (pc := 1) (lv' := [(3, .int (0 : Int32)), (0, .ref o_t), (1, .int x1), (2, .int x2)]) C dX9_whoPutUp_1 rfl (by decide) rfl ?_
  refine g_iconst (pc := 2) (v := 0) C dX9_whoPutUp_2 (by decide) ?_
  refine g_istore (pc := 3) (lv' := [(4, .int (0 : Int32)), (3, .int (0 : Int32)), (0, .ref o_t), (1, .int x1), (2, .int x2)]) C dX9_whoPutUp_3 (by decide) rfl ?_
  refine g_sub [2, 3, 4, 1, 0] rfl ?_
  refine kL_X9_whoPutUp_5 C o_t a_t t_round t_x t_told t_hair x1 x2 hret  _ _ h
end
