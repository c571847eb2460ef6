section
-- ===== PART A: goes FIRST, ahead of the names: the tables' words, and 'selects' of the private methods out of them =====
/-- a private method of a class that the tables say can be made, by its rows of tables_1 -/
def lw_okq (q : MethodName × Nat) : Prop := (q.1.cls ≠ "java/lang/invoke/MethodHandle" ∧ q.1.cls ≠ "java/lang/invoke/VarHandle") ∧ Cond.instantiable q.1.cls q.2 ∈ tables_1 ∧ Cond.privateMethod q.1 ∈ tables_1 ∧ Cond.instanceMethod q.1 ∈ tables_1
theorem lw_p0 : lw_okq (⟨"HairpinLocks$LawReader", "readRule", "()V"⟩, 2) := ⟨⟨by decide +kernel, by decide +kernel⟩, List.mem_of_getElem? (i := 272) (by decide +kernel), List.mem_of_getElem? (i := 368) (by decide +kernel), List.mem_of_getElem? (i := 369) (by decide +kernel)⟩
theorem lw_p1 : lw_okq (⟨"HairpinLocks$LawReader", "readSum", "(I)V"⟩, 2) := ⟨⟨by decide +kernel, by decide +kernel⟩, List.mem_of_getElem? (i := 272) (by decide +kernel), List.mem_of_getElem? (i := 384) (by decide +kernel), List.mem_of_getElem? (i := 385) (by decide +kernel)⟩
theorem lw_p2 : lw_okq (⟨"HairpinLocks$LawReader", "readTerm", "(I)V"⟩, 2) := ⟨⟨by decide +kernel, by decide +kernel⟩, List.mem_of_getElem? (i := 272) (by decide +kernel), List.mem_of_getElem? (i := 388) (by decide +kernel), List.mem_of_getElem? (i := 389) (by decide +kernel)⟩
theorem lw_p3 : lw_okq (⟨"HairpinLocks$LawReader", "readFactor", "(I)V"⟩, 2) := ⟨⟨by decide +kernel, by decide +kernel⟩, List.mem_of_getElem? (i := 272) (by decide +kernel), List.mem_of_getElem? (i := 392) (by decide +kernel), List.mem_of_getElem? (i := 393) (by decide +kernel)⟩
theorem lw_p4 : lw_okq (⟨"HairpinLocks$LawReader", "mayOpen", "(I)Z"⟩, 2) := ⟨⟨by decide +kernel, by decide +kernel⟩, List.mem_of_getElem? (i := 272) (by decide +kernel), List.mem_of_getElem? (i := 401) (by decide +kernel), List.mem_of_getElem? (i := 402) (by decide +kernel)⟩
theorem lw_p5 : lw_okq (⟨"HairpinLocks$LawReader", "readChoice", "(I)V"⟩, 2) := ⟨⟨by decide +kernel, by decide +kernel⟩, List.mem_of_getElem? (i := 272) (by decide +kernel), List.mem_of_getElem? (i := 428) (by decide +kernel), List.mem_of_getElem? (i := 429) (by decide +kernel)⟩
theorem lw_p6 : lw_okq (⟨"HairpinLocks$LawReader", "readPart", "(I)V"⟩, 2) := ⟨⟨by decide +kernel, by decide +kernel⟩, List.mem_of_getElem? (i := 272) (by decide +kernel), List.mem_of_getElem? (i := 432) (by decide +kernel), List.mem_of_getElem? (i := 433) (by decide +kernel)⟩
theorem lw_p7 : lw_okq (⟨"HairpinLocks$LawReader", "readTest", "(I)V"⟩, 2) := ⟨⟨by decide +kernel, by decide +kernel⟩, List.mem_of_getElem? (i := 272) (by decide +kernel), List.mem_of_getElem? (i := 436) (by decide +kernel), List.mem_of_getElem? (i := 437) (by decide +kernel)⟩
theorem lw_p8 : lw_okq (⟨"HairpinLocks$LawReader", "readComparison", "(I)V"⟩, 2) := ⟨⟨by decide +kernel, by decide +kernel⟩, List.mem_of_getElem? (i := 272) (by decide +kernel), List.mem_of_getElem? (i := 440) (by decide +kernel), List.mem_of_getElem? (i := 441) (by decide +kernel)⟩
theorem lw_p9 : lw_okq (⟨"HairpinLocks$HairReader", "readPins", "(I)V"⟩, 4) := ⟨⟨by decide +kernel, by decide +kernel⟩, List.mem_of_getElem? (i := 65) (by decide +kernel), List.mem_of_getElem? (i := 475) (by decide +kernel), List.mem_of_getElem? (i := 476) (by decide +kernel)⟩
theorem lw_p10 : lw_okq (⟨"HairpinLocks$HairReader", "endsHere", "(I)Z"⟩, 4) := ⟨⟨by decide +kernel, by decide +kernel⟩, List.mem_of_getElem? (i := 65) (by decide +kernel), List.mem_of_getElem? (i := 486) (by decide +kernel), List.mem_of_getElem? (i := 487) (by decide +kernel)⟩
theorem lw_p11 : lw_okq (⟨"HairpinLocks$HairReader", "readItem", "(I)V"⟩, 4) := ⟨⟨by decide +kernel, by decide +kernel⟩, List.mem_of_getElem? (i := 65) (by decide +kernel), List.mem_of_getElem? (i := 492) (by decide +kernel), List.mem_of_getElem? (i := 493) (by decide +kernel)⟩
theorem lw_p12 : lw_okq (⟨"HairpinLocks$HairReader", "add", "(III)V"⟩, 4) := ⟨⟨by decide +kernel, by decide +kernel⟩, List.mem_of_getElem? (i := 65) (by decide +kernel), List.mem_of_getElem? (i := 497) (by decide +kernel), List.mem_of_getElem? (i := 498) (by decide +kernel)⟩
theorem lw_p13 : lw_okq (⟨"HairpinLocks$HairReader", "readGroup", "(II)V"⟩, 4) := ⟨⟨by decide +kernel, by decide +kernel⟩, List.mem_of_getElem? (i := 65) (by decide +kernel), List.mem_of_getElem? (i := 501) (by decide +kernel), List.mem_of_getElem? (i := 502) (by decide +kernel)⟩
theorem lw_p14 : lw_okq (⟨"HairpinLocks$OrdersReader", "readLine", "()V"⟩, 8) := ⟨⟨by decide +kernel, by decide +kernel⟩, List.mem_of_getElem? (i := 85) (by decide +kernel), List.mem_of_getElem? (i := 529) (by decide +kernel), List.mem_of_getElem? (i := 530) (by decide +kernel)⟩
theorem lw_p15 : lw_okq (⟨"HairpinLocks$OrdersReader", "readKind", "()V"⟩, 8) := ⟨⟨by decide +kernel, by decide +kernel⟩, List.mem_of_getElem? (i := 85) (by decide +kernel), List.mem_of_getElem? (i := 537) (by decide +kernel), List.mem_of_getElem? (i := 538) (by decide +kernel)⟩
def lw_privs_1 : List (MethodName × Nat) := [(⟨"HairpinLocks$LawReader", "readRule", "()V"⟩, 2), (⟨"HairpinLocks$LawReader", "readSum", "(I)V"⟩, 2), (⟨"HairpinLocks$LawReader", "readTerm", "(I)V"⟩, 2), (⟨"HairpinLocks$LawReader", "readFactor", "(I)V"⟩, 2), (⟨"HairpinLocks$LawReader", "mayOpen", "(I)Z"⟩, 2), (⟨"HairpinLocks$LawReader", "readChoice", "(I)V"⟩, 2), (⟨"HairpinLocks$LawReader", "readPart", "(I)V"⟩, 2), (⟨"HairpinLocks$LawReader", "readTest", "(I)V"⟩, 2), (⟨"HairpinLocks$LawReader", "readComparison", "(I)V"⟩, 2), (⟨"HairpinLocks$HairReader", "readPins", "(I)V"⟩, 4), (⟨"HairpinLocks$HairReader", "endsHere", "(I)Z"⟩, 4), (⟨"HairpinLocks$HairReader", "readItem", "(I)V"⟩, 4), (⟨"HairpinLocks$HairReader", "add", "(III)V"⟩, 4), (⟨"HairpinLocks$HairReader", "readGroup", "(II)V"⟩, 4), (⟨"HairpinLocks$OrdersReader", "readLine", "()V"⟩, 8), (⟨"HairpinLocks$OrdersReader", "readKind", "()V"⟩, 8)]
theorem lw_r1 : ∀ q ∈ lw_privs_1, lw_okq q := List.forall_mem_cons.mpr ⟨lw_p0, List.forall_mem_cons.mpr ⟨lw_p1, List.forall_mem_cons.mpr ⟨lw_p2, List.forall_mem_cons.mpr ⟨lw_p3, List.forall_mem_cons.mpr ⟨lw_p4, List.forall_mem_cons.mpr ⟨lw_p5, List.forall_mem_cons.mpr ⟨lw_p6, List.forall_mem_cons.mpr ⟨lw_p7, List.forall_mem_cons.mpr ⟨lw_p8, List.forall_mem_cons.mpr ⟨lw_p9, List.forall_mem_cons.mpr ⟨lw_p10, List.forall_mem_cons.mpr ⟨lw_p11, List.forall_mem_cons.mpr ⟨lw_p12, List.forall_mem_cons.mpr ⟨lw_p13, List.forall_mem_cons.mpr ⟨lw_p14, List.forall_mem_cons.mpr ⟨lw_p15, fun _ h => absurd h List.not_mem_nil⟩⟩⟩⟩⟩⟩⟩⟩⟩⟩⟩⟩⟩⟩⟩⟩
theorem lw_p16 : lw_okq (⟨"HairpinLocks$OrdersReader", "readDoor", "()V"⟩, 8) := ⟨⟨by decide +kernel, by decide +kernel⟩, List.mem_of_getElem? (i := 85) (by decide +kernel), List.mem_of_getElem? (i := 547) (by decide +kernel), List.mem_of_getElem? (i := 548) (by decide +kernel)⟩
theorem lw_p17 : lw_okq (⟨"HairpinLocks$OrdersReader", "readRooms", "()V"⟩, 8) := ⟨⟨by decide +kernel, by decide +kernel⟩, List.mem_of_getElem? (i := 85) (by decide +kernel), List.mem_of_getElem? (i := 552) (by decide +kernel), List.mem_of_getElem? (i := 553) (by decide +kernel)⟩
theorem lw_p18 : lw_okq (⟨"HairpinLocks$Walk", "step", "(LHairpinLocks$Town;LHairpinLocks$Doors;LHairpinLocks$Law;I)V"⟩, 3) := ⟨⟨by decide +kernel, by decide +kernel⟩, List.mem_of_getElem? (i := 195) (by decide +kernel), List.mem_of_getElem? (i := 595) (by decide +kernel), List.mem_of_getElem? (i := 596) (by decide +kernel)⟩
theorem lw_p19 : lw_okq (⟨"HairpinLocks$Walk", "knowWoman", "(LHairpinLocks$Town;I)V"⟩, 3) := ⟨⟨by decide +kernel, by decide +kernel⟩, List.mem_of_getElem? (i := 195) (by decide +kernel), List.mem_of_getElem? (i := 599) (by decide +kernel), List.mem_of_getElem? (i := 600) (by decide +kernel)⟩
theorem lw_p20 : lw_okq (⟨"HairpinLocks$Law", "reckon", "(II[I)I"⟩, 9) := ⟨⟨by decide +kernel, by decide +kernel⟩, List.mem_of_getElem? (i := 235) (by decide +kernel), List.mem_of_getElem? (i := 615) (by decide +kernel), List.mem_of_getElem? (i := 616) (by decide +kernel)⟩
theorem lw_p21 : lw_okq (⟨"HairpinLocks$Walk", "chooseDoor", "(LHairpinLocks$Town;LHairpinLocks$Doors;LHairpinLocks$Law;I)I"⟩, 3) := ⟨⟨by decide +kernel, by decide +kernel⟩, List.mem_of_getElem? (i := 195) (by decide +kernel), List.mem_of_getElem? (i := 625) (by decide +kernel), List.mem_of_getElem? (i := 626) (by decide +kernel)⟩
theorem lw_p22 : lw_okq (⟨"HairpinLocks$Walk", "knowDoor", "(LHairpinLocks$Town;LHairpinLocks$Doors;I)V"⟩, 3) := ⟨⟨by decide +kernel, by decide +kernel⟩, List.mem_of_getElem? (i := 195) (by decide +kernel), List.mem_of_getElem? (i := 645) (by decide +kernel), List.mem_of_getElem? (i := 646) (by decide +kernel)⟩
theorem lw_p23 : lw_okq (⟨"HairpinLocks", "canBeTried", "(I)Z"⟩, 14) := ⟨⟨by decide +kernel, by decide +kernel⟩, List.mem_of_getElem? (i := 19) (by decide +kernel), List.mem_of_getElem? (i := 694) (by decide +kernel), List.mem_of_getElem? (i := 695) (by decide +kernel)⟩
theorem lw_p24 : lw_okq (⟨"HairpinLocks$Reach", "joinRooms", "(LHairpinLocks$Doors;)V"⟩, 5) := ⟨⟨by decide +kernel, by decide +kernel⟩, List.mem_of_getElem? (i := 213) (by decide +kernel), List.mem_of_getElem? (i := 724) (by decide +kernel), List.mem_of_getElem? (i := 725) (by decide +kernel)⟩
theorem lw_p25 : lw_okq (⟨"HairpinLocks$Reach", "goOn", "(I)V"⟩, 5) := ⟨⟨by decide +kernel, by decide +kernel⟩, List.mem_of_getElem? (i := 213) (by decide +kernel), List.mem_of_getElem? (i := 731) (by decide +kernel), List.mem_of_getElem? (i := 732) (by decide +kernel)⟩
theorem lw_p26 : lw_okq (⟨"HairpinLocks$Reach", "freeKinds", "(I)I"⟩, 5) := ⟨⟨by decide +kernel, by decide +kernel⟩, List.mem_of_getElem? (i := 213) (by decide +kernel), List.mem_of_getElem? (i := 741) (by decide +kernel), List.mem_of_getElem? (i := 742) (by decide +kernel)⟩
theorem lw_p27 : lw_okq (⟨"HairpinLocks$Reach", "roomsNextTo", "(II)I"⟩, 5) := ⟨⟨by decide +kernel, by decide +kernel⟩, List.mem_of_getElem? (i := 213) (by decide +kernel), List.mem_of_getElem? (i := 745) (by decide +kernel), List.mem_of_getElem? (i := 746) (by decide +kernel)⟩
theorem lw_p28 : lw_okq (⟨"HairpinLocks$Reach", "lowestDoor", "(LHairpinLocks$Doors;III)I"⟩, 5) := ⟨⟨by decide +kernel, by decide +kernel⟩, List.mem_of_getElem? (i := 213) (by decide +kernel), List.mem_of_getElem? (i := 759) (by decide +kernel), List.mem_of_getElem? (i := 760) (by decide +kernel)⟩
theorem lw_p29 : lw_okq (⟨"HairpinLocks", "mostOpened", "(II)I"⟩, 14) := ⟨⟨by decide +kernel, by decide +kernel⟩, List.mem_of_getElem? (i := 19) (by decide +kernel), List.mem_of_getElem? (i := 778) (by decide +kernel), List.mem_of_getElem? (i := 779) (by decide +kernel)⟩
theorem lw_p30 : lw_okq (⟨"HairpinLocks$Doors", "opensAll", "(I)Z"⟩, 7) := ⟨⟨by decide +kernel, by decide +kernel⟩, List.mem_of_getElem? (i := 117) (by decide +kernel), List.mem_of_getElem? (i := 792) (by decide +kernel), List.mem_of_getElem? (i := 793) (by decide +kernel)⟩
theorem lw_p31 : lw_okq (⟨"HairpinLocks", "areDoorsWithKinds", "(I)Z"⟩, 14) := ⟨⟨by decide +kernel, by decide +kernel⟩, List.mem_of_getElem? (i := 19) (by decide +kernel), List.mem_of_getElem? (i := 805) (by decide +kernel), List.mem_of_getElem? (i := 806) (by decide +kernel)⟩
def lw_privs_2 : List (MethodName × Nat) := [(⟨"HairpinLocks$OrdersReader", "readDoor", "()V"⟩, 8), (⟨"HairpinLocks$OrdersReader", "readRooms", "()V"⟩, 8), (⟨"HairpinLocks$Walk", "step", "(LHairpinLocks$Town;LHairpinLocks$Doors;LHairpinLocks$Law;I)V"⟩, 3), (⟨"HairpinLocks$Walk", "knowWoman", "(LHairpinLocks$Town;I)V"⟩, 3), (⟨"HairpinLocks$Law", "reckon", "(II[I)I"⟩, 9), (⟨"HairpinLocks$Walk", "chooseDoor", "(LHairpinLocks$Town;LHairpinLocks$Doors;LHairpinLocks$Law;I)I"⟩, 3), (⟨"HairpinLocks$Walk", "knowDoor", "(LHairpinLocks$Town;LHairpinLocks$Doors;I)V"⟩, 3), (⟨"HairpinLocks", "canBeTried", "(I)Z"⟩, 14), (⟨"HairpinLocks$Reach", "joinRooms", "(LHairpinLocks$Doors;)V"⟩, 5), (⟨"HairpinLocks$Reach", "goOn", "(I)V"⟩, 5), (⟨"HairpinLocks$Reach", "freeKinds", "(I)I"⟩, 5), (⟨"HairpinLocks$Reach", "roomsNextTo", "(II)I"⟩, 5), (⟨"HairpinLocks$Reach", "lowestDoor", "(LHairpinLocks$Doors;III)I"⟩, 5), (⟨"HairpinLocks", "mostOpened", "(II)I"⟩, 14), (⟨"HairpinLocks$Doors", "opensAll", "(I)Z"⟩, 7), (⟨"HairpinLocks", "areDoorsWithKinds", "(I)Z"⟩, 14)]
theorem lw_r2 : ∀ q ∈ lw_privs_2, lw_okq q := List.forall_mem_cons.mpr ⟨lw_p16, List.forall_mem_cons.mpr ⟨lw_p17, List.forall_mem_cons.mpr ⟨lw_p18, List.forall_mem_cons.mpr ⟨lw_p19, List.forall_mem_cons.mpr ⟨lw_p20, List.forall_mem_cons.mpr ⟨lw_p21, List.forall_mem_cons.mpr ⟨lw_p22, List.forall_mem_cons.mpr ⟨lw_p23, List.forall_mem_cons.mpr ⟨lw_p24, List.forall_mem_cons.mpr ⟨lw_p25, List.forall_mem_cons.mpr ⟨lw_p26, List.forall_mem_cons.mpr ⟨lw_p27, List.forall_mem_cons.mpr ⟨lw_p28, List.forall_mem_cons.mpr ⟨lw_p29, List.forall_mem_cons.mpr ⟨lw_p30, List.forall_mem_cons.mpr ⟨lw_p31, fun _ h => absurd h List.not_mem_nil⟩⟩⟩⟩⟩⟩⟩⟩⟩⟩⟩⟩⟩⟩⟩⟩
theorem lw_p32 : lw_okq (⟨"HairpinLocks", "whoBent", "(I)I"⟩, 14) := ⟨⟨by decide +kernel, by decide +kernel⟩, List.mem_of_getElem? (i := 19) (by decide +kernel), List.mem_of_getElem? (i := 810) (by decide +kernel), List.mem_of_getElem? (i := 811) (by decide +kernel)⟩
theorem lw_p33 : lw_okq (⟨"HairpinLocks", "bentOf", "(II)I"⟩, 14) := ⟨⟨by decide +kernel, by decide +kernel⟩, List.mem_of_getElem? (i := 19) (by decide +kernel), List.mem_of_getElem? (i := 814) (by decide +kernel), List.mem_of_getElem? (i := 815) (by decide +kernel)⟩
theorem lw_p34 : lw_okq (⟨"HairpinLocksModel", "types", "(I)V"⟩, 58) := ⟨⟨by decide +kernel, by decide +kernel⟩, List.mem_of_getElem? (i := 941) (by decide +kernel), List.mem_of_getElem? (i := 1135) (by decide +kernel), List.mem_of_getElem? (i := 1136) (by decide +kernel)⟩
theorem lw_p35 : lw_okq (⟨"HairpinLocksModel", "beginsText", "(I)V"⟩, 58) := ⟨⟨by decide +kernel, by decide +kernel⟩, List.mem_of_getElem? (i := 941) (by decide +kernel), List.mem_of_getElem? (i := 1143) (by decide +kernel), List.mem_of_getElem? (i := 1144) (by decide +kernel)⟩
theorem lw_p36 : lw_okq (⟨"HairpinLocksModel", "readsRule", "()Z"⟩, 58) := ⟨⟨by decide +kernel, by decide +kernel⟩, List.mem_of_getElem? (i := 941) (by decide +kernel), List.mem_of_getElem? (i := 1147) (by decide +kernel), List.mem_of_getElem? (i := 1148) (by decide +kernel)⟩
theorem lw_p37 : lw_okq (⟨"HairpinLocksModel", "here", "()I"⟩, 58) := ⟨⟨by decide +kernel, by decide +kernel⟩, List.mem_of_getElem? (i := 941) (by decide +kernel), List.mem_of_getElem? (i := 1151) (by decide +kernel), List.mem_of_getElem? (i := 1152) (by decide +kernel)⟩
theorem lw_p38 : lw_okq (⟨"HairpinLocksModel", "wrongAt", "(II)Z"⟩, 58) := ⟨⟨by decide +kernel, by decide +kernel⟩, List.mem_of_getElem? (i := 941) (by decide +kernel), List.mem_of_getElem? (i := 1155) (by decide +kernel), List.mem_of_getElem? (i := 1156) (by decide +kernel)⟩
theorem lw_p39 : lw_okq (⟨"HairpinLocksModel", "readsSum", "()Z"⟩, 58) := ⟨⟨by decide +kernel, by decide +kernel⟩, List.mem_of_getElem? (i := 941) (by decide +kernel), List.mem_of_getElem? (i := 1159) (by decide +kernel), List.mem_of_getElem? (i := 1160) (by decide +kernel)⟩
theorem lw_p40 : lw_okq (⟨"HairpinLocksModel", "readsFactor", "()Z"⟩, 58) := ⟨⟨by decide +kernel, by decide +kernel⟩, List.mem_of_getElem? (i := 941) (by decide +kernel), List.mem_of_getElem? (i := 1163) (by decide +kernel), List.mem_of_getElem? (i := 1164) (by decide +kernel)⟩
theorem lw_p41 : lw_okq (⟨"HairpinLocksModel", "opens", "(I)Z"⟩, 58) := ⟨⟨by decide +kernel, by decide +kernel⟩, List.mem_of_getElem? (i := 941) (by decide +kernel), List.mem_of_getElem? (i := 1167) (by decide +kernel), List.mem_of_getElem? (i := 1168) (by decide +kernel)⟩
theorem lw_p42 : lw_okq (⟨"HairpinLocksModel", "isDigit", "()Z"⟩, 58) := ⟨⟨by decide +kernel, by decide +kernel⟩, List.mem_of_getElem? (i := 941) (by decide +kernel), List.mem_of_getElem? (i := 1172) (by decide +kernel), List.mem_of_getElem? (i := 1173) (by decide +kernel)⟩
theorem lw_p43 : lw_okq (⟨"HairpinLocksModel", "readsNumber", "()Z"⟩, 58) := ⟨⟨by decide +kernel, by decide +kernel⟩, List.mem_of_getElem? (i := 941) (by decide +kernel), List.mem_of_getElem? (i := 1176) (by decide +kernel), List.mem_of_getElem? (i := 1177) (by decide +kernel)⟩
theorem lw_p44 : lw_okq (⟨"HairpinLocksModel", "notes", "(II)V"⟩, 58) := ⟨⟨by decide +kernel, by decide +kernel⟩, List.mem_of_getElem? (i := 941) (by decide +kernel), List.mem_of_getElem? (i := 1180) (by decide +kernel), List.mem_of_getElem? (i := 1181) (by decide +kernel)⟩
theorem lw_p45 : lw_okq (⟨"HairpinLocksModel", "closesSums", "(Z)V"⟩, 58) := ⟨⟨by decide +kernel, by decide +kernel⟩, List.mem_of_getElem? (i := 941) (by decide +kernel), List.mem_of_getElem? (i := 1190) (by decide +kernel), List.mem_of_getElem? (i := 1191) (by decide +kernel)⟩
theorem lw_p46 : lw_okq (⟨"HairpinLocksModel", "waitTop", "()I"⟩, 58) := ⟨⟨by decide +kernel, by decide +kernel⟩, List.mem_of_getElem? (i := 941) (by decide +kernel), List.mem_of_getElem? (i := 1194) (by decide +kernel), List.mem_of_getElem? (i := 1195) (by decide +kernel)⟩
theorem lw_p47 : lw_okq (⟨"HairpinLocksModel", "hasOpenSum", "(I)Z"⟩, 58) := ⟨⟨by decide +kernel, by decide +kernel⟩, List.mem_of_getElem? (i := 941) (by decide +kernel), List.mem_of_getElem? (i := 1198) (by decide +kernel), List.mem_of_getElem? (i := 1199) (by decide +kernel)⟩
def lw_privs_3 : List (MethodName × Nat) := [(⟨"HairpinLocks", "whoBent", "(I)I"⟩, 14), (⟨"HairpinLocks", "bentOf", "(II)I"⟩, 14), (⟨"HairpinLocksModel", "types", "(I)V"⟩, 58), (⟨"HairpinLocksModel", "beginsText", "(I)V"⟩, 58), (⟨"HairpinLocksModel", "readsRule", "()Z"⟩, 58), (⟨"HairpinLocksModel", "here", "()I"⟩, 58), (⟨"HairpinLocksModel", "wrongAt", "(II)Z"⟩, 58), (⟨"HairpinLocksModel", "readsSum", "()Z"⟩, 58), (⟨"HairpinLocksModel", "readsFactor", "()Z"⟩, 58), (⟨"HairpinLocksModel", "opens", "(I)Z"⟩, 58), (⟨"HairpinLocksModel", "isDigit", "()Z"⟩, 58), (⟨"HairpinLocksModel", "readsNumber", "()Z"⟩, 58), (⟨"HairpinLocksModel", "notes", "(II)V"⟩, 58), (⟨"HairpinLocksModel", "closesSums", "(Z)V"⟩, 58), (⟨"HairpinLocksModel", "waitTop", "()I"⟩, 58), (⟨"HairpinLocksModel", "hasOpenSum", "(I)Z"⟩, 58)]
theorem lw_r3 : ∀ q ∈ lw_privs_3, lw_okq q := List.forall_mem_cons.mpr ⟨lw_p32, List.forall_mem_cons.mpr ⟨lw_p33, List.forall_mem_cons.mpr ⟨lw_p34, List.forall_mem_cons.mpr ⟨lw_p35, List.forall_mem_cons.mpr ⟨lw_p36, List.forall_mem_cons.mpr ⟨lw_p37, List.forall_mem_cons.mpr ⟨lw_p38, List.forall_mem_cons.mpr ⟨lw_p39, List.forall_mem_cons.mpr ⟨lw_p40, List.forall_mem_cons.mpr ⟨lw_p41, List.forall_mem_cons.mpr ⟨lw_p42, List.forall_mem_cons.mpr ⟨lw_p43, List.forall_mem_cons.mpr ⟨lw_p44, List.forall_mem_cons.mpr ⟨lw_p45, List.forall_mem_cons.mpr ⟨lw_p46, List.forall_mem_cons.mpr ⟨lw_p47, fun _ h => absurd h List.not_mem_nil⟩⟩⟩⟩⟩⟩⟩⟩⟩⟩⟩⟩⟩⟩⟩⟩
theorem lw_p48 : lw_okq (⟨"HairpinLocksModel", "readsCondition", "()Z"⟩, 58) := ⟨⟨by decide +kernel, by decide +kernel⟩, List.mem_of_getElem? (i := 941) (by decide +kernel), List.mem_of_getElem? (i := 1202) (by decide +kernel), List.mem_of_getElem? (i := 1203) (by decide +kernel)⟩
theorem lw_p49 : lw_okq (⟨"HairpinLocksModel", "readsCompared", "()Z"⟩, 58) := ⟨⟨by decide +kernel, by decide +kernel⟩, List.mem_of_getElem? (i := 941) (by decide +kernel), List.mem_of_getElem? (i := 1206) (by decide +kernel), List.mem_of_getElem? (i := 1207) (by decide +kernel)⟩
theorem lw_p50 : lw_okq (⟨"HairpinLocksModel", "endsPiece", "()V"⟩, 58) := ⟨⟨by decide +kernel, by decide +kernel⟩, List.mem_of_getElem? (i := 941) (by decide +kernel), List.mem_of_getElem? (i := 1210) (by decide +kernel), List.mem_of_getElem? (i := 1211) (by decide +kernel)⟩
theorem lw_p51 : lw_okq (⟨"HairpinLocksModel", "lands", "(Z)V"⟩, 58) := ⟨⟨by decide +kernel, by decide +kernel⟩, List.mem_of_getElem? (i := 941) (by decide +kernel), List.mem_of_getElem? (i := 1214) (by decide +kernel), List.mem_of_getElem? (i := 1215) (by decide +kernel)⟩
theorem lw_p52 : lw_okq (⟨"HairpinLocksModel", "jumps", "(I)V"⟩, 58) := ⟨⟨by decide +kernel, by decide +kernel⟩, List.mem_of_getElem? (i := 941) (by decide +kernel), List.mem_of_getElem? (i := 1218) (by decide +kernel), List.mem_of_getElem? (i := 1219) (by decide +kernel)⟩
theorem lw_p53 : lw_okq (⟨"HairpinLocksModel", "takes", "(I)Z"⟩, 58) := ⟨⟨by decide +kernel, by decide +kernel⟩, List.mem_of_getElem? (i := 941) (by decide +kernel), List.mem_of_getElem? (i := 1222) (by decide +kernel), List.mem_of_getElem? (i := 1223) (by decide +kernel)⟩
theorem lw_p54 : lw_okq (⟨"HairpinLocksModel", "isWoman", "(I)Z"⟩, 58) := ⟨⟨by decide +kernel, by decide +kernel⟩, List.mem_of_getElem? (i := 941) (by decide +kernel), List.mem_of_getElem? (i := 1230) (by decide +kernel), List.mem_of_getElem? (i := 1231) (by decide +kernel)⟩
theorem lw_p55 : lw_okq (⟨"HairpinLocksModel", "readsPin", "()Z"⟩, 58) := ⟨⟨by decide +kernel, by decide +kernel⟩, List.mem_of_getElem? (i := 941) (by decide +kernel), List.mem_of_getElem? (i := 1234) (by decide +kernel), List.mem_of_getElem? (i := 1235) (by decide +kernel)⟩
theorem lw_p56 : lw_okq (⟨"HairpinLocksModel", "readsTimes", "()V"⟩, 58) := ⟨⟨by decide +kernel, by decide +kernel⟩, List.mem_of_getElem? (i := 941) (by decide +kernel), List.mem_of_getElem? (i := 1238) (by decide +kernel), List.mem_of_getElem? (i := 1239) (by decide +kernel)⟩
theorem lw_p57 : lw_okq (⟨"HairpinLocksModel", "repeats", "(III)Z"⟩, 58) := ⟨⟨by decide +kernel, by decide +kernel⟩, List.mem_of_getElem? (i := 941) (by decide +kernel), List.mem_of_getElem? (i := 1242) (by decide +kernel), List.mem_of_getElem? (i := 1243) (by decide +kernel)⟩
theorem lw_p58 : lw_okq (⟨"HairpinLocksModel", "putsUp", "(I)I"⟩, 58) := ⟨⟨by decide +kernel, by decide +kernel⟩, List.mem_of_getElem? (i := 941) (by decide +kernel), List.mem_of_getElem? (i := 1246) (by decide +kernel), List.mem_of_getElem? (i := 1247) (by decide +kernel)⟩
theorem lw_p59 : lw_okq (⟨"HairpinLocksModel", "putsDoorsAside", "()V"⟩, 58) := ⟨⟨by decide +kernel, by decide +kernel⟩, List.mem_of_getElem? (i := 941) (by decide +kernel), List.mem_of_getElem? (i := 1261) (by decide +kernel), List.mem_of_getElem? (i := 1262) (by decide +kernel)⟩
theorem lw_p60 : lw_okq (⟨"HairpinLocksModel", "readsLine", "()Z"⟩, 58) := ⟨⟨by decide +kernel, by decide +kernel⟩, List.mem_of_getElem? (i := 941) (by decide +kernel), List.mem_of_getElem? (i := 1265) (by decide +kernel), List.mem_of_getElem? (i := 1266) (by decide +kernel)⟩
theorem lw_p61 : lw_okq (⟨"HairpinLocksModel", "readsKind", "()Z"⟩, 58) := ⟨⟨by decide +kernel, by decide +kernel⟩, List.mem_of_getElem? (i := 941) (by decide +kernel), List.mem_of_getElem? (i := 1269) (by decide +kernel), List.mem_of_getElem? (i := 1270) (by decide +kernel)⟩
theorem lw_p62 : lw_okq (⟨"HairpinLocksModel", "readsWithin", "(I)Z"⟩, 58) := ⟨⟨by decide +kernel, by decide +kernel⟩, List.mem_of_getElem? (i := 941) (by decide +kernel), List.mem_of_getElem? (i := 1273) (by decide +kernel), List.mem_of_getElem? (i := 1274) (by decide +kernel)⟩
theorem lw_p63 : lw_okq (⟨"HairpinLocksModel", "readsDoor", "()Z"⟩, 58) := ⟨⟨by decide +kernel, by decide +kernel⟩, List.mem_of_getElem? (i := 941) (by decide +kernel), List.mem_of_getElem? (i := 1277) (by decide +kernel), List.mem_of_getElem? (i := 1278) (by decide +kernel)⟩
def lw_privs_4 : List (MethodName × Nat) := [(⟨"HairpinLocksModel", "readsCondition", "()Z"⟩, 58), (⟨"HairpinLocksModel", "readsCompared", "()Z"⟩, 58), (⟨"HairpinLocksModel", "endsPiece", "()V"⟩, 58), (⟨"HairpinLocksModel", "lands", "(Z)V"⟩, 58), (⟨"HairpinLocksModel", "jumps", "(I)V"⟩, 58), (⟨"HairpinLocksModel", "takes", "(I)Z"⟩, 58), (⟨"HairpinLocksModel", "isWoman", "(I)Z"⟩, 58), (⟨"HairpinLocksModel", "readsPin", "()Z"⟩, 58), (⟨"HairpinLocksModel", "readsTimes", "()V"⟩, 58), (⟨"HairpinLocksModel", "repeats", "(III)Z"⟩, 58), (⟨"HairpinLocksModel", "putsUp", "(I)I"⟩, 58), (⟨"HairpinLocksModel", "putsDoorsAside", "()V"⟩, 58), (⟨"HairpinLocksModel", "readsLine", "()Z"⟩, 58), (⟨"HairpinLocksModel", "readsKind", "()Z"⟩, 58), (⟨"HairpinLocksModel", "readsWithin", "(I)Z"⟩, 58), (⟨"HairpinLocksModel", "readsDoor", "()Z"⟩, 58)]
theorem lw_r4 : ∀ q ∈ lw_privs_4, lw_okq q := List.forall_mem_cons.mpr ⟨lw_p48, List.forall_mem_cons.mpr ⟨lw_p49, List.forall_mem_cons.mpr ⟨lw_p50, List.forall_mem_cons.mpr ⟨lw_p51, List.forall_mem_cons.mpr ⟨lw_p52, List.forall_mem_cons.mpr ⟨lw_p53, List.forall_mem_cons.mpr ⟨lw_p54, List.forall_mem_cons.mpr ⟨lw_p55, List.forall_mem_cons.mpr ⟨lw_p56, List.forall_mem_cons.mpr ⟨lw_p57, List.forall_mem_cons.mpr ⟨lw_p58, List.forall_mem_cons.mpr ⟨lw_p59, List.forall_mem_cons.mpr ⟨lw_p60, List.forall_mem_cons.mpr ⟨lw_p61, List.forall_mem_cons.mpr ⟨lw_p62, List.forall_mem_cons.mpr ⟨lw_p63, fun _ h => absurd h List.not_mem_nil⟩⟩⟩⟩⟩⟩⟩⟩⟩⟩⟩⟩⟩⟩⟩⟩
theorem lw_p64 : lw_okq (⟨"HairpinLocksModel", "isDoor", "(I)Z"⟩, 58) := ⟨⟨by decide +kernel, by decide +kernel⟩, List.mem_of_getElem? (i := 941) (by decide +kernel), List.mem_of_getElem? (i := 1281) (by decide +kernel), List.mem_of_getElem? (i := 1282) (by decide +kernel)⟩
theorem lw_p65 : lw_okq (⟨"HairpinLocksModel", "readsRooms", "(I)Z"⟩, 58) := ⟨⟨by decide +kernel, by decide +kernel⟩, List.mem_of_getElem? (i := 941) (by decide +kernel), List.mem_of_getElem? (i := 1288) (by decide +kernel), List.mem_of_getElem? (i := 1289) (by decide +kernel)⟩
theorem lw_p66 : lw_okq (⟨"HairpinLocksModel", "putsDoorsBack", "()V"⟩, 58) := ⟨⟨by decide +kernel, by decide +kernel⟩, List.mem_of_getElem? (i := 941) (by decide +kernel), List.mem_of_getElem? (i := 1292) (by decide +kernel), List.mem_of_getElem? (i := 1293) (by decide +kernel)⟩
theorem lw_p67 : lw_okq (⟨"HairpinLocksModel", "roundsGo", "(I)V"⟩, 58) := ⟨⟨by decide +kernel, by decide +kernel⟩, List.mem_of_getElem? (i := 941) (by decide +kernel), List.mem_of_getElem? (i := 1300) (by decide +kernel), List.mem_of_getElem? (i := 1301) (by decide +kernel)⟩
theorem lw_p68 : lw_okq (⟨"HairpinLocksModel", "turnOf", "(I)V"⟩, 58) := ⟨⟨by decide +kernel, by decide +kernel⟩, List.mem_of_getElem? (i := 941) (by decide +kernel), List.mem_of_getElem? (i := 1304) (by decide +kernel), List.mem_of_getElem? (i := 1305) (by decide +kernel)⟩
theorem lw_p69 : lw_okq (⟨"HairpinLocksModel", "feels", "(I)V"⟩, 58) := ⟨⟨by decide +kernel, by decide +kernel⟩, List.mem_of_getElem? (i := 941) (by decide +kernel), List.mem_of_getElem? (i := 1308) (by decide +kernel), List.mem_of_getElem? (i := 1309) (by decide +kernel)⟩
theorem lw_p70 : lw_okq (⟨"HairpinLocksModel", "pinsOf", "(I)I"⟩, 58) := ⟨⟨by decide +kernel, by decide +kernel⟩, List.mem_of_getElem? (i := 941) (by decide +kernel), List.mem_of_getElem? (i := 1312) (by decide +kernel), List.mem_of_getElem? (i := 1313) (by decide +kernel)⟩
theorem lw_p71 : lw_okq (⟨"HairpinLocksModel", "holdsAny", "(I)Z"⟩, 58) := ⟨⟨by decide +kernel, by decide +kernel⟩, List.mem_of_getElem? (i := 941) (by decide +kernel), List.mem_of_getElem? (i := 1316) (by decide +kernel), List.mem_of_getElem? (i := 1317) (by decide +kernel)⟩
theorem lw_p72 : lw_okq (⟨"HairpinLocksModel", "reckonsTo", "(II)I"⟩, 58) := ⟨⟨by decide +kernel, by decide +kernel⟩, List.mem_of_getElem? (i := 941) (by decide +kernel), List.mem_of_getElem? (i := 1320) (by decide +kernel), List.mem_of_getElem? (i := 1321) (by decide +kernel)⟩
theorem lw_p73 : lw_okq (⟨"HairpinLocksModel", "chosenBy", "(I)I"⟩, 58) := ⟨⟨by decide +kernel, by decide +kernel⟩, List.mem_of_getElem? (i := 941) (by decide +kernel), List.mem_of_getElem? (i := 1327) (by decide +kernel), List.mem_of_getElem? (i := 1328) (by decide +kernel)⟩
theorem lw_p74 : lw_okq (⟨"HairpinLocksModel", "canOpen", "(I)Z"⟩, 58) := ⟨⟨by decide +kernel, by decide +kernel⟩, List.mem_of_getElem? (i := 941) (by decide +kernel), List.mem_of_getElem? (i := 1331) (by decide +kernel), List.mem_of_getElem? (i := 1332) (by decide +kernel)⟩
theorem lw_p75 : lw_okq (⟨"HairpinLocksModel", "behind", "(II)I"⟩, 58) := ⟨⟨by decide +kernel, by decide +kernel⟩, List.mem_of_getElem? (i := 941) (by decide +kernel), List.mem_of_getElem? (i := 1335) (by decide +kernel), List.mem_of_getElem? (i := 1336) (by decide +kernel)⟩
theorem lw_p76 : lw_okq (⟨"HairpinLocksModel", "kindFor", "(II)I"⟩, 58) := ⟨⟨by decide +kernel, by decide +kernel⟩, List.mem_of_getElem? (i := 941) (by decide +kernel), List.mem_of_getElem? (i := 1339) (by decide +kernel), List.mem_of_getElem? (i := 1340) (by decide +kernel)⟩
theorem lw_p77 : lw_okq (⟨"HairpinLocksModel", "fits", "(II)Z"⟩, 58) := ⟨⟨by decide +kernel, by decide +kernel⟩, List.mem_of_getElem? (i := 941) (by decide +kernel), List.mem_of_getElem? (i := 1343) (by decide +kernel), List.mem_of_getElem? (i := 1344) (by decide +kernel)⟩
theorem lw_p78 : lw_okq (⟨"HairpinLocksModel", "feelsDoor", "(II)V"⟩, 58) := ⟨⟨by decide +kernel, by decide +kernel⟩, List.mem_of_getElem? (i := 941) (by decide +kernel), List.mem_of_getElem? (i := 1347) (by decide +kernel), List.mem_of_getElem? (i := 1348) (by decide +kernel)⟩
theorem lw_p79 : lw_okq (⟨"HairpinLocksModel", "womenIn", "(I)I"⟩, 58) := ⟨⟨by decide +kernel, by decide +kernel⟩, List.mem_of_getElem? (i := 941) (by decide +kernel), List.mem_of_getElem? (i := 1351) (by decide +kernel), List.mem_of_getElem? (i := 1352) (by decide +kernel)⟩
def lw_privs_5 : List (MethodName × Nat) := [(⟨"HairpinLocksModel", "isDoor", "(I)Z"⟩, 58), (⟨"HairpinLocksModel", "readsRooms", "(I)Z"⟩, 58), (⟨"HairpinLocksModel", "putsDoorsBack", "()V"⟩, 58), (⟨"HairpinLocksModel", "roundsGo", "(I)V"⟩, 58), (⟨"HairpinLocksModel", "turnOf", "(I)V"⟩, 58), (⟨"HairpinLocksModel", "feels", "(I)V"⟩, 58), (⟨"HairpinLocksModel", "pinsOf", "(I)I"⟩, 58), (⟨"HairpinLocksModel", "holdsAny", "(I)Z"⟩, 58), (⟨"HairpinLocksModel", "reckonsTo", "(II)I"⟩, 58), (⟨"HairpinLocksModel", "chosenBy", "(I)I"⟩, 58), (⟨"HairpinLocksModel", "canOpen", "(I)Z"⟩, 58), (⟨"HairpinLocksModel", "behind", "(II)I"⟩, 58), (⟨"HairpinLocksModel", "kindFor", "(II)I"⟩, 58), (⟨"HairpinLocksModel", "fits", "(II)Z"⟩, 58), (⟨"HairpinLocksModel", "feelsDoor", "(II)V"⟩, 58), (⟨"HairpinLocksModel", "womenIn", "(I)I"⟩, 58)]
theorem lw_r5 : ∀ q ∈ lw_privs_5, lw_okq q := List.forall_mem_cons.mpr ⟨lw_p64, List.forall_mem_cons.mpr ⟨lw_p65, List.forall_mem_cons.mpr ⟨lw_p66, List.forall_mem_cons.mpr ⟨lw_p67, List.forall_mem_cons.mpr ⟨lw_p68, List.forall_mem_cons.mpr ⟨lw_p69, List.forall_mem_cons.mpr ⟨lw_p70, List.forall_mem_cons.mpr ⟨lw_p71, List.forall_mem_cons.mpr ⟨lw_p72, List.forall_mem_cons.mpr ⟨lw_p73, List.forall_mem_cons.mpr ⟨lw_p74, List.forall_mem_cons.mpr ⟨lw_p75, List.forall_mem_cons.mpr ⟨lw_p76, List.forall_mem_cons.mpr ⟨lw_p77, List.forall_mem_cons.mpr ⟨lw_p78, List.forall_mem_cons.mpr ⟨lw_p79, fun _ h => absurd h List.not_mem_nil⟩⟩⟩⟩⟩⟩⟩⟩⟩⟩⟩⟩⟩⟩⟩⟩
theorem lw_p80 : lw_okq (⟨"HairpinLocksModel", "byLaw", "(II)I"⟩, 58) := ⟨⟨by decide +kernel, by decide +kernel⟩, List.mem_of_getElem? (i := 941) (by decide +kernel), List.mem_of_getElem? (i := 1358) (by decide +kernel), List.mem_of_getElem? (i := 1359) (by decide +kernel)⟩
theorem lw_p81 : lw_okq (⟨"HairpinLocksModel", "fitting", "(I)I"⟩, 58) := ⟨⟨by decide +kernel, by decide +kernel⟩, List.mem_of_getElem? (i := 941) (by decide +kernel), List.mem_of_getElem? (i := 1378) (by decide +kernel), List.mem_of_getElem? (i := 1379) (by decide +kernel)⟩
theorem lw_p82 : lw_okq (⟨"HairpinLocksModel", "laysWays", "(I)V"⟩, 58) := ⟨⟨by decide +kernel, by decide +kernel⟩, List.mem_of_getElem? (i := 941) (by decide +kernel), List.mem_of_getElem? (i := 1390) (by decide +kernel), List.mem_of_getElem? (i := 1391) (by decide +kernel)⟩
theorem lw_p83 : lw_okq (⟨"HairpinLocksModel", "goesOn", "(IIII)V"⟩, 58) := ⟨⟨by decide +kernel, by decide +kernel⟩, List.mem_of_getElem? (i := 941) (by decide +kernel), List.mem_of_getElem? (i := 1398) (by decide +kernel), List.mem_of_getElem? (i := 1399) (by decide +kernel)⟩
theorem lw_p84 : lw_okq (⟨"HairpinLocksModel", "clearsWays", "()V"⟩, 58) := ⟨⟨by decide +kernel, by decide +kernel⟩, List.mem_of_getElem? (i := 941) (by decide +kernel), List.mem_of_getElem? (i := 1405) (by decide +kernel), List.mem_of_getElem? (i := 1406) (by decide +kernel)⟩
theorem lw_p85 : lw_okq (⟨"HairpinLocksModel", "areEnough", "(I)Z"⟩, 58) := ⟨⟨by decide +kernel, by decide +kernel⟩, List.mem_of_getElem? (i := 941) (by decide +kernel), List.mem_of_getElem? (i := 1426) (by decide +kernel), List.mem_of_getElem? (i := 1427) (by decide +kernel)⟩
theorem lw_p86 : lw_okq (⟨"HairpinLocksModel", "octet", "(I)I"⟩, 58) := ⟨⟨by decide +kernel, by decide +kernel⟩, List.mem_of_getElem? (i := 941) (by decide +kernel), List.mem_of_getElem? (i := 1434) (by decide +kernel), List.mem_of_getElem? (i := 1435) (by decide +kernel)⟩
theorem lw_p87 : lw_okq (⟨"HairpinLocksModel", "groupOf", "(II)I"⟩, 58) := ⟨⟨by decide +kernel, by decide +kernel⟩, List.mem_of_getElem? (i := 941) (by decide +kernel), List.mem_of_getElem? (i := 1446) (by decide +kernel), List.mem_of_getElem? (i := 1447) (by decide +kernel)⟩
theorem lw_p88 : lw_okq (⟨"HairpinLocksModel", "groups", "(I)I"⟩, 58) := ⟨⟨by decide +kernel, by decide +kernel⟩, List.mem_of_getElem? (i := 941) (by decide +kernel), List.mem_of_getElem? (i := 1450) (by decide +kernel), List.mem_of_getElem? (i := 1451) (by decide +kernel)⟩
theorem lw_p89 : lw_okq (⟨"HairpinLocksModel", "fitsGuess", "(II)Z"⟩, 58) := ⟨⟨by decide +kernel, by decide +kernel⟩, List.mem_of_getElem? (i := 941) (by decide +kernel), List.mem_of_getElem? (i := 1458) (by decide +kernel), List.mem_of_getElem? (i := 1459) (by decide +kernel)⟩
theorem lw_p90 : lw_okq (⟨"HairpinLocksModel", "alikeTo", "(II)I"⟩, 58) := ⟨⟨by decide +kernel, by decide +kernel⟩, List.mem_of_getElem? (i := 941) (by decide +kernel), List.mem_of_getElem? (i := 1477) (by decide +kernel), List.mem_of_getElem? (i := 1478) (by decide +kernel)⟩
theorem lw_p91 : lw_okq (⟨"HairpinLocksModel", "toldWomen", "()I"⟩, 58) := ⟨⟨by decide +kernel, by decide +kernel⟩, List.mem_of_getElem? (i := 941) (by decide +kernel), List.mem_of_getElem? (i := 1509) (by decide +kernel), List.mem_of_getElem? (i := 1510) (by decide +kernel)⟩
theorem lw_p92 : lw_okq (⟨"HairpinLocksModel", "pinsOfAll", "()I"⟩, 58) := ⟨⟨by decide +kernel, by decide +kernel⟩, List.mem_of_getElem? (i := 941) (by decide +kernel), List.mem_of_getElem? (i := 1513) (by decide +kernel), List.mem_of_getElem? (i := 1514) (by decide +kernel)⟩
def lw_privs_6 : List (MethodName × Nat) := [(⟨"HairpinLocksModel", "byLaw", "(II)I"⟩, 58), (⟨"HairpinLocksModel", "fitting", "(I)I"⟩, 58), (⟨"HairpinLocksModel", "laysWays", "(I)V"⟩, 58), (⟨"HairpinLocksModel", "goesOn", "(IIII)V"⟩, 58), (⟨"HairpinLocksModel", "clearsWays", "()V"⟩, 58), (⟨"HairpinLocksModel", "areEnough", "(I)Z"⟩, 58), (⟨"HairpinLocksModel", "octet", "(I)I"⟩, 58), (⟨"HairpinLocksModel", "groupOf", "(II)I"⟩, 58), (⟨"HairpinLocksModel", "groups", "(I)I"⟩, 58), (⟨"HairpinLocksModel", "fitsGuess", "(II)Z"⟩, 58), (⟨"HairpinLocksModel", "alikeTo", "(II)I"⟩, 58), (⟨"HairpinLocksModel", "toldWomen", "()I"⟩, 58), (⟨"HairpinLocksModel", "pinsOfAll", "()I"⟩, 58)]
theorem lw_r6 : ∀ q ∈ lw_privs_6, lw_okq q := List.forall_mem_cons.mpr ⟨lw_p80, List.forall_mem_cons.mpr ⟨lw_p81, List.forall_mem_cons.mpr ⟨lw_p82, List.forall_mem_cons.mpr ⟨lw_p83, List.forall_mem_cons.mpr ⟨lw_p84, List.forall_mem_cons.mpr ⟨lw_p85, List.forall_mem_cons.mpr ⟨lw_p86, List.forall_mem_cons.mpr ⟨lw_p87, List.forall_mem_cons.mpr ⟨lw_p88, List.forall_mem_cons.mpr ⟨lw_p89, List.forall_mem_cons.mpr ⟨lw_p90, List.forall_mem_cons.mpr ⟨lw_p91, List.forall_mem_cons.mpr ⟨lw_p92, fun _ h => absurd h List.not_mem_nil⟩⟩⟩⟩⟩⟩⟩⟩⟩⟩⟩⟩⟩
def lw_privs : List (MethodName × Nat) := lw_privs_1 ++ (lw_privs_2 ++ (lw_privs_3 ++ (lw_privs_4 ++ (lw_privs_5 ++ (lw_privs_6)))))
def lw_tbl : List Cond := k2_sels lw_privs ++ tables_1
theorem lw_privs_ok : ∀ q ∈ lw_privs, lw_okq q := by
  show ∀ q ∈ lw_privs_1 ++ (lw_privs_2 ++ (lw_privs_3 ++ (lw_privs_4 ++ (lw_privs_5 ++ (lw_privs_6))))), lw_okq q
  exact List.forall_mem_append.mpr ⟨lw_r1, List.forall_mem_append.mpr ⟨lw_r2, List.forall_mem_append.mpr ⟨lw_r3, List.forall_mem_append.mpr ⟨lw_r4, List.forall_mem_append.mpr ⟨lw_r5, lw_r6⟩⟩⟩⟩⟩
-- ===== end of PART A; then your names; then what follows =====
end
section
def RX0 : String := "HairpinLocks$Doors"
def TX0 : u_T := fun k => match k with
  | 0 => ("HairpinLocks$Doors", "one", "[I", true)
  | 1 => ("HairpinLocks$Doors", "other", "[I", true)
  | 2 => ("HairpinLocks$Doors", "wards", "[I", true)
  | 3 => ("HairpinLocks$Doors", "fits", "[I", true)
  | 4 => ("HairpinLocks$Doors", "bent", "[I", true)
  | 5 => ("HairpinLocks$Doors", "told", "I", false)
  | _ => ("HairpinLocks$Doors", "barred", "I", false)
def tyX0 : Nat → FieldType := fun k => match k with
  | 0 => .array .int
  | 1 => .array .int
  | 2 => .array .int
  | 3 => .array .int
  | 4 => .array .int
  | 5 => .int
  | _ => .int
abbrev wsX00 : List Cond := u_ws RX0 TX0 7
theorem nmX0 : ∀ a, a < 7 → ∀ b, b < 7 → a ≠ b → (TX0 a).2.1 ≠ (TX0 b).2.1 := by decide +kernel
theorem tyX0_ok : ∀ k, k < 7 → parseFieldDescriptor (TX0 k).2.2.1 = some (tyX0 k) := by decide +kernel
abbrev cX0_init : ByteArray := prog_2_method_1_code
def yX0_init : MethodName := ⟨RX0, "<init>", "()V"⟩
abbrev cX0_isTold : ByteArray := prog_2_method_2_code
def yX0_isTold : MethodName := ⟨RX0, "isTold", "(I)Z"⟩
abbrev cX0_unbarred : ByteArray := prog_2_method_3_code
def yX0_unbarred : MethodName := ⟨RX0, "unbarred", "()I"⟩
abbrev cX0_tell : ByteArray := prog_2_method_4_code
def yX0_tell : MethodName := ⟨RX0, "tell", "(IIII)V"⟩
abbrev cX0_bar : ByteArray := prog_2_method_5_code
def yX0_bar : MethodName := ⟨RX0, "bar", "(IZ)V"⟩
abbrev cX0_bend : ByteArray := prog_2_method_6_code
def yX0_bend : MethodName := ⟨RX0, "bend", "(II)V"⟩
abbrev cX0_fitAll : ByteArray := prog_2_method_7_code
def yX0_fitAll : MethodName := ⟨RX0, "fitAll", "()V"⟩
abbrev cX0_behind : ByteArray := prog_2_method_8_code
def yX0_behind : MethodName := ⟨RX0, "behind", "(II)I"⟩
abbrev cX0_ofRoom : ByteArray := prog_2_method_9_code
def yX0_ofRoom : MethodName := ⟨RX0, "ofRoom", "(I)I"⟩
abbrev cX0_fewestKinds : ByteArray := prog_2_method_10_code
def yX0_fewestKinds : MethodName := ⟨RX0, "fewestKinds", "()I"⟩
abbrev cX0_opensAll : ByteArray := prog_2_method_11_code
def yX0_opensAll : MethodName := ⟨RX0, "opensAll", "(I)Z"⟩
abbrev cX0_groupOf : ByteArray := prog_2_method_12_code
def yX0_groupOf : MethodName := ⟨RX0, "groupOf", "(II)I"⟩
abbrev cX0_groups : ByteArray := prog_2_method_13_code
def yX0_groups : MethodName := ⟨RX0, "groups", "()I"⟩
abbrev cX0_onlyWays : ByteArray := prog_2_method_14_code
def yX0_onlyWays : MethodName := ⟨RX0, "onlyWays", "()I"⟩
def RX1 : String := "HairpinLocks$HairReader"
def TX1 : u_T := fun k => match k with
  | 0 => ("HairpinLocks$HairReader", "script", "LHairpinLocks$Script;", true)
  | 1 => ("HairpinLocks$HairReader", "pins", "[I", true)
  | 2 => ("HairpinLocks$HairReader", "levels", "[I", true)
  | _ => ("HairpinLocks$HairReader", "sums", "[I", true)
def tyX1 : Nat → FieldType := fun k => match k with
  | 0 => .object "HairpinLocks$Script"
  | 1 => .array .int
  | 2 => .array .int
  | _ => .array .int
abbrev wsX10 : List Cond := u_ws RX1 TX1 4
theorem nmX1 : ∀ a, a < 4 → ∀ b, b < 4 → a ≠ b → (TX1 a).2.1 ≠ (TX1 b).2.1 := by decide +kernel
theorem tyX1_ok : ∀ k, k < 4 → parseFieldDescriptor (TX1 k).2.2.1 = some (tyX1 k) := by decide +kernel
abbrev cX1_init : ByteArray := prog_3_method_1_code
def yX1_init : MethodName := ⟨RX1, "<init>", "(LHairpinLocks$Script;)V"⟩
abbrev cX1_read : ByteArray := prog_3_method_2_code
def yX1_read : MethodName := ⟨RX1, "read", "()V"⟩
abbrev cX1_readPins : ByteArray := prog_3_method_3_code
def yX1_readPins : MethodName := ⟨RX1, "readPins", "(I)V"⟩
abbrev cX1_endsHere : ByteArray := prog_3_method_4_code
def yX1_endsHere : MethodName := ⟨RX1, "endsHere", "(I)Z"⟩
abbrev cX1_readItem : ByteArray := prog_3_method_5_code
def yX1_readItem : MethodName := ⟨RX1, "readItem", "(I)V"⟩
abbrev cX1_readGroup : ByteArray := prog_3_method_6_code
def yX1_readGroup : MethodName := ⟨RX1, "readGroup", "(II)V"⟩
abbrev cX1_add : ByteArray := prog_3_method_7_code
def yX1_add : MethodName := ⟨RX1, "add", "(III)V"⟩
def RX2 : String := "HairpinLocks$Law"
def TX2 : u_T := fun k => match k with
  | 0 => ("HairpinLocks$Law", "signs", "[I", true)
  | 1 => ("HairpinLocks$Law", "values", "[I", true)
  | 2 => ("HairpinLocks$Law", "stack", "[I", true)
  | 3 => ("HairpinLocks$Law", "letters", "[I", true)
  | 4 => ("HairpinLocks$Law", "amounts", "[I", true)
  | 5 => ("HairpinLocks$Law", "conditions", "[I", true)
  | 6 => ("HairpinLocks$Law", "ends", "[I", true)
  | 7 => ("HairpinLocks$Law", "size", "I", false)
  | _ => ("HairpinLocks$Law", "rules", "I", false)
def tyX2 : Nat → FieldType := fun k => match k with
  | 0 => .array .int
  | 1 => .array .int
  | 2 => .array .int
  | 3 => .array .int
  | 4 => .array .int
  | 5 => .array .int
  | 6 => .array .int
  | 7 => .int
  | _ => .int
abbrev wsX20 : List Cond := u_ws RX2 TX2 9
theorem nmX2 : ∀ a, a < 9 → ∀ b, b < 9 → a ≠ b → (TX2 a).2.1 ≠ (TX2 b).2.1 := by decide +kernel
theorem tyX2_ok : ∀ k, k < 9 → parseFieldDescriptor (TX2 k).2.2.1 = some (tyX2 k) := by decide +kernel
abbrev cX2_init : ByteArray := prog_4_method_1_code
def yX2_init : MethodName := ⟨RX2, "<init>", "()V"⟩
abbrev cX2_letterAt : ByteArray := prog_4_method_2_code
def yX2_letterAt : MethodName := ⟨RX2, "letterAt", "(I)I"⟩
abbrev cX2_clear : ByteArray := prog_4_method_3_code
def yX2_clear : MethodName := ⟨RX2, "clear", "()V"⟩
abbrev cX2_add : ByteArray := prog_4_method_4_code
def yX2_add : MethodName := ⟨RX2, "add", "(II)I"⟩
abbrev cX2_landJumps : ByteArray := prog_4_method_5_code
def yX2_landJumps : MethodName := ⟨RX2, "landJumps", "(I)V"⟩
abbrev cX2_endRule : ByteArray := prog_4_method_6_code
def yX2_endRule : MethodName := ⟨RX2, "endRule", "(III)V"⟩
abbrev cX2_isAnyTrue : ByteArray := prog_4_method_7_code
def yX2_isAnyTrue : MethodName := ⟨RX2, "isAnyTrue", "(I[I)Z"⟩
abbrev cX2_amountOf : ByteArray := prog_4_method_8_code
def yX2_amountOf : MethodName := ⟨RX2, "amountOf", "(II[I)I"⟩
abbrev cX2_reckon : ByteArray := prog_4_method_9_code
def yX2_reckon : MethodName := ⟨RX2, "reckon", "(II[I)I"⟩
abbrev cX2_letterValue : ByteArray := prog_4_method_10_code
def yX2_letterValue : MethodName := ⟨RX2, "letterValue", "(I[I)I"⟩
abbrev cX2_joined : ByteArray := prog_4_method_11_code
def yX2_joined : MethodName := ⟨RX2, "joined", "(III)I"⟩
def RX3 : String := "HairpinLocks$LawReader"
def TX3 : u_T := fun k => match k with
  | 0 => ("HairpinLocks$LawReader", "script", "LHairpinLocks$Script;", true)
  | _ => ("HairpinLocks$LawReader", "law", "LHairpinLocks$Law;", false)
def tyX3 : Nat → FieldType := fun k => match k with
  | 0 => .object "HairpinLocks$Script"
  | _ => .object "HairpinLocks$Law"
abbrev wsX30 : List Cond := u_ws RX3 TX3 2
theorem nmX3 : ∀ a, a < 2 → ∀ b, b < 2 → a ≠ b → (TX3 a).2.1 ≠ (TX3 b).2.1 := by decide +kernel
theorem tyX3_ok : ∀ k, k < 2 → parseFieldDescriptor (TX3 k).2.2.1 = some (tyX3 k) := by decide +kernel
abbrev cX3_init : ByteArray := prog_5_method_1_code
def yX3_init : MethodName := ⟨RX3, "<init>", "(LHairpinLocks$Script;LHairpinLocks$Law;)V"⟩
abbrev cX3_read : ByteArray := prog_5_method_2_code
def yX3_read : MethodName := ⟨RX3, "read", "(LHairpinLocks$Law;)V"⟩
abbrev cX3_readRule : ByteArray := prog_5_method_3_code
def yX3_readRule : MethodName := ⟨RX3, "readRule", "()V"⟩
abbrev cX3_mayOpen : ByteArray := prog_5_method_4_code
def yX3_mayOpen : MethodName := ⟨RX3, "mayOpen", "(I)Z"⟩
abbrev cX3_readChoice : ByteArray := prog_5_method_5_code
def yX3_readChoice : MethodName := ⟨RX3, "readChoice", "(I)V"⟩
abbrev cX3_readPart : ByteArray := prog_5_method_6_code
def yX3_readPart : MethodName := ⟨RX3, "readPart", "(I)V"⟩
abbrev cX3_readTest : ByteArray := prog_5_method_7_code
def yX3_readTest : MethodName := ⟨RX3, "readTest", "(I)V"⟩
abbrev cX3_readComparison : ByteArray := prog_5_method_8_code
def yX3_readComparison : MethodName := ⟨RX3, "readComparison", "(I)V"⟩
abbrev cX3_readSum : ByteArray := prog_5_method_9_code
def yX3_readSum : MethodName := ⟨RX3, "readSum", "(I)V"⟩
abbrev cX3_readTerm : ByteArray := prog_5_method_10_code
def yX3_readTerm : MethodName := ⟨RX3, "readTerm", "(I)V"⟩
abbrev cX3_readFactor : ByteArray := prog_5_method_11_code
def yX3_readFactor : MethodName := ⟨RX3, "readFactor", "(I)V"⟩
def RX4 : String := "HairpinLocks$OrdersReader"
def TX4 : u_T := fun k => match k with
  | 0 => ("HairpinLocks$OrdersReader", "script", "LHairpinLocks$Script;", true)
  | 1 => ("HairpinLocks$OrdersReader", "sorts", "[I", true)
  | 2 => ("HairpinLocks$OrdersReader", "numbers", "[I", true)
  | 3 => ("HairpinLocks$OrdersReader", "ones", "[I", true)
  | 4 => ("HairpinLocks$OrdersReader", "others", "[I", true)
  | 5 => ("HairpinLocks$OrdersReader", "values", "[I", true)
  | 6 => ("HairpinLocks$OrdersReader", "lines", "I", false)
  | _ => ("HairpinLocks$OrdersReader", "told", "I", false)
def tyX4 : Nat → FieldType := fun k => match k with
  | 0 => .object "HairpinLocks$Script"
  | 1 => .array .int
  | 2 => .array .int
  | 3 => .array .int
  | 4 => .array .int
  | 5 => .array .int
  | 6 => .int
  | _ => .int
abbrev wsX40 : List Cond := u_ws RX4 TX4 8
theorem nmX4 : ∀ a, a < 8 → ∀ b, b < 8 → a ≠ b → (TX4 a).2.1 ≠ (TX4 b).2.1 := by decide +kernel
theorem tyX4_ok : ∀ k, k < 8 → parseFieldDescriptor (TX4 k).2.2.1 = some (tyX4 k) := by decide +kernel
abbrev cX4_init : ByteArray := prog_6_method_1_code
def yX4_init : MethodName := ⟨RX4, "<init>", "(LHairpinLocks$Script;)V"⟩
abbrev cX4_read : ByteArray := prog_6_method_2_code
def yX4_read : MethodName := ⟨RX4, "read", "(I)V"⟩
abbrev cX4_readLine : ByteArray := prog_6_method_3_code
def yX4_readLine : MethodName := ⟨RX4, "readLine", "()V"⟩
abbrev cX4_readKind : ByteArray := prog_6_method_4_code
def yX4_readKind : MethodName := ⟨RX4, "readKind", "()V"⟩
abbrev cX4_readDoor : ByteArray := prog_6_method_5_code
def yX4_readDoor : MethodName := ⟨RX4, "readDoor", "()V"⟩
abbrev cX4_readRooms : ByteArray := prog_6_method_6_code
def yX4_readRooms : MethodName := ⟨RX4, "readRooms", "()V"⟩
abbrev cX4_carryOut : ByteArray := prog_6_method_7_code
def yX4_carryOut : MethodName := ⟨RX4, "carryOut", "(LHairpinLocks$Doors;LHairpinLocks$Town;)V"⟩
def RX5 : String := "HairpinLocks$Puzzles"
def TX5 : u_T := fun k => match k with
  | _ => ("", "", "", false)
def tyX5 : Nat → FieldType := fun k => match k with
  | _ => .int
abbrev wsX50 : List Cond := u_ws RX5 TX5 0
theorem nmX5 : ∀ a, a < 0 → ∀ b, b < 0 → a ≠ b → (TX5 a).2.1 ≠ (TX5 b).2.1 := by decide +kernel
theorem tyX5_ok : ∀ k, k < 0 → parseFieldDescriptor (TX5 k).2.2.1 = some (tyX5 k) := by decide +kernel
abbrev cX5_areColours : ByteArray := prog_7_method_2_code
def yX5_areColours : MethodName := ⟨RX5, "areColours", "(LHairpinLocks$Tape;I)Z"⟩
abbrev cX5_howManyCurls : ByteArray := prog_7_method_3_code
def yX5_howManyCurls : MethodName := ⟨RX5, "howManyCurls", "(LHairpinLocks$Tape;I)I"⟩
abbrev cX5_leastCurls : ByteArray := prog_7_method_4_code
def yX5_leastCurls : MethodName := ⟨RX5, "leastCurls", "(LHairpinLocks$Tape;I)I"⟩
abbrev cX5_couldBe : ByteArray := prog_7_method_5_code
def yX5_couldBe : MethodName := ⟨RX5, "couldBe", "(LHairpinLocks$Tape;II)Z"⟩
abbrev cX5_rightOnes : ByteArray := prog_7_method_6_code
def yX5_rightOnes : MethodName := ⟨RX5, "rightOnes", "(LHairpinLocks$Tape;II)I"⟩
abbrev cX5_sharedOnes : ByteArray := prog_7_method_7_code
def yX5_sharedOnes : MethodName := ⟨RX5, "sharedOnes", "(LHairpinLocks$Tape;II)I"⟩
abbrev cX5_ringMoves : ByteArray := prog_7_method_8_code
def yX5_ringMoves : MethodName := ⟨RX5, "ringMoves", "(I)I"⟩
abbrev cX5_areDials : ByteArray := prog_7_method_9_code
def yX5_areDials : MethodName := ⟨RX5, "areDials", "(LHairpinLocks$Tape;I)Z"⟩
abbrev cX5_dialTurns : ByteArray := prog_7_method_10_code
def yX5_dialTurns : MethodName := ⟨RX5, "dialTurns", "(LHairpinLocks$Tape;I)I"⟩
abbrev cX5_turnsFrom : ByteArray := prog_7_method_11_code
def yX5_turnsFrom : MethodName := ⟨RX5, "turnsFrom", "(LHairpinLocks$Tape;II)I"⟩
abbrev cX5_mostWeight : ByteArray := prog_7_method_12_code
def yX5_mostWeight : MethodName := ⟨RX5, "mostWeight", "(LHairpinLocks$Tape;I)I"⟩
abbrev cX5_howManyWeigh : ByteArray := prog_7_method_13_code
def yX5_howManyWeigh : MethodName := ⟨RX5, "howManyWeigh", "(LHairpinLocks$Tape;II)I"⟩
abbrev cX5_firstOfAnother : ByteArray := prog_7_method_14_code
def yX5_firstOfAnother : MethodName := ⟨RX5, "firstOfAnother", "(LHairpinLocks$Tape;II)I"⟩
abbrev cX5_weekSteps : ByteArray := prog_7_method_15_code
def yX5_weekSteps : MethodName := ⟨RX5, "weekSteps", "(LHairpinLocks$Tape;)I"⟩
abbrev cX5_stepsFrom : ByteArray := prog_7_method_16_code
def yX5_stepsFrom : MethodName := ⟨RX5, "stepsFrom", "(LHairpinLocks$Tape;II)I"⟩
def RX6 : String := "HairpinLocks$Reach"
def TX6 : u_T := fun k => match k with
  | 0 => ("HairpinLocks$Reach", "next", "[I", true)
  | 1 => ("HairpinLocks$Reach", "left", "[I", true)
  | 2 => ("HairpinLocks$Reach", "used", "[I", true)
  | 3 => ("HairpinLocks$Reach", "rooms", "[I", true)
  | _ => ("HairpinLocks$Reach", "size", "I", false)
def tyX6 : Nat → FieldType := fun k => match k with
  | 0 => .array .int
  | 1 => .array .int
  | 2 => .array .int
  | 3 => .array .int
  | _ => .int
abbrev wsX60 : List Cond := u_ws RX6 TX6 5
theorem nmX6 : ∀ a, a < 5 → ∀ b, b < 5 → a ≠ b → (TX6 a).2.1 ≠ (TX6 b).2.1 := by decide +kernel
theorem tyX6_ok : ∀ k, k < 5 → parseFieldDescriptor (TX6 k).2.2.1 = some (tyX6 k) := by decide +kernel
abbrev cX6_init : ByteArray := prog_8_method_1_code
def yX6_init : MethodName := ⟨RX6, "<init>", "()V"⟩
abbrev cX6_spread : ByteArray := prog_8_method_2_code
def yX6_spread : MethodName := ⟨RX6, "spread", "(LHairpinLocks$Doors;LHairpinLocks$Town;II)V"⟩
abbrev cX6_joinRooms : ByteArray := prog_8_method_3_code
def yX6_joinRooms : MethodName := ⟨RX6, "joinRooms", "(LHairpinLocks$Doors;)V"⟩
abbrev cX6_goOn : ByteArray := prog_8_method_4_code
def yX6_goOn : MethodName := ⟨RX6, "goOn", "(I)V"⟩
abbrev cX6_roomsNextTo : ByteArray := prog_8_method_5_code
def yX6_roomsNextTo : MethodName := ⟨RX6, "roomsNextTo", "(II)I"⟩
abbrev cX6_freeKinds : ByteArray := prog_8_method_6_code
def yX6_freeKinds : MethodName := ⟨RX6, "freeKinds", "(I)I"⟩
abbrev cX6_placeOf : ByteArray := prog_8_method_7_code
def yX6_placeOf : MethodName := ⟨RX6, "placeOf", "(I)I"⟩
abbrev cX6_allRooms : ByteArray := prog_8_method_8_code
def yX6_allRooms : MethodName := ⟨RX6, "allRooms", "()I"⟩
abbrev cX6_fewestTo : ByteArray := prog_8_method_9_code
def yX6_fewestTo : MethodName := ⟨RX6, "fewestTo", "(I)I"⟩
abbrev cX6_firstDoor : ByteArray := prog_8_method_10_code
def yX6_firstDoor : MethodName := ⟨RX6, "firstDoor", "(LHairpinLocks$Doors;II)I"⟩
abbrev cX6_lowestDoor : ByteArray := prog_8_method_11_code
def yX6_lowestDoor : MethodName := ⟨RX6, "lowestDoor", "(LHairpinLocks$Doors;III)I"⟩
def RX7 : String := "HairpinLocks$Script"
def TX7 : u_T := fun k => match k with
  | 0 => ("HairpinLocks$Script", "tape", "LHairpinLocks$Tape;", true)
  | 1 => ("HairpinLocks$Script", "end", "I", false)
  | 2 => ("HairpinLocks$Script", "place", "I", false)
  | _ => ("HairpinLocks$Script", "fault", "I", false)
def tyX7 : Nat → FieldType := fun k => match k with
  | 0 => .object "HairpinLocks$Tape"
  | 1 => .int
  | 2 => .int
  | _ => .int
abbrev wsX70 : List Cond := u_ws RX7 TX7 4
theorem nmX7 : ∀ a, a < 4 → ∀ b, b < 4 → a ≠ b → (TX7 a).2.1 ≠ (TX7 b).2.1 := by decide +kernel
theorem tyX7_ok : ∀ k, k < 4 → parseFieldDescriptor (TX7 k).2.2.1 = some (tyX7 k) := by decide +kernel
abbrev cX7_init : ByteArray := prog_9_method_1_code
def yX7_init : MethodName := ⟨RX7, "<init>", "(LHairpinLocks$Tape;)V"⟩
abbrev cX7_open : ByteArray := prog_9_method_2_code
def yX7_open : MethodName := ⟨RX7, "open", "(I)V"⟩
abbrev cX7_isSound : ByteArray := prog_9_method_3_code
def yX7_isSound : MethodName := ⟨RX7, "isSound", "()Z"⟩
abbrev cX7_isAtEnd : ByteArray := prog_9_method_4_code
def yX7_isAtEnd : MethodName := ⟨RX7, "isAtEnd", "()Z"⟩
abbrev cX7_sign : ByteArray := prog_9_method_5_code
def yX7_sign : MethodName := ⟨RX7, "sign", "()I"⟩
abbrev cX7_isDigit : ByteArray := prog_9_method_6_code
def yX7_isDigit : MethodName := ⟨RX7, "isDigit", "()Z"⟩
abbrev cX7_fail : ByteArray := prog_9_method_7_code
def yX7_fail : MethodName := ⟨RX7, "fail", "(II)V"⟩
abbrev cX7_take : ByteArray := prog_9_method_8_code
def yX7_take : MethodName := ⟨RX7, "take", "(I)Z"⟩
abbrev cX7_want : ByteArray := prog_9_method_9_code
def yX7_want : MethodName := ⟨RX7, "want", "(I)V"⟩
abbrev cX7_number : ByteArray := prog_9_method_10_code
def yX7_number : MethodName := ⟨RX7, "number", "(I)I"⟩
abbrev cX7_numberUpTo : ByteArray := prog_9_method_11_code
def yX7_numberUpTo : MethodName := ⟨RX7, "numberUpTo", "(I)I"⟩
def RX8 : String := "HairpinLocks$Tape"
def TX8 : u_T := fun k => match k with
  | 0 => ("HairpinLocks$Tape", "bytes", "[I", true)
  | _ => ("HairpinLocks$Tape", "size", "I", false)
def tyX8 : Nat → FieldType := fun k => match k with
  | 0 => .array .int
  | _ => .int
abbrev wsX80 : List Cond := u_ws RX8 TX8 2
theorem nmX8 : ∀ a, a < 2 → ∀ b, b < 2 → a ≠ b → (TX8 a).2.1 ≠ (TX8 b).2.1 := by decide +kernel
theorem tyX8_ok : ∀ k, k < 2 → parseFieldDescriptor (TX8 k).2.2.1 = some (tyX8 k) := by decide +kernel
abbrev cX8_init : ByteArray := prog_10_method_1_code
def yX8_init : MethodName := ⟨RX8, "<init>", "()V"⟩
abbrev cX8_add : ByteArray := prog_10_method_2_code
def yX8_add : MethodName := ⟨RX8, "add", "(I)V"⟩
abbrev cX8_at : ByteArray := prog_10_method_3_code
def yX8_at : MethodName := ⟨RX8, "at", "(I)I"⟩
abbrev cX8_clear : ByteArray := prog_10_method_4_code
def yX8_clear : MethodName := ⟨RX8, "clear", "()V"⟩
def RX9 : String := "HairpinLocks$Town"
def TX9 : u_T := fun k => match k with
  | 0 => ("HairpinLocks$Town", "rust", "[I", true)
  | 1 => ("HairpinLocks$Town", "rooms", "[I", true)
  | 2 => ("HairpinLocks$Town", "hair", "[I", true)
  | 3 => ("HairpinLocks$Town", "pins", "[I", true)
  | 4 => ("HairpinLocks$Town", "told", "I", false)
  | 5 => ("HairpinLocks$Town", "round", "I", false)
  | _ => ("HairpinLocks$Town", "x", "I", false)
def tyX9 : Nat → FieldType := fun k => match k with
  | 0 => .array .int
  | 1 => .array .int
  | 2 => .array .int
  | 3 => .array .int
  | 4 => .int
  | 5 => .int
  | _ => .int
abbrev wsX90 : List Cond := u_ws RX9 TX9 7
theorem nmX9 : ∀ a, a < 7 → ∀ b, b < 7 → a ≠ b → (TX9 a).2.1 ≠ (TX9 b).2.1 := by decide +kernel
theorem tyX9_ok : ∀ k, k < 7 → parseFieldDescriptor (TX9 k).2.2.1 = some (tyX9 k) := by decide +kernel
abbrev cX9_init : ByteArray := prog_11_method_1_code
def yX9_init : MethodName := ⟨RX9, "<init>", "()V"⟩
abbrev cX9_copy : ByteArray := prog_11_method_2_code
def yX9_copy : MethodName := ⟨RX9, "copy", "(LHairpinLocks$Town;)V"⟩
abbrev cX9_isTold : ByteArray := prog_11_method_3_code
def yX9_isTold : MethodName := ⟨RX9, "isTold", "(I)Z"⟩
abbrev cX9_put : ByteArray := prog_11_method_4_code
def yX9_put : MethodName := ⟨RX9, "put", "(II)V"⟩
abbrev cX9_dress : ByteArray := prog_11_method_5_code
def yX9_dress : MethodName := ⟨RX9, "dress", "(I[I)V"⟩
abbrev cX9_unrust : ByteArray := prog_11_method_6_code
def yX9_unrust : MethodName := ⟨RX9, "unrust", "(I)V"⟩
abbrev cX9_roomOf : ByteArray := prog_11_method_7_code
def yX9_roomOf : MethodName := ⟨RX9, "roomOf", "(I)I"⟩
abbrev cX9_pinsOf : ByteArray := prog_11_method_8_code
def yX9_pinsOf : MethodName := ⟨RX9, "pinsOf", "(I)I"⟩
abbrev cX9_pinsOfAll : ByteArray := prog_11_method_9_code
def yX9_pinsOfAll : MethodName := ⟨RX9, "pinsOfAll", "()I"⟩
abbrev cX9_kindsLeft : ByteArray := prog_11_method_10_code
def yX9_kindsLeft : MethodName := ⟨RX9, "kindsLeft", "(I)I"⟩
abbrev cX9_inRoom : ByteArray := prog_11_method_11_code
def yX9_inRoom : MethodName := ⟨RX9, "inRoom", "(I)I"⟩
abbrev cX9_whoPutUp : ByteArray := prog_11_method_12_code
def yX9_whoPutUp : MethodName := ⟨RX9, "whoPutUp", "(II)I"⟩
abbrev cX9_draw : ByteArray := prog_11_method_13_code
def yX9_draw : MethodName := ⟨RX9, "draw", "()I"⟩
def RX10 : String := "HairpinLocks$Walk"
def TX10 : u_T := fun k => match k with
  | 0 => ("HairpinLocks$Walk", "known", "[I", true)
  | 1 => ("HairpinLocks$Walk", "passed", "I", false)
  | _ => ("HairpinLocks$Walk", "jammed", "I", false)
def tyX10 : Nat → FieldType := fun k => match k with
  | 0 => .array .int
  | 1 => .int
  | _ => .int
abbrev wsX100 : List Cond := u_ws RX10 TX10 3
theorem nmX10 : ∀ a, a < 3 → ∀ b, b < 3 → a ≠ b → (TX10 a).2.1 ≠ (TX10 b).2.1 := by decide +kernel
theorem tyX10_ok : ∀ k, k < 3 → parseFieldDescriptor (TX10 k).2.2.1 = some (tyX10 k) := by decide +kernel
abbrev cX10_init : ByteArray := prog_12_method_1_code
def yX10_init : MethodName := ⟨RX10, "<init>", "()V"⟩
abbrev cX10_go : ByteArray := prog_12_method_2_code
def yX10_go : MethodName := ⟨RX10, "go", "(LHairpinLocks$Town;LHairpinLocks$Doors;LHairpinLocks$Law;I)V"⟩
abbrev cX10_step : ByteArray := prog_12_method_3_code
def yX10_step : MethodName := ⟨RX10, "step", "(LHairpinLocks$Town;LHairpinLocks$Doors;LHairpinLocks$Law;I)V"⟩
abbrev cX10_chooseDoor : ByteArray := prog_12_method_4_code
def yX10_chooseDoor : MethodName := ⟨RX10, "chooseDoor", "(LHairpinLocks$Town;LHairpinLocks$Doors;LHairpinLocks$Law;I)I"⟩
abbrev cX10_knowWoman : ByteArray := prog_12_method_5_code
def yX10_knowWoman : MethodName := ⟨RX10, "knowWoman", "(LHairpinLocks$Town;I)V"⟩
abbrev cX10_knowDoor : ByteArray := prog_12_method_6_code
def yX10_knowDoor : MethodName := ⟨RX10, "knowDoor", "(LHairpinLocks$Town;LHairpinLocks$Doors;I)V"⟩
def RX11 : String := "HairpinLocks"
def TX11 : u_T := fun k => match k with
  | 0 => ("HairpinLocks", "tape", "LHairpinLocks$Tape;", true)
  | 1 => ("HairpinLocks", "script", "LHairpinLocks$Script;", true)
  | 2 => ("HairpinLocks", "hairReader", "LHairpinLocks$HairReader;", true)
  | 3 => ("HairpinLocks", "ordersReader", "LHairpinLocks$OrdersReader;", true)
  | 4 => ("HairpinLocks", "lawReader", "LHairpinLocks$LawReader;", true)
  | 5 => ("HairpinLocks", "doors", "LHairpinLocks$Doors;", true)
  | 6 => ("HairpinLocks", "town", "LHairpinLocks$Town;", true)
  | 7 => ("HairpinLocks", "kept", "LHairpinLocks$Town;", true)
  | 8 => ("HairpinLocks", "trial", "LHairpinLocks$Town;", true)
  | 9 => ("HairpinLocks", "walk", "LHairpinLocks$Walk;", true)
  | 10 => ("HairpinLocks", "reach", "LHairpinLocks$Reach;", true)
  | 11 => ("HairpinLocks", "lawNow", "LHairpinLocks$Law;", false)
  | 12 => ("HairpinLocks", "lawSpare", "LHairpinLocks$Law;", false)
  | _ => ("HairpinLocks", "isKept", "Z", false)
def tyX11 : Nat → FieldType := fun k => match k with
  | 0 => .object "HairpinLocks$Tape"
  | 1 => .object "HairpinLocks$Script"
  | 2 => .object "HairpinLocks$HairReader"
  | 3 => .object "HairpinLocks$OrdersReader"
  | 4 => .object "HairpinLocks$LawReader"
  | 5 => .object "HairpinLocks$Doors"
  | 6 => .object "HairpinLocks$Town"
  | 7 => .object "HairpinLocks$Town"
  | 8 => .object "HairpinLocks$Town"
  | 9 => .object "HairpinLocks$Walk"
  | 10 => .object "HairpinLocks$Reach"
  | 11 => .object "HairpinLocks$Law"
  | 12 => .object "HairpinLocks$Law"
  | _ => .boolean
abbrev wsX110 : List Cond := u_ws RX11 TX11 14
theorem nmX11 : ∀ a, a < 14 → ∀ b, b < 14 → a ≠ b → (TX11 a).2.1 ≠ (TX11 b).2.1 := by decide +kernel
theorem tyX11_ok : ∀ k, k < 14 → parseFieldDescriptor (TX11 k).2.2.1 = some (tyX11 k) := by decide +kernel
abbrev cX11_init : ByteArray := prog_1_method_1_code
def yX11_init : MethodName := ⟨RX11, "<init>", "()V"⟩
abbrev cX11_woman : ByteArray := prog_1_method_2_code
def yX11_woman : MethodName := ⟨RX11, "woman", "(II)Z"⟩
abbrev cX11_feed : ByteArray := prog_1_method_3_code
def yX11_feed : MethodName := ⟨RX11, "feed", "(IIIII)I"⟩
abbrev cX11_law : ByteArray := prog_1_method_4_code
def yX11_law : MethodName := ⟨RX11, "law", "(I)I"⟩
abbrev cX11_hair : ByteArray := prog_1_method_5_code
def yX11_hair : MethodName := ⟨RX11, "hair", "(II)I"⟩
abbrev cX11_orders : ByteArray := prog_1_method_6_code
def yX11_orders : MethodName := ⟨RX11, "orders", "(I)I"⟩
abbrev cX11_rounds : ByteArray := prog_1_method_7_code
def yX11_rounds : MethodName := ⟨RX11, "rounds", "(I)I"⟩
abbrev cX11_night : ByteArray := prog_1_method_8_code
def yX11_night : MethodName := ⟨RX11, "night", "()I"⟩
abbrev cX11_tried : ByteArray := prog_1_method_9_code
def yX11_tried : MethodName := ⟨RX11, "tried", "(II)I"⟩
abbrev cX11_womanIs : ByteArray := prog_1_method_10_code
def yX11_womanIs : MethodName := ⟨RX11, "womanIs", "(II)I"⟩
abbrev cX11_doorIs : ByteArray := prog_1_method_11_code
def yX11_doorIs : MethodName := ⟨RX11, "doorIs", "(II)I"⟩
abbrev cX11_kindIs : ByteArray := prog_1_method_12_code
def yX11_kindIs : MethodName := ⟨RX11, "kindIs", "(I)I"⟩
abbrev cX11_getsTo : ByteArray := prog_1_method_13_code
def yX11_getsTo : MethodName := ⟨RX11, "getsTo", "(III)I"⟩
abbrev cX11_near : ByteArray := prog_1_method_14_code
def yX11_near : MethodName := ⟨RX11, "near", "(I)I"⟩
abbrev cX11_atOnce : ByteArray := prog_1_method_15_code
def yX11_atOnce : MethodName := ⟨RX11, "atOnce", "(II)I"⟩
abbrev cX11_enough : ByteArray := prog_1_method_16_code
def yX11_enough : MethodName := ⟨RX11, "enough", "(I)I"⟩
abbrev cX11_nothingFits : ByteArray := prog_1_method_17_code
def yX11_nothingFits : MethodName := ⟨RX11, "nothingFits", "()I"⟩
abbrev cX11_bent : ByteArray := prog_1_method_18_code
def yX11_bent : MethodName := ⟨RX11, "bent", "(I)I"⟩
abbrev cX11_prongs : ByteArray := prog_1_method_19_code
def yX11_prongs : MethodName := ⟨RX11, "prongs", "(II)I"⟩
abbrev cX11_landings : ByteArray := prog_1_method_20_code
def yX11_landings : MethodName := ⟨RX11, "landings", "(I)I"⟩
abbrev cX11_curls : ByteArray := prog_1_method_21_code
def yX11_curls : MethodName := ⟨RX11, "curls", "(II)I"⟩
abbrev cX11_rings : ByteArray := prog_1_method_22_code
def yX11_rings : MethodName := ⟨RX11, "rings", "(II)I"⟩
abbrev cX11_dials : ByteArray := prog_1_method_23_code
def yX11_dials : MethodName := ⟨RX11, "dials", "(I)I"⟩
abbrev cX11_dish : ByteArray := prog_1_method_24_code
def yX11_dish : MethodName := ⟨RX11, "dish", "(II)I"⟩
abbrev cX11_thursday : ByteArray := prog_1_method_25_code
def yX11_thursday : MethodName := ⟨RX11, "thursday", "()I"⟩
abbrev cX11_seed : ByteArray := prog_1_method_26_code
def yX11_seed : MethodName := ⟨RX11, "seed", "(I)Z"⟩
abbrev cX11_keep : ByteArray := prog_1_method_27_code
def yX11_keep : MethodName := ⟨RX11, "keep", "()I"⟩
abbrev cX11_undo : ByteArray := prog_1_method_28_code
def yX11_undo : MethodName := ⟨RX11, "undo", "()Z"⟩
abbrev cX11_check : ByteArray := prog_1_method_29_code
def yX11_check : MethodName := ⟨RX11, "check", "(I)I"⟩
abbrev cX11_count : ByteArray := prog_1_method_30_code
def yX11_count : MethodName := ⟨RX11, "count", "(I)I"⟩
abbrev cX11_isWithin : ByteArray := prog_1_method_31_code
def yX11_isWithin : MethodName := ⟨RX11, "isWithin", "(III)Z"⟩
abbrev cX11_canBeTried : ByteArray := prog_1_method_32_code
def yX11_canBeTried : MethodName := ⟨RX11, "canBeTried", "(I)Z"⟩
abbrev cX11_mostOpened : ByteArray := prog_1_method_33_code
def yX11_mostOpened : MethodName := ⟨RX11, "mostOpened", "(II)I"⟩
abbrev cX11_areDoorsWithKinds : ByteArray := prog_1_method_34_code
def yX11_areDoorsWithKinds : MethodName := ⟨RX11, "areDoorsWithKinds", "(I)Z"⟩
abbrev cX11_whoBent : ByteArray := prog_1_method_35_code
def yX11_whoBent : MethodName := ⟨RX11, "whoBent", "(I)I"⟩
abbrev cX11_bentOf : ByteArray := prog_1_method_36_code
def yX11_bentOf : MethodName := ⟨RX11, "bentOf", "(II)I"⟩
def RX12 : String := "HairpinLocksModel"
def TX12 : u_T := fun k => match k with
  | 0 => ("HairpinLocksModel", "now", "[I", true)
  | 1 => ("HairpinLocksModel", "aside", "[I", true)
  | 2 => ("HairpinLocksModel", "kept", "[I", true)
  | 3 => ("HairpinLocksModel", "prongsOf", "[I", true)
  | 4 => ("HairpinLocksModel", "oneOf", "[I", true)
  | 5 => ("HairpinLocksModel", "otherOf", "[I", true)
  | 6 => ("HairpinLocksModel", "wardsOf", "[I", true)
  | 7 => ("HairpinLocksModel", "wasProngs", "[I", true)
  | 8 => ("HairpinLocksModel", "wasOne", "[I", true)
  | 9 => ("HairpinLocksModel", "wasOther", "[I", true)
  | 10 => ("HairpinLocksModel", "wasWards", "[I", true)
  | 11 => ("HairpinLocksModel", "toldDoors", "I", false)
  | 12 => ("HairpinLocksModel", "barredDoors", "I", false)
  | 13 => ("HairpinLocksModel", "tape", "[B", true)
  | 14 => ("HairpinLocksModel", "taped", "I", false)
  | 15 => ("HairpinLocksModel", "place0", "I", false)
  | 16 => ("HairpinLocksModel", "length0", "I", false)
  | 17 => ("HairpinLocksModel", "fault", "I", false)
  | 18 => ("HairpinLocksModel", "number0", "I", false)
  | 19 => ("HairpinLocksModel", "open", "I", false)
  | 20 => ("HairpinLocksModel", "codeMany", "I", false)
  | 21 => ("HairpinLocksModel", "waiting", "I", false)
  | 22 => ("HairpinLocksModel", "saidMany", "I", false)
  | 23 => ("HairpinLocksModel", "clauses", "I", false)
  | 24 => ("HairpinLocksModel", "said", "[I", true)
  | 25 => ("HairpinLocksModel", "waitsAt", "[I", true)
  | 26 => ("HairpinLocksModel", "saidLetter", "[I", true)
  | 27 => ("HairpinLocksModel", "saidFrom", "[I", true)
  | 28 => ("HairpinLocksModel", "saidHalf", "[I", true)
  | 29 => ("HairpinLocksModel", "saidTo", "[I", true)
  | 30 => ("HairpinLocksModel", "codes", "[I", true)
  | 31 => ("HairpinLocksModel", "clauseOf", "[I", true)
  | 32 => ("HairpinLocksModel", "codeFrom", "[I", true)
  | 33 => ("HairpinLocksModel", "codeHalf", "[I", true)
  | 34 => ("HairpinLocksModel", "codeTo", "[I", true)
  | 35 => ("HairpinLocksModel", "stack", "[I", true)
  | 36 => ("HairpinLocksModel", "facts", "[I", true)
  | 37 => ("HairpinLocksModel", "newPins", "[I", true)
  | 38 => ("HairpinLocksModel", "roundFrom", "[I", true)
  | 39 => ("HairpinLocksModel", "roundAt", "[I", true)
  | 40 => ("HairpinLocksModel", "roundTimes", "[I", true)
  | 41 => ("HairpinLocksModel", "newMany", "I", false)
  | 42 => ("HairpinLocksModel", "rounds", "I", false)
  | 43 => ("HairpinLocksModel", "pinFrom", "I", false)
  | 44 => ("HairpinLocksModel", "pinTimes", "I", false)
  | 45 => ("HairpinLocksModel", "lines", "I", false)
  | 46 => ("HairpinLocksModel", "wasTold", "I", false)
  | 47 => ("HairpinLocksModel", "wasBarred", "I", false)
  | 48 => ("HairpinLocksModel", "goesNow", "I", false)
  | 49 => ("HairpinLocksModel", "jamsNow", "I", false)
  | 50 => ("HairpinLocksModel", "stepsTo", "[B", true)
  | 51 => ("HairpinLocksModel", "firstBy", "[B", true)
  | 52 => ("HairpinLocksModel", "queue", "[I", true)
  | 53 => ("HairpinLocksModel", "queued", "I", false)
  | 54 => ("HairpinLocksModel", "needOf", "[I", true)
  | 55 => ("HairpinLocksModel", "turnsOf", "[I", true)
  | 56 => ("HairpinLocksModel", "carriedTo", "[I", true)
  | _ => ("HairpinLocksModel", "isKept", "Z", false)
def tyX12 : Nat → FieldType := fun k => match k with
  | 0 => .array .int
  | 1 => .array .int
  | 2 => .array .int
  | 3 => .array .int
  | 4 => .array .int
  | 5 => .array .int
  | 6 => .array .int
  | 7 => .array .int
  | 8 => .array .int
  | 9 => .array .int
  | 10 => .array .int
  | 11 => .int
  | 12 => .int
  | 13 => .array .byte
  | 14 => .int
  | 15 => .int
  | 16 => .int
  | 17 => .int
  | 18 => .int
  | 19 => .int
  | 20 => .int
  | 21 => .int
  | 22 => .int
  | 23 => .int
  | 24 => .array .int
  | 25 => .array .int
  | 26 => .array .int
  | 27 => .array .int
  | 28 => .array .int
  | 29 => .array .int
  | 30 => .array .int
  | 31 => .array .int
  | 32 => .array .int
  | 33 => .array .int
  | 34 => .array .int
  | 35 => .array .int
  | 36 => .array .int
  | 37 => .array .int
  | 38 => .array .int
  | 39 => .array .int
  | 40 => .array .int
  | 41 => .int
  | 42 => .int
  | 43 => .int
  | 44 => .int
  | 45 => .int
  | 46 => .int
  | 47 => .int
  | 48 => .int
  | 49 => .int
  | 50 => .array .byte
  | 51 => .array .byte
  | 52 => .array .int
  | 53 => .int
  | 54 => .array .int
  | 55 => .array .int
  | 56 => .array .int
  | _ => .boolean
abbrev wsX120 : List Cond := u_ws RX12 TX12 58
theorem nmX12 : ∀ a, a < 58 → ∀ b, b < 58 → a ≠ b → (TX12 a).2.1 ≠ (TX12 b).2.1 := by decide +kernel
theorem tyX12_ok : ∀ k, k < 58 → parseFieldDescriptor (TX12 k).2.2.1 = some (tyX12 k) := by decide +kernel
abbrev cX12_init : ByteArray := prog_14_method_1_code
def yX12_init : MethodName := ⟨RX12, "<init>", "()V"⟩
abbrev cX12_in : ByteArray := prog_14_method_2_code
def yX12_in : MethodName := ⟨RX12, "in", "(III)Z"⟩
abbrev cX12_min : ByteArray := prog_14_method_3_code
def yX12_min : MethodName := ⟨RX12, "min", "(II)I"⟩
abbrev cX12_size : ByteArray := prog_14_method_5_code
def yX12_size : MethodName := ⟨RX12, "size", "(I)I"⟩
abbrev cX12_has : ByteArray := prog_14_method_6_code
def yX12_has : MethodName := ⟨RX12, "has", "(II)Z"⟩
abbrev cX12_bits : ByteArray := prog_14_method_7_code
def yX12_bits : MethodName := ⟨RX12, "bits", "(I)I"⟩
abbrev cX12_copies : ByteArray := prog_14_method_8_code
def yX12_copies : MethodName := ⟨RX12, "copies", "([I[I)V"⟩
abbrev cX12_isWoman : ByteArray := prog_14_method_9_code
def yX12_isWoman : MethodName := ⟨RX12, "isWoman", "(I)Z"⟩
abbrev cX12_isDoor : ByteArray := prog_14_method_10_code
def yX12_isDoor : MethodName := ⟨RX12, "isDoor", "(I)Z"⟩
abbrev cX12_canOpen : ByteArray := prog_14_method_11_code
def yX12_canOpen : MethodName := ⟨RX12, "canOpen", "(I)Z"⟩
abbrev cX12_behind : ByteArray := prog_14_method_12_code
def yX12_behind : MethodName := ⟨RX12, "behind", "(II)I"⟩
abbrev cX12_fits : ByteArray := prog_14_method_13_code
def yX12_fits : MethodName := ⟨RX12, "fits", "(II)Z"⟩
abbrev cX12_fitting : ByteArray := prog_14_method_14_code
def yX12_fitting : MethodName := ⟨RX12, "fitting", "(I)I"⟩
abbrev cX12_pinsOf : ByteArray := prog_14_method_15_code
def yX12_pinsOf : MethodName := ⟨RX12, "pinsOf", "(I)I"⟩
abbrev cX12_woman : ByteArray := prog_14_method_16_code
def yX12_woman : MethodName := ⟨RX12, "woman", "(II)Z"⟩
abbrev cX12_types : ByteArray := prog_14_method_17_code
def yX12_types : MethodName := ⟨RX12, "types", "(I)V"⟩
abbrev cX12_feed : ByteArray := prog_14_method_18_code
def yX12_feed : MethodName := ⟨RX12, "feed", "(IIIII)I"⟩
abbrev cX12_octet : ByteArray := prog_14_method_19_code
def yX12_octet : MethodName := ⟨RX12, "octet", "(I)I"⟩
abbrev cX12_here : ByteArray := prog_14_method_20_code
def yX12_here : MethodName := ⟨RX12, "here", "()I"⟩
abbrev cX12_isDigit : ByteArray := prog_14_method_21_code
def yX12_isDigit : MethodName := ⟨RX12, "isDigit", "()Z"⟩
abbrev cX12_wrongAt : ByteArray := prog_14_method_22_code
def yX12_wrongAt : MethodName := ⟨RX12, "wrongAt", "(II)Z"⟩
abbrev cX12_takes : ByteArray := prog_14_method_23_code
def yX12_takes : MethodName := ⟨RX12, "takes", "(I)Z"⟩
abbrev cX12_readsNumber : ByteArray := prog_14_method_24_code
def yX12_readsNumber : MethodName := ⟨RX12, "readsNumber", "()Z"⟩
abbrev cX12_notes : ByteArray := prog_14_method_25_code
def yX12_notes : MethodName := ⟨RX12, "notes", "(II)V"⟩
abbrev cX12_opens : ByteArray := prog_14_method_26_code
def yX12_opens : MethodName := ⟨RX12, "opens", "(I)Z"⟩
abbrev cX12_waitTop : ByteArray := prog_14_method_27_code
def yX12_waitTop : MethodName := ⟨RX12, "waitTop", "()I"⟩
abbrev cX12_factOf : ByteArray := prog_14_method_28_code
def yX12_factOf : MethodName := ⟨RX12, "factOf", "(I)I"⟩
abbrev cX12_sumSign : ByteArray := prog_14_method_29_code
def yX12_sumSign : MethodName := ⟨RX12, "sumSign", "(I)I"⟩
abbrev cX12_closesSums : ByteArray := prog_14_method_30_code
def yX12_closesSums : MethodName := ⟨RX12, "closesSums", "(Z)V"⟩
abbrev cX12_readsFactor : ByteArray := prog_14_method_31_code
def yX12_readsFactor : MethodName := ⟨RX12, "readsFactor", "()Z"⟩
abbrev cX12_hasOpenSum : ByteArray := prog_14_method_32_code
def yX12_hasOpenSum : MethodName := ⟨RX12, "hasOpenSum", "(I)Z"⟩
abbrev cX12_readsSum : ByteArray := prog_14_method_33_code
def yX12_readsSum : MethodName := ⟨RX12, "readsSum", "()Z"⟩
abbrev cX12_endsPiece : ByteArray := prog_14_method_34_code
def yX12_endsPiece : MethodName := ⟨RX12, "endsPiece", "()V"⟩
abbrev cX12_lands : ByteArray := prog_14_method_35_code
def yX12_lands : MethodName := ⟨RX12, "lands", "(Z)V"⟩
abbrev cX12_jumps : ByteArray := prog_14_method_36_code
def yX12_jumps : MethodName := ⟨RX12, "jumps", "(I)V"⟩
abbrev cX12_readsCompared : ByteArray := prog_14_method_37_code
def yX12_readsCompared : MethodName := ⟨RX12, "readsCompared", "()Z"⟩
abbrev cX12_readsCondition : ByteArray := prog_14_method_38_code
def yX12_readsCondition : MethodName := ⟨RX12, "readsCondition", "()Z"⟩
abbrev cX12_readsRule : ByteArray := prog_14_method_39_code
def yX12_readsRule : MethodName := ⟨RX12, "readsRule", "()Z"⟩
abbrev cX12_beginsText : ByteArray := prog_14_method_40_code
def yX12_beginsText : MethodName := ⟨RX12, "beginsText", "(I)V"⟩
abbrev cX12_law : ByteArray := prog_14_method_41_code
def yX12_law : MethodName := ⟨RX12, "law", "(I)I"⟩
abbrev cX12_reckon : ByteArray := prog_14_method_42_code
def yX12_reckon : MethodName := ⟨RX12, "reckon", "(III)I"⟩
abbrev cX12_reckonsTo : ByteArray := prog_14_method_43_code
def yX12_reckonsTo : MethodName := ⟨RX12, "reckonsTo", "(II)I"⟩
abbrev cX12_byLaw : ByteArray := prog_14_method_44_code
def yX12_byLaw : MethodName := ⟨RX12, "byLaw", "(II)I"⟩
abbrev cX12_holdsAny : ByteArray := prog_14_method_45_code
def yX12_holdsAny : MethodName := ⟨RX12, "holdsAny", "(I)Z"⟩
abbrev cX12_readsTimes : ByteArray := prog_14_method_46_code
def yX12_readsTimes : MethodName := ⟨RX12, "readsTimes", "()V"⟩
abbrev cX12_repeats : ByteArray := prog_14_method_47_code
def yX12_repeats : MethodName := ⟨RX12, "repeats", "(III)Z"⟩
abbrev cX12_readsPin : ByteArray := prog_14_method_48_code
def yX12_readsPin : MethodName := ⟨RX12, "readsPin", "()Z"⟩
abbrev cX12_hair : ByteArray := prog_14_method_49_code
def yX12_hair : MethodName := ⟨RX12, "hair", "(II)I"⟩
abbrev cX12_putsUp : ByteArray := prog_14_method_50_code
def yX12_putsUp : MethodName := ⟨RX12, "putsUp", "(I)I"⟩
abbrev cX12_night : ByteArray := prog_14_method_51_code
def yX12_night : MethodName := ⟨RX12, "night", "()I"⟩
abbrev cX12_readsWithin : ByteArray := prog_14_method_52_code
def yX12_readsWithin : MethodName := ⟨RX12, "readsWithin", "(I)Z"⟩
abbrev cX12_readsRooms : ByteArray := prog_14_method_53_code
def yX12_readsRooms : MethodName := ⟨RX12, "readsRooms", "(I)Z"⟩
abbrev cX12_readsDoor : ByteArray := prog_14_method_54_code
def yX12_readsDoor : MethodName := ⟨RX12, "readsDoor", "()Z"⟩
abbrev cX12_readsKind : ByteArray := prog_14_method_55_code
def yX12_readsKind : MethodName := ⟨RX12, "readsKind", "()Z"⟩
abbrev cX12_readsLine : ByteArray := prog_14_method_56_code
def yX12_readsLine : MethodName := ⟨RX12, "readsLine", "()Z"⟩
abbrev cX12_putsDoorsAside : ByteArray := prog_14_method_57_code
def yX12_putsDoorsAside : MethodName := ⟨RX12, "putsDoorsAside", "()V"⟩
abbrev cX12_putsDoorsBack : ByteArray := prog_14_method_58_code
def yX12_putsDoorsBack : MethodName := ⟨RX12, "putsDoorsBack", "()V"⟩
abbrev cX12_orders : ByteArray := prog_14_method_59_code
def yX12_orders : MethodName := ⟨RX12, "orders", "(I)I"⟩
abbrev cX12_womenIn : ByteArray := prog_14_method_60_code
def yX12_womenIn : MethodName := ⟨RX12, "womenIn", "(I)I"⟩
abbrev cX12_feels : ByteArray := prog_14_method_61_code
def yX12_feels : MethodName := ⟨RX12, "feels", "(I)V"⟩
abbrev cX12_kindFor : ByteArray := prog_14_method_62_code
def yX12_kindFor : MethodName := ⟨RX12, "kindFor", "(II)I"⟩
abbrev cX12_feelsDoor : ByteArray := prog_14_method_63_code
def yX12_feelsDoor : MethodName := ⟨RX12, "feelsDoor", "(II)V"⟩
abbrev cX12_chosenBy : ByteArray := prog_14_method_64_code
def yX12_chosenBy : MethodName := ⟨RX12, "chosenBy", "(I)I"⟩
abbrev cX12_turnOf : ByteArray := prog_14_method_65_code
def yX12_turnOf : MethodName := ⟨RX12, "turnOf", "(I)V"⟩
abbrev cX12_roundsGo : ByteArray := prog_14_method_66_code
def yX12_roundsGo : MethodName := ⟨RX12, "roundsGo", "(I)V"⟩
abbrev cX12_rounds : ByteArray := prog_14_method_67_code
def yX12_rounds : MethodName := ⟨RX12, "rounds", "(I)I"⟩
abbrev cX12_tried : ByteArray := prog_14_method_68_code
def yX12_tried : MethodName := ⟨RX12, "tried", "(II)I"⟩
abbrev cX12_womanIs : ByteArray := prog_14_method_69_code
def yX12_womanIs : MethodName := ⟨RX12, "womanIs", "(II)I"⟩
abbrev cX12_doorIs : ByteArray := prog_14_method_70_code
def yX12_doorIs : MethodName := ⟨RX12, "doorIs", "(II)I"⟩
abbrev cX12_kindIs : ByteArray := prog_14_method_71_code
def yX12_kindIs : MethodName := ⟨RX12, "kindIs", "(I)I"⟩
abbrev cX12_goneOf : ByteArray := prog_14_method_72_code
def yX12_goneOf : MethodName := ⟨RX12, "goneOf", "(II)I"⟩
abbrev cX12_sevenTo : ByteArray := prog_14_method_73_code
def yX12_sevenTo : MethodName := ⟨RX12, "sevenTo", "(I)I"⟩
abbrev cX12_goesOn : ByteArray := prog_14_method_74_code
def yX12_goesOn : MethodName := ⟨RX12, "goesOn", "(IIII)V"⟩
abbrev cX12_laysWays : ByteArray := prog_14_method_75_code
def yX12_laysWays : MethodName := ⟨RX12, "laysWays", "(I)V"⟩
abbrev cX12_clearsWays : ByteArray := prog_14_method_76_code
def yX12_clearsWays : MethodName := ⟨RX12, "clearsWays", "()V"⟩
abbrev cX12_getsTo : ByteArray := prog_14_method_77_code
def yX12_getsTo : MethodName := ⟨RX12, "getsTo", "(III)I"⟩
abbrev cX12_near : ByteArray := prog_14_method_78_code
def yX12_near : MethodName := ⟨RX12, "near", "(I)I"⟩
abbrev cX12_atOnce : ByteArray := prog_14_method_79_code
def yX12_atOnce : MethodName := ⟨RX12, "atOnce", "(II)I"⟩
abbrev cX12_nothingFits : ByteArray := prog_14_method_80_code
def yX12_nothingFits : MethodName := ⟨RX12, "nothingFits", "()I"⟩
abbrev cX12_areEnough : ByteArray := prog_14_method_81_code
def yX12_areEnough : MethodName := ⟨RX12, "areEnough", "(I)Z"⟩
abbrev cX12_enough : ByteArray := prog_14_method_82_code
def yX12_enough : MethodName := ⟨RX12, "enough", "(I)I"⟩
abbrev cX12_bent : ByteArray := prog_14_method_83_code
def yX12_bent : MethodName := ⟨RX12, "bent", "(I)I"⟩
abbrev cX12_prongs : ByteArray := prog_14_method_84_code
def yX12_prongs : MethodName := ⟨RX12, "prongs", "(II)I"⟩
abbrev cX12_groupOf : ByteArray := prog_14_method_85_code
def yX12_groupOf : MethodName := ⟨RX12, "groupOf", "(II)I"⟩
abbrev cX12_groups : ByteArray := prog_14_method_86_code
def yX12_groups : MethodName := ⟨RX12, "groups", "(I)I"⟩
abbrev cX12_landings : ByteArray := prog_14_method_87_code
def yX12_landings : MethodName := ⟨RX12, "landings", "(I)I"⟩
abbrev cX12_curlOf : ByteArray := prog_14_method_88_code
def yX12_curlOf : MethodName := ⟨RX12, "curlOf", "(II)I"⟩
abbrev cX12_fitsGuess : ByteArray := prog_14_method_89_code
def yX12_fitsGuess : MethodName := ⟨RX12, "fitsGuess", "(II)Z"⟩
abbrev cX12_curls : ByteArray := prog_14_method_90_code
def yX12_curls : MethodName := ⟨RX12, "curls", "(II)I"⟩
abbrev cX12_rings : ByteArray := prog_14_method_91_code
def yX12_rings : MethodName := ⟨RX12, "rings", "(II)I"⟩
abbrev cX12_dials : ByteArray := prog_14_method_92_code
def yX12_dials : MethodName := ⟨RX12, "dials", "(I)I"⟩
abbrev cX12_alikeTo : ByteArray := prog_14_method_93_code
def yX12_alikeTo : MethodName := ⟨RX12, "alikeTo", "(II)I"⟩
abbrev cX12_dish : ByteArray := prog_14_method_94_code
def yX12_dish : MethodName := ⟨RX12, "dish", "(II)I"⟩
abbrev cX12_thursday : ByteArray := prog_14_method_95_code
def yX12_thursday : MethodName := ⟨RX12, "thursday", "()I"⟩
abbrev cX12_seed : ByteArray := prog_14_method_96_code
def yX12_seed : MethodName := ⟨RX12, "seed", "(I)Z"⟩
abbrev cX12_keep : ByteArray := prog_14_method_97_code
def yX12_keep : MethodName := ⟨RX12, "keep", "()I"⟩
abbrev cX12_undo : ByteArray := prog_14_method_98_code
def yX12_undo : MethodName := ⟨RX12, "undo", "()Z"⟩
abbrev cX12_check : ByteArray := prog_14_method_99_code
def yX12_check : MethodName := ⟨RX12, "check", "(I)I"⟩
abbrev cX12_toldWomen : ByteArray := prog_14_method_100_code
def yX12_toldWomen : MethodName := ⟨RX12, "toldWomen", "()I"⟩
abbrev cX12_pinsOfAll : ByteArray := prog_14_method_101_code
def yX12_pinsOfAll : MethodName := ⟨RX12, "pinsOfAll", "()I"⟩
abbrev cX12_count : ByteArray := prog_14_method_102_code
def yX12_count : MethodName := ⟨RX12, "count", "(I)I"⟩
def RJ6 : String := "java/lang/Integer"
def TJ6 : u_T := fun k => match k with
  | _ => ("", "", "", false)
def tyJ6 : Nat → FieldType := fun k => match k with
  | _ => .int
abbrev wsJ60 : List Cond := u_ws RJ6 TJ6 0
theorem nmJ6 : ∀ a, a < 0 → ∀ b, b < 0 → a ≠ b → (TJ6 a).2.1 ≠ (TJ6 b).2.1 := by decide +kernel
theorem tyJ6_ok : ∀ k, k < 0 → parseFieldDescriptor (TJ6 k).2.2.1 = some (tyJ6 k) := by decide +kernel
abbrev cJ6_numberOfTrailingZeros_0f7a4 : ByteArray := prog_15_method_48_code
def yJ6_numberOfTrailingZeros_0f7a4 : MethodName := ⟨RJ6, "numberOfTrailingZeros", "(I)I"⟩
abbrev cJ6_bitCount_0f7a4 : ByteArray := prog_15_method_49_code
def yJ6_bitCount_0f7a4 : MethodName := ⟨RJ6, "bitCount", "(I)I"⟩
def RJ9 : String := "java/lang/Math"
def TJ9 : u_T := fun k => match k with
  | _ => ("", "", "", false)
def tyJ9 : Nat → FieldType := fun k => match k with
  | _ => .int
abbrev wsJ90 : List Cond := u_ws RJ9 TJ9 0
theorem nmJ9 : ∀ a, a < 0 → ∀ b, b < 0 → a ≠ b → (TJ9 a).2.1 ≠ (TJ9 b).2.1 := by decide +kernel
theorem tyJ9_ok : ∀ k, k < 0 → parseFieldDescriptor (TJ9 k).2.2.1 = some (tyJ9 k) := by decide +kernel
abbrev cJ9_floorMod_7cf53 : ByteArray := prog_16_method_50_code
def yJ9_floorMod_7cf53 : MethodName := ⟨RJ9, "floorMod", "(II)I"⟩
abbrev cJ9_abs_0f7a4 : ByteArray := prog_16_method_59_code
def yJ9_abs_0f7a4 : MethodName := ⟨RJ9, "abs", "(I)I"⟩
abbrev cJ9_max_7cf53 : ByteArray := prog_16_method_65_code
def yJ9_max_7cf53 : MethodName := ⟨RJ9, "max", "(II)I"⟩
abbrev cJ9_min_7cf53 : ByteArray := prog_16_method_69_code
def yJ9_min_7cf53 : MethodName := ⟨RJ9, "min", "(II)I"⟩
def RJ10 : String := "java/lang/System"
def TJ10 : u_T := fun k => match k with
  | _ => ("", "", "", false)
def tyJ10 : Nat → FieldType := fun k => match k with
  | _ => .int
abbrev wsJ100 : List Cond := u_ws RJ10 TJ10 0
theorem nmJ10 : ∀ a, a < 0 → ∀ b, b < 0 → a ≠ b → (TJ10 a).2.1 ≠ (TJ10 b).2.1 := by decide +kernel
theorem tyJ10_ok : ∀ k, k < 0 → parseFieldDescriptor (TJ10 k).2.2.1 = some (tyJ10 k) := by decide +kernel
def RJ7 : String := "java/util/Arrays"
def TJ7 : u_T := fun k => match k with
  | _ => ("", "", "", false)
def tyJ7 : Nat → FieldType := fun k => match k with
  | _ => .int
abbrev wsJ70 : List Cond := u_ws RJ7 TJ7 0
theorem nmJ7 : ∀ a, a < 0 → ∀ b, b < 0 → a ≠ b → (TJ7 a).2.1 ≠ (TJ7 b).2.1 := by decide +kernel
theorem tyJ7_ok : ∀ k, k < 0 → parseFieldDescriptor (TJ7 k).2.2.1 = some (tyJ7 k) := by decide +kernel
abbrev cJ7_rangeCheck_23922 : ByteArray := prog_18_method_30_code
def yJ7_rangeCheck_23922 : MethodName := ⟨RJ7, "rangeCheck", "(III)V"⟩
abbrev cJ7_fill_53178 : ByteArray := prog_18_method_103_code
def yJ7_fill_53178 : MethodName := ⟨RJ7, "fill", "([II)V"⟩
abbrev cJ7_fill_fda19 : ByteArray := prog_18_method_104_code
def yJ7_fill_fda19 : MethodName := ⟨RJ7, "fill", "([IIII)V"⟩
def RL : String := "HairpinLocksLaw"
abbrev cL_law : ByteArray := code
def yL_law : MethodName := ⟨RL, "law", "([I)Z"⟩
end
section
/-! MY LAYER: one judgement Gx over the kit's W, one contract form Cn, a row an instruction -/
abbrev cls : List vw_C := [(RX0, TX0, 7), (RX1, TX1, 4), (RX2, TX2, 9), (RX3, TX3, 2), (RX4, TX4, 8), (RX6, TX6, 5), (RX7, TX7, 4), (RX8, TX8, 2), (RX9, TX9, 7), (RX10, TX10, 3), (RX11, TX11, 14), (RX12, TX12, 58)]
def lw_g : List Cond := lw_tbl.filter goodWord
theorem lg_in {w : Cond} (h : w ∈ lw_tbl) (h2 : goodWord w = true) : w ∈ lw_g := List.mem_filter.mpr ⟨h, h2⟩
theorem lg_good : GoodIn lw_g lw_g := fun w h => ⟨h, good_of_word (List.mem_filter.mp h).2⟩
theorem lg_goodC {w : Cond} (h : w ∈ lw_g) : GoodIn lw_g (w :: lw_g) := fun v hv => by
  rcases List.mem_cons.mp hv with rfl | h1
  · exact lg_good _ h
  · exact lg_good _ h1
def isNest : Cond → Bool
  | .methodLinkNest _ _ _ _ => true
  | _ => false
def nwl : List Cond := lw_tbl.filter isNest
theorem nw_moved {s U : State} (hW : s.WarmedH U.vm) (h : ∀ w ∈ nwl, va_Nw w s) : ∀ w ∈ nwl, va_Nw w U := by
  intro w hw
  have h1 := h w hw
  have h2 := (List.mem_filter.mp hw).2
  cases w <;> first | exact va_Nw.warmM hW h1 | (simp [isNest] at h2)
theorem nw_same {s U : State} (e : s.vm = U.vm) (h : ∀ w ∈ nwl, va_Nw w s) : ∀ w ∈ nwl, va_Nw w U := by
  intro w hw
  have h1 := h w hw
  have h2 := (List.mem_filter.mp hw).2
  cases w <;> first | exact va_Nw.same rfl e h1 | (simp [isNest] at h2)
def ltL : List Int32 := [119, 114, 100, 111, 117, 107, 110, 112, 99, 116]
def chL : List Int32 := [0, 0, 0, 0, 0, 0, 1, 7, 28, 84, 210, 462, 0, 0, 0, 0, 0, 1, 6, 21, 56, 126, 252, 462, 0, 0, 0, 0, 1, 5, 15, 35, 70, 126, 210, 330, 0, 0, 0, 1, 4, 10, 20, 35, 56, 84, 120, 165, 0, 0, 1, 3, 6, 10, 15, 21, 28, 36, 45, 55, 0, 1, 2, 3, 4, 5, 6, 7, 8, 9, 10, 11]
def ltF : Nat → Int32 := fun j => ltL.getD j 0
def chF : Nat → Int32 := fun j => chL.getD j 0
/-- the statics: two arrays that nothing writes, below B; and the nest's links -/
def SF (B : Nat) (U : State) (H : Heap) : Prop := (∃ t, va_Z RX2 "LETTERS" "[C" (.ref t) (fun q => B ≤ q) U H ∧ va_T .char t 10 (fun j => .int (ltF j)) (fun q => B ≤ q) U H) ∧ (∃ t, va_Z RX6 "CHOOSE" "[I" (.ref t) (fun q => B ≤ q) U H ∧ va_T .int t 72 (fun j => .int (chF j)) (fun q => B ≤ q) U H) ∧ ∀ w ∈ nwl, va_Nw w U
theorem SF.moved {B : Nat} {s U : State} {H : Heap} (hW : s.WarmedH U.vm) (h : SF B s H) : SF B U H := by
  obtain ⟨⟨t, z1, t1⟩, ⟨u, z2, t2⟩, n⟩ := h
  exact ⟨⟨t, z1.moved hW.alike, t1.moved hW.alike⟩, ⟨u, z2.moved hW.alike, t2.moved hW.alike⟩, nw_moved hW n⟩
theorem SF.same {B : Nat} {s U : State} {H : Heap} (e : s.vm = U.vm) (h : SF B s H) : SF B U H := by
  obtain ⟨⟨t, z1, t1⟩, ⟨u, z2, t2⟩, n⟩ := h
  have hv : s.vm.Alike U.vm := by rw [e]; exact Vm.Alike.refl _
  exact ⟨⟨t, z1.moved hv, t1.moved hv⟩, ⟨u, z2.moved hv, t2.moved hv⟩, nw_same e n⟩
theorem SF.kept {B : Nat} {s : State} {H H1 : Heap} {A : Nat → Prop} {locs : List Loc} (hA : ∀ q, A q → B ≤ q) (hS : va_S A H H1 locs) (h : SF B s H) : SF B s H1 := by
  obtain ⟨⟨t, z1, t1⟩, ⟨u, z2, t2⟩, n⟩ := h
  have hk : ∀ a : Nat, a < H.size → ¬ (B ≤ a) → H1[a]? = H[a]? := fun a h1 h2 => hS.2.1 a h1 (fun z => h2 (hA a z))
  exact ⟨⟨t, z1.kept hk, t1.kept hk⟩, ⟨u, z2.kept hk, t2.kept hk⟩, n⟩
abbrev GE : Type := va_G × ClassId × ClassId × Nat
abbrev gty (E : GE) : List (ClassId × FieldType) := [(E.2.1, .int), (E.2.2.1, .byte)]
abbrev GC : Type := Program × Launch × Env × Room × State × MethodId × Array Value × List Frame × Method × Code × (Nat → Prop) × Nat × (State → Prop)
def Pw (E : GE) (wc : va_W) (sz : Nat) (U : State) : Prop := U.heap.size = sz ∧ va_P E.1 cls wc U.heap ∧ va_K E.1 cls (gty E) U ∧ va_D (fun q => E.2.2.2 ≤ q) wc ∧ E.2.2.2 ≤ sz ∧ SF E.2.2.2 U U.heap
def Qw (E : GE) (B : va_W → Prop) (wc : va_W) (sz : Nat) (rv : Option Value) : Array Value → State → Outcome → State → Prop := fun _ st oc t => (∃ w', oc = .returned rv ∧ B w' ∧ va_P E.1 cls w' t.heap ∧ va_D (va_A wc sz) w') ∧ va_F (va_A wc sz) st t
def rmk (rk mc ms : Nat) : Room := { frames := rk + 1, cells := mc, slots := ms, locals := 64 * (rk + 1) }
def Cn (l : Launch) (E : GE) (y : MethodName) (bytes : ByteArray) (maxL : Nat) (ret : Option FieldType) (rk mc ms : Nat) (av : List Value) (wc : va_W) (B : va_W → Prop) (rv : Option Value) : Prop := ∀ sz, Met l y (.code y bytes maxL ret :: lw_g) (rmk rk mc ms) (va_Pc av (Pw E wc sz)) (Qw E B wc sz rv) mc ms (va_A wc sz)
def Cx (X : GC) (E : GE) (cc : ByteArray) (own : String) (rk : Nat) : Prop := match X with
  | (p, _, _, R, s, m, args, _, meth, c, A, nL, _) => p.tables.exec = Jvm.exec ∧ c.code = cc ∧ c.maxLocals = nL ∧ s.vm.findClass own = some m.cls ∧ (∀ w ∈ lw_g, w.before args s = true) ∧ va_K E.1 cls (gty E) s ∧ (∀ q, s.heap.size ≤ q → A q) ∧ (∀ q, A q → E.2.2.2 ≤ q) ∧ SF E.2.2.2 s s.heap ∧ (rk + 1 ≤ R.frames ∧ 64 * (rk + 1) ≤ R.locals) ∧ E.2.2.2 ≤ s.heap.size ∧ meth.locks = false
def Gx (X : GC) (E : GE) (kc ks : Nat) (ws : va_W) (pc : Nat) (lv : List (Nat × Value)) (st : List Value) : Prop := match X with
  | (p, l, e, R, s, m, args, below, meth, c, A, nL, Q) => ∀ (H : Heap) (locs : List Loc) (ls : Array Slot), va_P E.1 cls ws H → va_D A ws → va_S A s.heap H locs → lv_has ls nL lv → W p l e R s m args below meth c H locs kc ks Q (F0 m pc ls st)
/-- the end: what the walk must come to -/
def RtI (X : GC) (E : GE) (cc : ByteArray) (ty : FieldType) (mc ms : Nat) (B : va_W → Prop) (v : Int32) : Prop := ∀ (pc : Nat) (lv : List (Nat × Value)) (w : va_W), decode cc pc = .ok (.ireturn, 1) → narrow ty (.int v) = .int v → B w → Gx X E mc ms w pc lv [.int v]
def RtV (X : GC) (E : GE) (cc : ByteArray) (mc ms : Nat) (B : va_W → Prop) : Prop := ∀ (pc : Nat) (lv : List (Nat × Value)) (w : va_W), decode cc pc = .ok (.return_, 1) → B w → Gx X E mc ms w pc lv []
theorem Cn.ofI {l : Launch} {E : GE} {y : MethodName} {bytes : ByteArray} {maxL : Nat} {ty : FieldType} {rk mc ms : Nat} {av : List Value} {wc : va_W} {B : va_W → Prop} {v : Int32} (hy : plainName y.cls = true) (hn : (lg_sl av).length ≤ maxL)
    (h : ∀ X : GC, X.2.1 = l → X.2.2.2.1 = rmk rk mc ms → Cx X E bytes y.cls rk → RtI X E bytes ty mc ms B v → Gx X E 0 0 wc 0 (lv_args 0 av) []) : Cn l E y bytes maxL (some ty) rk mc ms av wc B (some (.int v)) := by
  intro sz
  refine Met.ofW (cc := bytes) (maxL := maxL) (ret := some ty) hy rfl ?_
  intro p e s m args below meth c s₁ Bo hml hv
  obtain ⟨rfl, rfl, hP, hK, hD0, hB0, hSF⟩ := hv
  have hts := atoms_spec (ws := .code y bytes maxL (some ty) :: lw_g) Bo.pre
  have hown : s.vm.findClass y.cls = some m.cls := findClass_of_methodNamed Bo.named
  have hlocks := Bo.notSynchronized
  have hl := lv_entry av (n := maxL) hn
  rw [lg_entry_eq]
  refine h (p, l, e, rmk rk mc ms, s, m, av.toArray, below, meth, c, va_A wc s.heap.size, maxL, MQ below (Qw E B wc s.heap.size (some (.int v))) av.toArray s mc ms (va_A wc s.heap.size)) rfl rfl ?_ ?_ s.heap [] _ hP (hD0.self) va_S.rf hl
  · refine ⟨Bo.exec, Bo.bytes, hml, hown, fun w hw => hts w (List.mem_cons_of_mem _ hw), hK, fun q hq => Or.inr hq, ?_, hSF, ⟨Nat.le_refl _, Nat.le_refl _⟩, hB0, hlocks⟩
    intro q hq
    rcases hq with ⟨k, e, hk⟩ | hq
    · exact hD0.2 k _ hk
    · exact Nat.le_trans hB0 hq
  · intro pc lv w hd hn hBw H locs ls hP hD hS hl
    exact W.zret Bo.exec Bo.bytes Bo.returns hn (fun t ht hW => ⟨⟨w, rfl, hBw, by rw [ht]; exact hP, hD⟩, hS.F ht⟩) hS.2.2 hd
theorem Cn.ofV {l : Launch} {E : GE} {y : MethodName} {bytes : ByteArray} {maxL : Nat} {rk mc ms : Nat} {av : List Value} {wc : va_W} {B : va_W → Prop} (hy : plainName y.cls = true) (hn : (lg_sl av).length ≤ maxL)
    (h : ∀ X : GC, X.2.1 = l → X.2.2.2.1 = rmk rk mc ms → Cx X E bytes y.cls rk → RtV X E bytes mc ms B → Gx X E 0 0 wc 0 (lv_args 0 av) []) : Cn l E y bytes maxL none rk mc ms av wc B none := by
  intro sz
  refine Met.ofW (cc := bytes) (maxL := maxL) (ret := none) hy rfl ?_
  intro p e s m args below meth c s₁ Bo hml hv
  obtain ⟨rfl, rfl, hP, hK, hD0, hB0, hSF⟩ := hv
  have hts := atoms_spec (ws := .code y bytes maxL none :: lw_g) Bo.pre
  have hown : s.vm.findClass y.cls = some m.cls := findClass_of_methodNamed Bo.named
  have hlocks := Bo.notSynchronized
  have hl := lv_entry av (n := maxL) hn
  rw [lg_entry_eq]
  refine h (p, l, e, rmk rk mc ms, s, m, av.toArray, below, meth, c, va_A wc s.heap.size, maxL, MQ below (Qw E B wc s.heap.size none) av.toArray s mc ms (va_A wc s.heap.size)) rfl rfl ?_ ?_ s.heap [] _ hP (hD0.self) va_S.rf hl
  · refine ⟨Bo.exec, Bo.bytes, hml, hown, fun w hw => hts w (List.mem_cons_of_mem _ hw), hK, fun q hq => Or.inr hq, ?_, hSF, ⟨Nat.le_refl _, Nat.le_refl _⟩, hB0, hlocks⟩
    intro q hq
    rcases hq with ⟨k, e, hk⟩ | hq
    · exact hD0.2 k _ hk
    · exact Nat.le_trans hB0 hq
  · intro pc lv w hd hBw H locs ls hP hD hS hl
    exact W.vret Bo.exec Bo.bytes Bo.returns (fun t ht hW => ⟨⟨w, rfl, hBw, by rw [ht]; exact hP, hD⟩, hS.F ht⟩) hS.2.2 hd
theorem Pw.blind {E : GE} {wc : va_W} {sz : Nat} {av : List Value} : FrameBlind (va_Pc av (Pw E wc sz)) := by
  intro a U g mk h
  obtain ⟨h0, h1, h2, h3, h4, h5, h6⟩ := h
  exact ⟨h0, h1, h2, va_K.moved (u := U) (U := U.calling g mk a) (Vm.Alike.refl U.vm) h3, h4, h5, SF.same (s := U) (U := U.calling g mk a) (H := U.heap) rfl h6⟩
end
section
section GR
variable {X : GC} {E : GE} {cc : ByteArray} {own : String} {rk kc ks : Nat} {ws : va_W} {pc : Nat} {lv : List (Nat × Value)} {st : List Value} {α : Type} {r : α}
def nm {α β : Type} (x : α) (f : α → β) : β := f x
def rd {β : Type} (f : Nat → Int32) (n : Nat) (i : Int32) (k : Int32 → Option β) : Option β := if 0 ≤ i.toInt ∧ i.toInt < n then k (f i.toNatClampNeg) else none
def wr {β : Type} (f : Nat → Int32) (n : Nat) (i x : Int32) (k : (Nat → Int32) → Option β) : Option β := if 0 ≤ i.toInt ∧ i.toInt < n then k (upd f i.toNatClampNeg x) else none
def dv {β : Type} (a b : Int32) (k : Int32 → Option β) : Option β := if b = 0 then none else k (a / b)
def rm {β : Type} (a b : Int32) (k : Int32 → Option β) : Option β := if b = 0 then none else k (a - a / b * b)
def gb {β : Type} (v : Int32) (k : Option β) : Option β := if v = 0 ∨ v = 1 then k else none
theorem gb_is {β : Type} {v : Int32} {k : Option β} {r : β} (h : gb v k = some r) : narrow .boolean (.int v) = .int v ∧ k = some r := by
  unfold gb at h
  split at h
  · rename_i hv
    refine ⟨?_, h⟩
    rcases hv with rfl | rfl <;> decide
  · cases h
theorem ite_some {α : Type} {c : Prop} [Decidable c] {P : Option α} {r : α} (h : (if c then P else none) = some r) : c ∧ P = some r := by
  split at h
  · exact ⟨‹_›, h⟩
  · cases h
theorem ite_someN {α : Type} {c : Prop} [Decidable c] {P : Option α} {r : α} (h : (if c then none else P) = some r) : ¬ c ∧ P = some r := by
  split at h
  · cases h
  · exact ⟨‹_›, h⟩
theorem rd_is {β : Type} {f : Nat → Int32} {n : Nat} {i : Int32} {k : Int32 → Option β} {r : β} (h : rd f n i k = some r) : vp_in i n ∧ k (f i.toNatClampNeg) = some r := ⟨vp_in_iff.mpr (ite_some h).1, (ite_some h).2⟩
theorem wr_is {β : Type} {f : Nat → Int32} {n : Nat} {i x : Int32} {k : (Nat → Int32) → Option β} {r : β} (h : wr f n i x k = some r) : vp_in i n ∧ k (upd f i.toNatClampNeg x) = some r := ⟨vp_in_iff.mpr (ite_some h).1, (ite_some h).2⟩
theorem g_nm {x : Int32} {F : Int32 → Option α} (h : nm x F = some r) (k : ∀ v, F v = some r → Gx X E kc ks ws pc lv (.int v :: st)) : Gx X E kc ks ws pc lv (.int x :: st) := k x h
theorem g_sub {lv' : List (Nat × Value)} (is : List Nat) (hl : lv_pick lv is = lv') (k : Gx X E kc ks ws pc lv' st) : Gx X E kc ks ws pc lv st := by
  obtain ⟨p, l, e, R, s, m, args, below, meth, c, A, nL, Q⟩ := X
  intro H locs ls hP hD hS h
  exact k H locs ls hP hD hS (lv_sub h is hl)
theorem g_iconst (C : Cx X E cc own rk) {n : Int} {v : Int32} (hd : decode cc pc = .ok (.iconst n, 1)) (hv : Int32.ofInt n = v) (k : Gx X E kc ks ws (pc + 1) lv (.int v :: st)) : Gx X E kc ks ws pc lv (st) := by
  obtain ⟨p, l, e, R, s, m, args, below, meth, c, A, nL, Q⟩ := X
  obtain ⟨hx, hb, hml, hown, hts, hK, hA, hAB, hSF, hR, hB0, hlk⟩ := C
  intro H locs ls hP hD hS hl
  exact lv_iconst hx hb hd hv (k H locs ls hP hD hS hl)
theorem g_bipush (C : Cx X E cc own rk) {n : Int} {v : Int32} (hd : decode cc pc = .ok (.bipush n, 2)) (hv : (Int8.ofInt n).toInt32 = v) (k : Gx X E kc ks ws (pc + 2) lv (.int v :: st)) : Gx X E kc ks ws pc lv (st) := by
  obtain ⟨p, l, e, R, s, m, args, below, meth, c, A, nL, Q⟩ := X
  obtain ⟨hx, hb, hml, hown, hts, hK, hA, hAB, hSF, hR, hB0, hlk⟩ := C
  intro H locs ls hP hD hS hl
  exact lv_bipush hx hb hd hv (k H locs ls hP hD hS hl)
theorem g_sipush (C : Cx X E cc own rk) {n : Int} {v : Int32} (hd : decode cc pc = .ok (.sipush n, 3)) (hv : (Int16.ofInt n).toInt32 = v) (k : Gx X E kc ks ws (pc + 3) lv (.int v :: st)) : Gx X E kc ks ws pc lv (st) := by
  obtain ⟨p, l, e, R, s, m, args, below, meth, c, A, nL, Q⟩ := X
  obtain ⟨hx, hb, hml, hown, hts, hK, hA, hAB, hSF, hR, hB0, hlk⟩ := C
  intro H locs ls hP hD hS hl
  exact lv_sipush hx hb hd hv (k H locs ls hP hD hS hl)
theorem g_ldc (C : Cx X E cc own rk) {i : Nat} {v : Int32} (hd : decode cc pc = .ok (.ldc i, 2)) (hw : Cond.constant own i v ∈ lw_g) (k : Gx X E kc ks ws (pc + 2) lv (.int v :: st)) : Gx X E kc ks ws pc lv (st) := by
  obtain ⟨p, l, e, R, s, m, args, below, meth, c, A, nL, Q⟩ := X
  obtain ⟨hx, hb, hml, hown, hts, hK, hA, hAB, hSF, hR, hB0, hlk⟩ := C
  intro H locs ls hP hD hS hl
  exact lv_ldc hx hb hown (hts _ hw) hd (k H locs ls hP hD hS hl)
theorem g_ldcw (C : Cx X E cc own rk) {i : Nat} {v : Int32} (hd : decode cc pc = .ok (.ldc_w i, 3)) (hw : Cond.constant own i v ∈ lw_g) (k : Gx X E kc ks ws (pc + 3) lv (.int v :: st)) : Gx X E kc ks ws pc lv (st) := by
  obtain ⟨p, l, e, R, s, m, args, below, meth, c, A, nL, Q⟩ := X
  obtain ⟨hx, hb, hml, hown, hts, hK, hA, hAB, hSF, hR, hB0, hlk⟩ := C
  intro H locs ls hP hD hS hl
  exact lv_ldcw hx hb hown (hts _ hw) hd (k H locs ls hP hD hS hl)
theorem g_iload_n (C : Cx X E cc own rk) {n : Fin 4} {i : Nat} {x : Int32} (hd : decode cc pc = .ok (.iload_n n, 1)) (hi : (n : Nat) = i) (j : Nat) (hj : lv[j]? = some (i, .int x)) (k : Gx X E kc ks ws (pc + 1) lv (.int x :: st)) : Gx X E kc ks ws pc lv (st) := by
  obtain ⟨p, l, e, R, s, m, args, below, meth, c, A, nL, Q⟩ := X
  obtain ⟨hx, hb, hml, hown, hts, hK, hA, hAB, hSF, hR, hB0, hlk⟩ := C
  intro H locs ls hP hD hS hl
  exact lv_iload_n hx hb hd hi (lv_at hl j hj) (k H locs ls hP hD hS hl)
theorem g_iload (C : Cx X E cc own rk) {i : Nat} {x : Int32} (hd : decode cc pc = .ok (.iload i, 2)) (j : Nat) (hj : lv[j]? = some (i, .int x)) (k : Gx X E kc ks ws (pc + 2) lv (.int x :: st)) : Gx X E kc ks ws pc lv (st) := by
  obtain ⟨p, l, e, R, s, m, args, below, meth, c, A, nL, Q⟩ := X
  obtain ⟨hx, hb, hml, hown, hts, hK, hA, hAB, hSF, hR, hB0, hlk⟩ := C
  intro H locs ls hP hD hS hl
  exact lv_iload hx hb hd (lv_at hl j hj) (k H locs ls hP hD hS hl)
theorem g_aload_n (C : Cx X E cc own rk) {n : Fin 4} {i : Nat} {x : Nat} (hd : decode cc pc = .ok (.aload_n n, 1)) (hi : (n : Nat) = i) (j : Nat) (hj : lv[j]? = some (i, .ref x)) (k : Gx X E kc ks ws (pc + 1) lv (.ref x :: st)) : Gx X E kc ks ws pc lv (st) := by
  obtain ⟨p, l, e, R, s, m, args, below, meth, c, A, nL, Q⟩ := X
  obtain ⟨hx, hb, hml, hown, hts, hK, hA, hAB, hSF, hR, hB0, hlk⟩ := C
  intro H locs ls hP hD hS hl
  exact lv_aload_n hx hb hd hi (lv_at hl j hj) (k H locs ls hP hD hS hl)
theorem g_aload (C : Cx X E cc own rk) {i : Nat} {x : Nat} (hd : decode cc pc = .ok (.aload i, 2)) (j : Nat) (hj : lv[j]? = some (i, .ref x)) (k : Gx X E kc ks ws (pc + 2) lv (.ref x :: st)) : Gx X E kc ks ws pc lv (st) := by
  obtain ⟨p, l, e, R, s, m, args, below, meth, c, A, nL, Q⟩ := X
  obtain ⟨hx, hb, hml, hown, hts, hK, hA, hAB, hSF, hR, hB0, hlk⟩ := C
  intro H locs ls hP hD hS hl
  exact lv_aload hx hb hd (lv_at hl j hj) (k H locs ls hP hD hS hl)
theorem g_istore_n (C : Cx X E cc own rk) {n : Fin 4} {i : Nat} {x : Int32} {lv' : List (Nat × Value)} (hd : decode cc pc = .ok (.istore_n n, 1)) (hi : (n : Nat) = i) (hn : i < X.2.2.2.2.2.2.2.2.2.2.2.1) (hl' : (i, Value.int x) :: lv.filter (fun q => !(q.1 == i) && !(q.1 + 1 == i && q.2.category == 2)) = lv') (k : Gx X E kc ks ws (pc + 1) lv' st) : Gx X E kc ks ws pc lv (Value.int x :: st) := by
  obtain ⟨p, l, e, R, s, m, args, below, meth, c, A, nL, Q⟩ := X
  obtain ⟨hx, hb, hml, hown, hts, hK, hA, hAB, hSF, hR, hB0, hlk⟩ := C
  intro H locs ls hP hD hS hl
  exact lv_istore_n hx hb hd hi hl hn hl' (fun ls hl => (k H locs ls hP hD hS hl))
theorem g_istore (C : Cx X E cc own rk) {i : Nat} {x : Int32} {lv' : List (Nat × Value)} (hd : decode cc pc = .ok (.istore i, 2))  (hn : i < X.2.2.2.2.2.2.2.2.2.2.2.1) (hl' : (i, Value.int x) :: lv.filter (fun q => !(q.1 == i) && !(q.1 + 1 == i && q.2.category == 2)) = lv') (k : Gx X E kc ks ws (pc + 2) lv' st) : Gx X E kc ks ws pc lv (Value.int x :: st) := by
  obtain ⟨p, l, e, R, s, m, args, below, meth, c, A, nL, Q⟩ := X
  obtain ⟨hx, hb, hml, hown, hts, hK, hA, hAB, hSF, hR, hB0, hlk⟩ := C
  intro H locs ls hP hD hS hl
  exact lv_istore hx hb hd hl hn hl' (fun ls hl => (k H locs ls hP hD hS hl))
theorem g_astore_n (C : Cx X E cc own rk) {n : Fin 4} {i : Nat} {x : Nat} {lv' : List (Nat × Value)} (hd : decode cc pc = .ok (.astore_n n, 1)) (hi : (n : Nat) = i) (hn : i < X.2.2.2.2.2.2.2.2.2.2.2.1) (hl' : (i, Value.ref x) :: lv.filter (fun q => !(q.1 == i) && !(q.1 + 1 == i && q.2.category == 2)) = lv') (k : Gx X E kc ks ws (pc + 1) lv' st) : Gx X E kc ks ws pc lv (Value.ref x :: st) := by
  obtain ⟨p, l, e, R, s, m, args, below, meth, c, A, nL, Q⟩ := X
  obtain ⟨hx, hb, hml, hown, hts, hK, hA, hAB, hSF, hR, hB0, hlk⟩ := C
  intro H locs ls hP hD hS hl
  exact lv_astore_n hx hb hd hi hl hn hl' (fun ls hl => (k H locs ls hP hD hS hl))
theorem g_iinc (C : Cx X E cc own rk) {i j : Nat} {n : Int} {x v : Int32} {lv' : List (Nat × Value)} (hd : decode cc pc = .ok (.iinc i n, 3)) (hj : lv[j]? = some (i, .int x)) (hv : x + Int32.ofInt n = v) (hn : i < X.2.2.2.2.2.2.2.2.2.2.2.1) (hl' : (i, Value.int v) :: lv.filter (fun q => !(q.1 == i) && !(q.1 + 1 == i && q.2.category == 2)) = lv') (k : Gx X E kc ks ws (pc + 3) lv' st) : Gx X E kc ks ws pc lv st := by
  obtain ⟨p, l, e, R, s, m, args, below, meth, c, A, nL, Q⟩ := X
  obtain ⟨hx, hb, hml, hown, hts, hK, hA, hAB, hSF, hR, hB0, hlk⟩ := C
  intro H locs ls hP hD hS hl
  exact lv_iinc hx hb hd hl hj hv hn hl' (fun ls hl => (k H locs ls hP hD hS hl))
theorem g_iadd (C : Cx X E cc own rk) {x y : Int32} (hd : decode cc pc = .ok (.iadd, 1))  (k : Gx X E kc ks ws (pc + 1) lv (.int (x + y) :: st)) : Gx X E kc ks ws pc lv (.int y :: .int x :: st) := by
  obtain ⟨p, l, e, R, s, m, args, below, meth, c, A, nL, Q⟩ := X
  obtain ⟨hx, hb, hml, hown, hts, hK, hA, hAB, hSF, hR, hB0, hlk⟩ := C
  intro H locs ls hP hD hS hl
  exact lv_iadd hx hb hd (k H locs ls hP hD hS hl)
theorem g_isub (C : Cx X E cc own rk) {x y : Int32} (hd : decode cc pc = .ok (.isub, 1))  (k : Gx X E kc ks ws (pc + 1) lv (.int (x - y) :: st)) : Gx X E kc ks ws pc lv (.int y :: .int x :: st) := by
  obtain ⟨p, l, e, R, s, m, args, below, meth, c, A, nL, Q⟩ := X
  obtain ⟨hx, hb, hml, hown, hts, hK, hA, hAB, hSF, hR, hB0, hlk⟩ := C
  intro H locs ls hP hD hS hl
  exact lv_isub hx hb hd (k H locs ls hP hD hS hl)
theorem g_imul (C : Cx X E cc own rk) {x y : Int32} (hd : decode cc pc = .ok (.imul, 1))  (k : Gx X E kc ks ws (pc + 1) lv (.int (x * y) :: st)) : Gx X E kc ks ws pc lv (.int y :: .int x :: st) := by
  obtain ⟨p, l, e, R, s, m, args, below, meth, c, A, nL, Q⟩ := X
  obtain ⟨hx, hb, hml, hown, hts, hK, hA, hAB, hSF, hR, hB0, hlk⟩ := C
  intro H locs ls hP hD hS hl
  exact lv_imul hx hb hd (k H locs ls hP hD hS hl)
theorem g_iand (C : Cx X E cc own rk) {x y : Int32} (hd : decode cc pc = .ok (.iand, 1))  (k : Gx X E kc ks ws (pc + 1) lv (.int (x &&& y) :: st)) : Gx X E kc ks ws pc lv (.int y :: .int x :: st) := by
  obtain ⟨p, l, e, R, s, m, args, below, meth, c, A, nL, Q⟩ := X
  obtain ⟨hx, hb, hml, hown, hts, hK, hA, hAB, hSF, hR, hB0, hlk⟩ := C
  intro H locs ls hP hD hS hl
  exact lv_iand hx hb hd (k H locs ls hP hD hS hl)
theorem g_ior (C : Cx X E cc own rk) {x y : Int32} (hd : decode cc pc = .ok (.ior, 1))  (k : Gx X E kc ks ws (pc + 1) lv (.int (x ||| y) :: st)) : Gx X E kc ks ws pc lv (.int y :: .int x :: st) := by
  obtain ⟨p, l, e, R, s, m, args, below, meth, c, A, nL, Q⟩ := X
  obtain ⟨hx, hb, hml, hown, hts, hK, hA, hAB, hSF, hR, hB0, hlk⟩ := C
  intro H locs ls hP hD hS hl
  exact lv_ior hx hb hd (k H locs ls hP hD hS hl)
theorem g_ixor (C : Cx X E cc own rk) {x y : Int32} (hd : decode cc pc = .ok (.ixor, 1))  (k : Gx X E kc ks ws (pc + 1) lv (.int (x ^^^ y) :: st)) : Gx X E kc ks ws pc lv (.int y :: .int x :: st) := by
  obtain ⟨p, l, e, R, s, m, args, below, meth, c, A, nL, Q⟩ := X
  obtain ⟨hx, hb, hml, hown, hts, hK, hA, hAB, hSF, hR, hB0, hlk⟩ := C
  intro H locs ls hP hD hS hl
  exact lv_ixor hx hb hd (k H locs ls hP hD hS hl)
theorem g_ishl (C : Cx X E cc own rk) {x y : Int32} (hd : decode cc pc = .ok (.ishl, 1))  (k : Gx X E kc ks ws (pc + 1) lv (.int (x <<< (y &&& 31)) :: st)) : Gx X E kc ks ws pc lv (.int y :: .int x :: st) := by
  obtain ⟨p, l, e, R, s, m, args, below, meth, c, A, nL, Q⟩ := X
  obtain ⟨hx, hb, hml, hown, hts, hK, hA, hAB, hSF, hR, hB0, hlk⟩ := C
  intro H locs ls hP hD hS hl
  exact lv_ishl hx hb hd (k H locs ls hP hD hS hl)
theorem g_ishr (C : Cx X E cc own rk) {x y : Int32} (hd : decode cc pc = .ok (.ishr, 1))  (k : Gx X E kc ks ws (pc + 1) lv (.int (x >>> (y &&& 31)) :: st)) : Gx X E kc ks ws pc lv (.int y :: .int x :: st) := by
  obtain ⟨p, l, e, R, s, m, args, below, meth, c, A, nL, Q⟩ := X
  obtain ⟨hx, hb, hml, hown, hts, hK, hA, hAB, hSF, hR, hB0, hlk⟩ := C
  intro H locs ls hP hD hS hl
  exact lv_ishr hx hb hd (k H locs ls hP hD hS hl)
theorem g_iushr (C : Cx X E cc own rk) {x y : Int32} (hd : decode cc pc = .ok (.iushr, 1))  (k : Gx X E kc ks ws (pc + 1) lv (.int ((x.toUInt32 >>> (y.toUInt32 &&& Int32.toUInt32 31)).toInt32) :: st)) : Gx X E kc ks ws pc lv (.int y :: .int x :: st) := by
  obtain ⟨p, l, e, R, s, m, args, below, meth, c, A, nL, Q⟩ := X
  obtain ⟨hx, hb, hml, hown, hts, hK, hA, hAB, hSF, hR, hB0, hlk⟩ := C
  intro H locs ls hP hD hS hl
  exact lv_iushr hx hb hd rfl (k H locs ls hP hD hS hl)
theorem g_ineg (C : Cx X E cc own rk) {x : Int32} (hd : decode cc pc = .ok (.ineg, 1))  (k : Gx X E kc ks ws (pc + 1) lv (.int (-x) :: st)) : Gx X E kc ks ws pc lv (.int x :: st) := by
  obtain ⟨p, l, e, R, s, m, args, below, meth, c, A, nL, Q⟩ := X
  obtain ⟨hx, hb, hml, hown, hts, hK, hA, hAB, hSF, hR, hB0, hlk⟩ := C
  intro H locs ls hP hD hS hl
  exact lv_ineg hx hb hd (k H locs ls hP hD hS hl)
theorem g_i2b (C : Cx X E cc own rk) {x : Int32} (hd : decode cc pc = .ok (.i2b, 1))  (k : Gx X E kc ks ws (pc + 1) lv (.int (x.toInt8.toInt32) :: st)) : Gx X E kc ks ws pc lv (.int x :: st) := by
  obtain ⟨p, l, e, R, s, m, args, below, meth, c, A, nL, Q⟩ := X
  obtain ⟨hx, hb, hml, hown, hts, hK, hA, hAB, hSF, hR, hB0, hlk⟩ := C
  intro H locs ls hP hD hS hl
  exact lv_i2b hx hb hd rfl (k H locs ls hP hD hS hl)
theorem g_idiv (C : Cx X E cc own rk) {x y : Int32} {F : Int32 → Option α} (hd : decode cc pc = .ok (.idiv, 1)) (h : dv x y F = some r) (k : ∀ v, F v = some r → Gx X E kc ks ws (pc + 1) lv (.int v :: st)) : Gx X E kc ks ws pc lv (.int y :: .int x :: st) := by
  obtain ⟨p, l, e, R, s, m, args, below, meth, c, A, nL, Q⟩ := X
  obtain ⟨hx, hb, hml, hown, hts, hK, hA, hAB, hSF, hR, hB0, hlk⟩ := C
  intro H locs ls hP hD hS hl
  exact lv_idiv hx hb hd (ite_someN h).1 (k _ (ite_someN h).2 H locs ls hP hD hS hl)
theorem g_irem (C : Cx X E cc own rk) {x y : Int32} {F : Int32 → Option α} (hd : decode cc pc = .ok (.irem, 1)) (h : rm x y F = some r) (k : ∀ v, F v = some r → Gx X E kc ks ws (pc + 1) lv (.int v :: st)) : Gx X E kc ks ws pc lv (.int y :: .int x :: st) := by
  obtain ⟨p, l, e, R, s, m, args, below, meth, c, A, nL, Q⟩ := X
  obtain ⟨hx, hb, hml, hown, hts, hK, hA, hAB, hSF, hR, hB0, hlk⟩ := C
  intro H locs ls hP hD hS hl
  exact lv_irem hx hb hd (ite_someN h).1 (k _ (ite_someN h).2 H locs ls hP hD hS hl)
theorem g_dup (C : Cx X E cc own rk) {v : Value} (hd : decode cc pc = .ok (.dup, 1)) (hv : v.category = 1) (k : Gx X E kc ks ws (pc + 1) lv (v :: v :: st)) : Gx X E kc ks ws pc lv (v :: st) := by
  obtain ⟨p, l, e, R, s, m, args, below, meth, c, A, nL, Q⟩ := X
  obtain ⟨hx, hb, hml, hown, hts, hK, hA, hAB, hSF, hR, hB0, hlk⟩ := C
  intro H locs ls hP hD hS hl
  exact lv_dup hx hb hd hv (k H locs ls hP hD hS hl)
theorem g_pop (C : Cx X E cc own rk) {v : Value} (hd : decode cc pc = .ok (.pop, 1)) (hv : v.category = 1) (k : Gx X E kc ks ws (pc + 1) lv (st)) : Gx X E kc ks ws pc lv (v :: st) := by
  obtain ⟨p, l, e, R, s, m, args, below, meth, c, A, nL, Q⟩ := X
  obtain ⟨hx, hb, hml, hown, hts, hK, hA, hAB, hSF, hR, hB0, hlk⟩ := C
  intro H locs ls hP hD hS hl
  exact lv_pop hx hb hd hv (k H locs ls hP hD hS hl)
theorem g_dup2 (C : Cx X E cc own rk) {va vb : Value} (hd : decode cc pc = .ok (.dup2, 1)) (hv : va.category = 1) (hv2 : vb.category = 1) (k : Gx X E kc ks ws (pc + 1) lv (va :: vb :: va :: vb :: st)) : Gx X E kc ks ws pc lv (va :: vb :: st) := by
  obtain ⟨p, l, e, R, s, m, args, below, meth, c, A, nL, Q⟩ := X
  obtain ⟨hx, hb, hml, hown, hts, hK, hA, hAB, hSF, hR, hB0, hlk⟩ := C
  intro H locs ls hP hD hS hl
  exact lv_dup2_11 hx hb hd hv hv2 (k H locs ls hP hD hS hl)
theorem g_goto (C : Cx X E cc own rk) {off : Int} {tgt : Nat} (hd : decode cc pc = .ok (.goto off, 3)) (ht : (pc : Int) + off = (tgt : Int)) (k : Gx X E kc ks ws tgt lv st) : Gx X E kc ks ws pc lv st := by
  obtain ⟨p, l, e, R, s, m, args, below, meth, c, A, nL, Q⟩ := X
  obtain ⟨hx, hb, hml, hown, hts, hK, hA, hAB, hSF, hR, hB0, hlk⟩ := C
  intro H locs ls hP hD hS hl
  exact lv_goto hx hb hd ht (k H locs ls hP hD hS hl)
theorem g_icmp_eq (C : Cx X E cc own rk) {x y : Int32} {off : Int} {tgt : Nat} {P Q : Option α} (hd : decode cc pc = .ok (.if_icmp .eq off, 3)) (ht : (pc : Int) + off = (tgt : Int)) (h : (if x = y then P else Q) = some r) (kt : P = some r → Gx X E kc ks ws tgt lv st) (kf : Q = some r → Gx X E kc ks ws (pc + 3) lv st) : Gx X E kc ks ws pc lv (.int y :: .int x :: st) := by
  obtain ⟨p, l, e, R, s, m, args, below, meth, c, A, nL, Q⟩ := X
  obtain ⟨hx, hb, hml, hown, hts, hK, hA, hAB, hSF, hR, hB0, hlk⟩ := C
  intro H locs ls hP hD hS hl
  exact lv_icmp_eq hx hb hd ht (fun c => kt ((if_pos c).symm.trans h) H locs ls hP hD hS hl) (fun c => kf ((if_neg c).symm.trans h) H locs ls hP hD hS hl)
theorem g_icmp_ne (C : Cx X E cc own rk) {x y : Int32} {off : Int} {tgt : Nat} {P Q : Option α} (hd : decode cc pc = .ok (.if_icmp .ne off, 3)) (ht : (pc : Int) + off = (tgt : Int)) (h : (if x = y then P else Q) = some r) (kt : Q = some r → Gx X E kc ks ws tgt lv st) (kf : P = some r → Gx X E kc ks ws (pc + 3) lv st) : Gx X E kc ks ws pc lv (.int y :: .int x :: st) := by
  obtain ⟨p, l, e, R, s, m, args, below, meth, c, A, nL, Q⟩ := X
  obtain ⟨hx, hb, hml, hown, hts, hK, hA, hAB, hSF, hR, hB0, hlk⟩ := C
  intro H locs ls hP hD hS hl
  exact lv_icmp_ne hx hb hd ht (fun c => kt ((if_neg c).symm.trans h) H locs ls hP hD hS hl) (fun c => kf ((if_pos c).symm.trans h) H locs ls hP hD hS hl)
theorem g_icmp_lt (C : Cx X E cc own rk) {x y : Int32} {off : Int} {tgt : Nat} {P Q : Option α} (hd : decode cc pc = .ok (.if_icmp .lt off, 3)) (ht : (pc : Int) + off = (tgt : Int)) (h : (if x < y then P else Q) = some r) (kt : P = some r → Gx X E kc ks ws tgt lv st) (kf : Q = some r → Gx X E kc ks ws (pc + 3) lv st) : Gx X E kc ks ws pc lv (.int y :: .int x :: st) := by
  obtain ⟨p, l, e, R, s, m, args, below, meth, c, A, nL, Q⟩ := X
  obtain ⟨hx, hb, hml, hown, hts, hK, hA, hAB, hSF, hR, hB0, hlk⟩ := C
  intro H locs ls hP hD hS hl
  exact lv_icmp_lt hx hb hd ht (fun c => kt ((if_pos c).symm.trans h) H locs ls hP hD hS hl) (fun c => kf ((if_neg c).symm.trans h) H locs ls hP hD hS hl)
theorem g_icmp_ge (C : Cx X E cc own rk) {x y : Int32} {off : Int} {tgt : Nat} {P Q : Option α} (hd : decode cc pc = .ok (.if_icmp .ge off, 3)) (ht : (pc : Int) + off = (tgt : Int)) (h : (if y ≤ x then P else Q) = some r) (kt : P = some r → Gx X E kc ks ws tgt lv st) (kf : Q = some r → Gx X E kc ks ws (pc + 3) lv st) : Gx X E kc ks ws pc lv (.int y :: .int x :: st) := by
  obtain ⟨p, l, e, R, s, m, args, below, meth, c, A, nL, Q⟩ := X
  obtain ⟨hx, hb, hml, hown, hts, hK, hA, hAB, hSF, hR, hB0, hlk⟩ := C
  intro H locs ls hP hD hS hl
  exact lv_icmp_ge hx hb hd ht (fun c => kt ((if_pos c).symm.trans h) H locs ls hP hD hS hl) (fun c => kf ((if_neg c).symm.trans h) H locs ls hP hD hS hl)
theorem g_icmp_gt (C : Cx X E cc own rk) {x y : Int32} {off : Int} {tgt : Nat} {P Q : Option α} (hd : decode cc pc = .ok (.if_icmp .gt off, 3)) (ht : (pc : Int) + off = (tgt : Int)) (h : (if y < x then P else Q) = some r) (kt : P = some r → Gx X E kc ks ws tgt lv st) (kf : Q = some r → Gx X E kc ks ws (pc + 3) lv st) : Gx X E kc ks ws pc lv (.int y :: .int x :: st) := by
  obtain ⟨p, l, e, R, s, m, args, below, meth, c, A, nL, Q⟩ := X
  obtain ⟨hx, hb, hml, hown, hts, hK, hA, hAB, hSF, hR, hB0, hlk⟩ := C
  intro H locs ls hP hD hS hl
  exact lv_icmp_gt hx hb hd ht (fun c => kt ((if_pos c).symm.trans h) H locs ls hP hD hS hl) (fun c => kf ((if_neg c).symm.trans h) H locs ls hP hD hS hl)
theorem g_icmp_le (C : Cx X E cc own rk) {x y : Int32} {off : Int} {tgt : Nat} {P Q : Option α} (hd : decode cc pc = .ok (.if_icmp .le off, 3)) (ht : (pc : Int) + off = (tgt : Int)) (h : (if x ≤ y then P else Q) = some r) (kt : P = some r → Gx X E kc ks ws tgt lv st) (kf : Q = some r → Gx X E kc ks ws (pc + 3) lv st) : Gx X E kc ks ws pc lv (.int y :: .int x :: st) := by
  obtain ⟨p, l, e, R, s, m, args, below, meth, c, A, nL, Q⟩ := X
  obtain ⟨hx, hb, hml, hown, hts, hK, hA, hAB, hSF, hR, hB0, hlk⟩ := C
  intro H locs ls hP hD hS hl
  exact lv_icmp_le hx hb hd ht (fun c => kt ((if_pos c).symm.trans h) H locs ls hP hD hS hl) (fun c => kf ((if_neg c).symm.trans h) H locs ls hP hD hS hl)
theorem g_if_eq (C : Cx X E cc own rk) {x : Int32} {off : Int} {tgt : Nat} {P Q : Option α} (hd : decode cc pc = .ok (.ifCond .eq off, 3)) (ht : (pc : Int) + off = (tgt : Int)) (h : (if x = 0 then P else Q) = some r) (kt : P = some r → Gx X E kc ks ws tgt lv st) (kf : Q = some r → Gx X E kc ks ws (pc + 3) lv st) : Gx X E kc ks ws pc lv (.int x :: st) := by
  obtain ⟨p, l, e, R, s, m, args, below, meth, c, A, nL, Q⟩ := X
  obtain ⟨hx, hb, hml, hown, hts, hK, hA, hAB, hSF, hR, hB0, hlk⟩ := C
  intro H locs ls hP hD hS hl
  exact lv_if_eq hx hb hd ht (fun c => kt ((if_pos c).symm.trans h) H locs ls hP hD hS hl) (fun c => kf ((if_neg c).symm.trans h) H locs ls hP hD hS hl)
theorem g_if_ne (C : Cx X E cc own rk) {x : Int32} {off : Int} {tgt : Nat} {P Q : Option α} (hd : decode cc pc = .ok (.ifCond .ne off, 3)) (ht : (pc : Int) + off = (tgt : Int)) (h : (if x = 0 then P else Q) = some r) (kt : Q = some r → Gx X E kc ks ws tgt lv st) (kf : P = some r → Gx X E kc ks ws (pc + 3) lv st) : Gx X E kc ks ws pc lv (.int x :: st) := by
  obtain ⟨p, l, e, R, s, m, args, below, meth, c, A, nL, Q⟩ := X
  obtain ⟨hx, hb, hml, hown, hts, hK, hA, hAB, hSF, hR, hB0, hlk⟩ := C
  intro H locs ls hP hD hS hl
  exact lv_if_ne hx hb hd ht (fun c => kt ((if_neg c).symm.trans h) H locs ls hP hD hS hl) (fun c => kf ((if_pos c).symm.trans h) H locs ls hP hD hS hl)
theorem g_if_lt (C : Cx X E cc own rk) {x : Int32} {off : Int} {tgt : Nat} {P Q : Option α} (hd : decode cc pc = .ok (.ifCond .lt off, 3)) (ht : (pc : Int) + off = (tgt : Int)) (h : (if x < 0 then P else Q) = some r) (kt : P = some r → Gx X E kc ks ws tgt lv st) (kf : Q = some r → Gx X E kc ks ws (pc + 3) lv st) : Gx X E kc ks ws pc lv (.int x :: st) := by
  obtain ⟨p, l, e, R, s, m, args, below, meth, c, A, nL, Q⟩ := X
  obtain ⟨hx, hb, hml, hown, hts, hK, hA, hAB, hSF, hR, hB0, hlk⟩ := C
  intro H locs ls hP hD hS hl
  exact lv_if_lt hx hb hd ht (fun c => kt ((if_pos c).symm.trans h) H locs ls hP hD hS hl) (fun c => kf ((if_neg c).symm.trans h) H locs ls hP hD hS hl)
theorem g_if_ge (C : Cx X E cc own rk) {x : Int32} {off : Int} {tgt : Nat} {P Q : Option α} (hd : decode cc pc = .ok (.ifCond .ge off, 3)) (ht : (pc : Int) + off = (tgt : Int)) (h : (if 0 ≤ x then P else Q) = some r) (kt : P = some r → Gx X E kc ks ws tgt lv st) (kf : Q = some r → Gx X E kc ks ws (pc + 3) lv st) : Gx X E kc ks ws pc lv (.int x :: st) := by
  obtain ⟨p, l, e, R, s, m, args, below, meth, c, A, nL, Q⟩ := X
  obtain ⟨hx, hb, hml, hown, hts, hK, hA, hAB, hSF, hR, hB0, hlk⟩ := C
  intro H locs ls hP hD hS hl
  exact lv_if_ge hx hb hd ht (fun c => kt ((if_pos c).symm.trans h) H locs ls hP hD hS hl) (fun c => kf ((if_neg c).symm.trans h) H locs ls hP hD hS hl)
theorem g_if_gt (C : Cx X E cc own rk) {x : Int32} {off : Int} {tgt : Nat} {P Q : Option α} (hd : decode cc pc = .ok (.ifCond .gt off, 3)) (ht : (pc : Int) + off = (tgt : Int)) (h : (if 0 < x then P else Q) = some r) (kt : P = some r → Gx X E kc ks ws tgt lv st) (kf : Q = some r → Gx X E kc ks ws (pc + 3) lv st) : Gx X E kc ks ws pc lv (.int x :: st) := by
  obtain ⟨p, l, e, R, s, m, args, below, meth, c, A, nL, Q⟩ := X
  obtain ⟨hx, hb, hml, hown, hts, hK, hA, hAB, hSF, hR, hB0, hlk⟩ := C
  intro H locs ls hP hD hS hl
  exact lv_if_gt hx hb hd ht (fun c => kt ((if_pos c).symm.trans h) H locs ls hP hD hS hl) (fun c => kf ((if_neg c).symm.trans h) H locs ls hP hD hS hl)
theorem g_if_le (C : Cx X E cc own rk) {x : Int32} {off : Int} {tgt : Nat} {P Q : Option α} (hd : decode cc pc = .ok (.ifCond .le off, 3)) (ht : (pc : Int) + off = (tgt : Int)) (h : (if x ≤ 0 then P else Q) = some r) (kt : P = some r → Gx X E kc ks ws tgt lv st) (kf : Q = some r → Gx X E kc ks ws (pc + 3) lv st) : Gx X E kc ks ws pc lv (.int x :: st) := by
  obtain ⟨p, l, e, R, s, m, args, below, meth, c, A, nL, Q⟩ := X
  obtain ⟨hx, hb, hml, hown, hts, hK, hA, hAB, hSF, hR, hB0, hlk⟩ := C
  intro H locs ls hP hD hS hl
  exact lv_if_le hx hb hd ht (fun c => kt ((if_pos c).symm.trans h) H locs ls hP hD hS hl) (fun c => kf ((if_neg c).symm.trans h) H locs ls hP hD hS hl)
/-- a field link: constant idx of class own names field k of class number ci -/
def FL (own : String) (idx ci k : Nat) : Prop := ∃ (q : vw_C) (ty : Nat → FieldType), cls[ci]? = some q ∧ (∀ w ∈ u_ws q.1 q.2.1 q.2.2, w ∈ lw_g) ∧ k < q.2.2 ∧ Cond.fieldLink own idx (q.2.1 k).1 (q.2.1 k).2.1 (q.2.1 k).2.2.1 ∈ lw_g ∧ (∀ k, k < q.2.2 → parseFieldDescriptor (q.2.1 k).2.2.1 = some (ty k)) ∧ (∀ a, a < q.2.2 → ∀ b, b < q.2.2 → a ≠ b → (q.2.1 a).2.1 ≠ (q.2.1 b).2.1)
theorem g_get (C : Cx X E cc own rk) {idx ci k a : Nat} {fs : List Value} {v : Value} (hF : FL own idx ci k) (hd : decode cc pc = .ok (.getfield idx, 3)) (q0 : Nat) (he : ws[q0]? = some (a, .inr (ci, fs))) (hv : fs[k]? = some v) (kk : Gx X E kc ks ws (pc + 3) lv (v :: st)) : Gx X E kc ks ws pc lv (.ref a :: st) := by
  obtain ⟨p, l, e, R, s, m, args, below, meth, c, A, nL, Q⟩ := X
  obtain ⟨hx, hb, hml, hown, hts, hK, hA, hAB, hSF, hR, hB0, hlk⟩ := C
  intro H locs ls hP hD hS hl
  obtain ⟨⟨Cl, T, N⟩, ty, hc, hin, hk, hlk2, hty, hnm⟩ := hF
  exact va_get hx hb hts hin hown hK hP q0 he hc k hk (hts _ hlk2) (fun _ h => h) hv hd (kk H locs ls hP hD hS hl)
theorem g_put (C : Cx X E cc own rk) {idx ci k a : Nat} {fs : List Value} {v : Value} {ws' : va_W} (ty : FieldType) (hF : FL own idx ci k) (hd : decode cc pc = .ok (.putfield idx, 3)) (q0 : Nat) (he : ws[q0]? = some (a, .inr (ci, fs))) (hfin : (cls[ci]?).map (fun q => ((q.2.1 k).2.2.2, parseFieldDescriptor (q.2.1 k).2.2.1)) = some (false, some ty)) (hn : narrow ty v = v) (hfit : fits ty v = true) (hlen : k < fs.length) (hw : ws.set q0 (a, .inr (ci, fs.set k v)) = ws') (kk : Gx X E kc ks ws' (pc + 3) lv st) : Gx X E kc ks ws pc lv (v :: .ref a :: st) := by
  obtain ⟨p, l, e, R, s, m, args, below, meth, c, A, nL, Q⟩ := X
  obtain ⟨hx, hb, hml, hown, hts, hK, hA, hAB, hSF, hR, hB0, hlk⟩ := C
  intro H locs ls hP hD hS hl
  obtain ⟨⟨Cl, T, N⟩, ty0, hc, hin, hk, hlk2, hty, hnm⟩ := hF
  rw [hc] at hfin
  injection hfin with hfin
  injection hfin with hf1 hf2
  subst hw
  exact va_put hx hb hts hin ty0 hty hnm hown hK hP hD hS q0 he hc k hk (hts _ hlk2) (fun _ h => h) hf1 hf2 hn hfit hlen hd (fun H1 locs1 hP hD hS => kk H1 locs1 ls hP hD hS hl)
theorem g_iald (C : Cx X E cc own rk) {a n : Nat} {f : Nat → Int32} {i : Int32} {F : Int32 → Option α} (hd : decode cc pc = .ok (.iaload, 1)) (q0 : Nat) (ha : ws[q0]? = some (a, .inl (E.2.1, n, .inl f))) (h : rd f n i F = some r) (k : ∀ v, F v = some r → Gx X E kc ks ws (pc + 1) lv (.int v :: st)) : Gx X E kc ks ws pc lv (.int i :: .ref a :: st) := by
  obtain ⟨p, l, e, R, s, m, args, below, meth, c, A, nL, Q⟩ := X
  obtain ⟨hx, hb, hml, hown, hts, hK, hA, hAB, hSF, hR, hB0, hlk⟩ := C
  intro H locs ls hP hD hS hl
  exact va_iald hx hb hK hP q0 0 ha rfl (rd_is h).1 hd (k _ (rd_is h).2 H locs ls hP hD hS hl)
theorem g_bald (C : Cx X E cc own rk) {a n : Nat} {f : Nat → Int32} {i : Int32} {F : Int32 → Option α} (hd : decode cc pc = .ok (.baload, 1)) (q0 : Nat) (ha : ws[q0]? = some (a, .inl (E.2.2.1, n, .inl f))) (h : rd f n i F = some r) (k : ∀ v, F v = some r → Gx X E kc ks ws (pc + 1) lv (.int v :: st)) : Gx X E kc ks ws pc lv (.int i :: .ref a :: st) := by
  obtain ⟨p, l, e, R, s, m, args, below, meth, c, A, nL, Q⟩ := X
  obtain ⟨hx, hb, hml, hown, hts, hK, hA, hAB, hSF, hR, hB0, hlk⟩ := C
  intro H locs ls hP hD hS hl
  exact va_bald hx hb hK hP q0 1 ha rfl (rd_is h).1 hd (k _ (rd_is h).2 H locs ls hP hD hS hl)
theorem g_iast (C : Cx X E cc own rk) {a n : Nat} {f : Nat → Int32} {i x : Int32} {F : (Nat → Int32) → Option α} (hd : decode cc pc = .ok (.iastore, 1)) (q0 : Nat) (ha : ws[q0]? = some (a, .inl (E.2.1, n, .inl f))) (h : wr f n i x F = some r) (k : ∀ g, F g = some r → Gx X E kc ks (ws.set q0 (a, .inl (E.2.1, n, .inl g))) (pc + 1) lv st) : Gx X E kc ks ws pc lv (.int x :: .int i :: .ref a :: st) := by
  obtain ⟨p, l, e, R, s, m, args, below, meth, c, A, nL, Q⟩ := X
  obtain ⟨hx, hb, hml, hown, hts, hK, hA, hAB, hSF, hR, hB0, hlk⟩ := C
  intro H locs ls hP hD hS hl
  exact va_iast hx hb hK hP hD hS q0 0 ha rfl (wr_is h).1 hd (fun H1 locs1 hP hD hS => k _ (wr_is h).2 H1 locs1 ls hP hD hS hl)
theorem g_bast (C : Cx X E cc own rk) {a n : Nat} {f : Nat → Int32} {i x : Int32} {F : (Nat → Int32) → Option α} (hd : decode cc pc = .ok (.bastore, 1)) (q0 : Nat) (ha : ws[q0]? = some (a, .inl (E.2.2.1, n, .inl f))) (h : wr f n i (vp_nar .byte x) F = some r) (k : ∀ g, F g = some r → Gx X E kc ks (ws.set q0 (a, .inl (E.2.2.1, n, .inl g))) (pc + 1) lv st) : Gx X E kc ks ws pc lv (.int x :: .int i :: .ref a :: st) := by
  obtain ⟨p, l, e, R, s, m, args, below, meth, c, A, nL, Q⟩ := X
  obtain ⟨hx, hb, hml, hown, hts, hK, hA, hAB, hSF, hR, hB0, hlk⟩ := C
  intro H locs ls hP hD hS hl
  exact va_bast hx hb hK hP hD hS q0 1 ha rfl (wr_is h).1 hd (fun H1 locs1 hP hD hS => k _ (wr_is h).2 H1 locs1 ls hP hD hS hl)
theorem g_alen (C : Cx X E cc own rk) {a n : Nat} {f : Nat → Int32} {v : Int32} (hd : decode cc pc = .ok (.arraylength, 1)) (q0 : Nat) (ha : ws[q0]? = some (a, .inl (E.2.1, n, .inl f))) (hv : Int32.ofNat n = v) (k : Gx X E kc ks ws (pc + 1) lv (.int v :: st)) : Gx X E kc ks ws pc lv (.ref a :: st) := by
  obtain ⟨p, l, e, R, s, m, args, below, meth, c, A, nL, Q⟩ := X
  obtain ⟨hx, hb, hml, hown, hts, hK, hA, hAB, hSF, hR, hB0, hlk⟩ := C
  intro H locs ls hP hD hS hl
  exact va_alen hx hb hK hP q0 0 ha rfl hv hd (k H locs ls hP hD hS hl)
theorem g_ws {ws' : va_W} (hw : ws = ws') (k : Gx X E kc ks ws' pc lv st) : Gx X E kc ks ws pc lv st := by rw [hw]; exact k
end GR
end
section
/-- the callee's cells put in their places -/
def spl : List Nat → va_W → va_W → va_W
  | i :: is, c :: cs, ws => spl is cs (ws.set i c)
  | _, _, ws => ws
theorem spl_get : ∀ (is : List Nat) (w' ws : va_W) (k : Nat) (q : Nat × va_E), is.length = w'.length → (spl is w' ws)[k]? = some q → (∃ j : Nat, w'[j]? = some q) ∨ (k ∉ is ∧ ws[k]? = some q) := by
  intro is
  induction is with
  | nil => intro w' ws k q hl h; exact Or.inr ⟨by simp, by simpa [spl] using h⟩
  | cons i is ih =>
    intro w' ws k q hl h
    cases w' with
    | nil => simp at hl
    | cons c cs =>
      rcases ih cs (ws.set i c) k q (by simpa using hl) h with ⟨j, hj⟩ | ⟨hk, hq⟩
      · exact Or.inl ⟨j + 1, by simpa using hj⟩
      · by_cases hki : k = i
        · subst hki
          rw [List.getElem?_set] at hq
          simp only [if_true] at hq
          split at hq
          · exact Or.inl ⟨0, by simpa using hq⟩
          · cases hq
        · rw [List.getElem?_set_ne (fun e => hki e.symm)] at hq
          exact Or.inr ⟨by simp [hki, hk], hq⟩
theorem spl_fst : ∀ (is : List Nat) (w' ws : va_W), (∀ (j i : Nat) (c : Nat × va_E), is[j]? = some i → w'[j]? = some c → (ws.map Prod.fst)[i]? = some c.1) → (spl is w' ws).map Prod.fst = ws.map Prod.fst := by
  intro is
  induction is with
  | nil => intro w' ws _; rfl
  | cons i is ih =>
    intro w' ws h
    cases w' with
    | nil => rfl
    | cons c cs =>
      have h0 := h 0 i c rfl rfl
      have e : (ws.set i c).map Prod.fst = ws.map Prod.fst := by
        rw [List.map_set]
        apply List.ext_getElem?
        intro k
        rw [List.getElem?_set]
        split
        · rename_i hk
          subst hk
          split
          · exact h0.symm
          · rename_i hn
            simp at hn
            simp [hn]
        · rfl
      show (spl is cs (ws.set i c)).map Prod.fst = _
      rw [ih cs (ws.set i c) (fun j i' c' h1 h2 => by rw [e]; exact h (j + 1) i' c' (by simpa using h1) (by simpa using h2)), e]
theorem vaD_fst {A : Nat → Prop} {ws ws' : va_W} (e : ws'.map Prod.fst = ws.map Prod.fst) (h : va_D A ws) : va_D A ws' := by
  have g : ∀ (k : Nat) (q : Nat × va_E), ws'[k]? = some q → ∃ p : Nat × va_E, ws[k]? = some p ∧ p.1 = q.1 := by
    intro k q hq
    have h1 : (ws'.map Prod.fst)[k]? = some q.1 := by rw [List.getElem?_map, hq]; rfl
    rw [e, List.getElem?_map] at h1
    cases hw : ws[k]? with
    | none => rw [hw] at h1; cases h1
    | some p => rw [hw] at h1; exact ⟨p, rfl, Option.some.inj h1⟩
  refine ⟨fun i j p q hp hq hpq => ?_, fun k q hq => ?_⟩
  · obtain ⟨p0, h1, h2⟩ := g i p hp
    obtain ⟨q0, h3, h4⟩ := g j q hq
    exact h.1 i j p0 q0 h1 h3 (by rw [h2, h4]; exact hpq)
  · obtain ⟨p0, h1, h2⟩ := g k q hq
    rw [← h2]
    exact h.2 k p0 h1
section CA
variable {p : Program} {l : Launch} {e : Env} {R : Room} {s : State} {m : MethodId} {args : Array Value} {below : List Frame} {meth : Method} {c : Code} {H : Heap} {locs : List Loc} {kc ks mc ms : Nat} {Q : State → Prop} {A : Nat → Prop} {E : GE} {B : va_W → Prop} {ws wc : va_W} {rv : Option Value} {pc : Nat} {ls : Array Slot} {st st0 : List Value} {a : Array Value}
theorem after_call (hr : va_Run p l e R s m args below meth c H locs kc ks mc ms (F0 m pc ls st0) st (Qw E B wc H.size rv a) (va_A wc H.size)) (hS : va_S A s.heap H locs) (hF : ∀ q, va_A wc H.size q → A q)
    (kk : ∀ (w' : va_W) (H1 : Heap) (locs1 : List Loc), B w' → va_P E.1 cls w' H1 → va_D (va_A wc H.size) w' → H.size ≤ H1.size → (∀ q : Nat, q < H.size → ¬ va_A wc H.size q → H1[q]? = H[q]?) → va_S A s.heap H1 locs1 → W p l e R s m args below meth c H1 locs1 (kc + mc) (ks + ms) Q (F0 m (pc + 3) ls (rv.toList ++ st))) : W p l e R s m args below meth c H locs kc ks Q (F0 m pc ls st0) := by
  intro T hT X
  obtain ⟨v, st₀, t, T', L, h0, X', hL, e1, e2, ⟨⟨w', hv, hp, hb, hd⟩, hz, hk⟩, stp⟩ := hr T hT X
  cases hv
  rw [h0] at hz hk
  obtain ⟨t2, a1, b1⟩ := kk w' T'.heap (locs ++ L) hp (by rw [e1]; exact hb) hd (by rw [e1]; exact hz) (fun q h1 h2 => by rw [e1]; exact hk q h1 h2)
    ⟨Nat.le_trans hS.1 (by rw [e1]; exact hz), fun q h1 h2 => by rw [e1, hk q (Nat.lt_of_lt_of_le h1 hS.1) (fun z => h2 (hF q z))]; exact hS.2.1 q h1 h2, fun q hq => by
      rcases List.mem_append.mp hq with h | h
      · exact hS.2.2 q h
      · exact hF _ (hL q h)⟩ T' rfl X'
  exact ⟨t2, stp t2 a1, b1⟩
/-- behind a call that makes nothing: the world, the callee's cells changed in place -/
theorem spl_world {wc' : va_W} {H1 : Heap} (is : List Nat) (hP : va_P E.1 cls ws H) (hD : va_D A ws) (hC : is.map (fun i => ws[i]?) = wc.map some) (hf : wc'.map Prod.fst = wc.map Prod.fst) (hk : ∀ q : Nat, q < H.size → ¬ va_A wc H.size q → H1[q]? = H[q]?) (hP1 : va_P E.1 cls wc' H1) : va_P E.1 cls (spl is wc' ws) H1 ∧ va_D A (spl is wc' ws) := by
  have hlen : is.length = wc'.length := by
    have h1 := congrArg List.length hC
    have h2 := congrArg List.length hf
    simp at h1 h2
    omega
  have at' : ∀ (k : Nat) (q : Nat × va_E), wc[k]? = some q → ∃ i, is[k]? = some i ∧ ws[i]? = some q := by
    intro k q hq
    have h1 : (is.map (fun i => ws[i]?))[k]? = some (some q) := by rw [hC, List.getElem?_map, hq]; rfl
    rw [List.getElem?_map] at h1
    cases hi : is[k]? with
    | none => rw [hi] at h1; cases h1
    | some i => rw [hi] at h1; exact ⟨i, rfl, Option.some.inj h1⟩
  refine ⟨fun k q hq => ?_, vaD_fst (spl_fst is wc' ws ?_) hD⟩
  · rcases spl_get is wc' ws k q hlen hq with ⟨j, hj⟩ | ⟨hk1, hq1⟩
    · exact hP1 j q hj
    · have hl := (hP k q hq1).lt
      refine (hP k q hq1).kept (hk q.1 hl (fun h => ?_))
      rcases h with ⟨k2, e2, h⟩ | h
      · obtain ⟨i, h3, h4⟩ := at' k2 (q.1, e2) h
        have hij := hD.1 k i q (q.1, e2) hq1 h4 rfl
        subst hij
        exact hk1 (List.mem_of_getElem? h3)
      · omega
  · intro j i c' h1 h2
    have h3 : (wc'.map Prod.fst)[j]? = some c'.1 := by rw [List.getElem?_map, h2]; rfl
    rw [hf, List.getElem?_map] at h3
    cases hw : wc[j]? with
    | none => rw [hw] at h3; cases h3
    | some q =>
      rw [hw] at h3
      obtain ⟨i', h4, h5⟩ := at' j q hw
      rw [h1] at h4
      cases h4
      rw [List.getElem?_map, h5]
      exact h3
theorem pw_of {U : State} {sz : Nat} (is : List Nat) (hU : U.heap = H) (hW : s.WarmedH U.vm) (hP : va_P E.1 cls ws H) (hD : va_D A ws) (hS : va_S A s.heap H locs) (hC : is.map (fun i => ws[i]?) = wc.map some) (hnd : va_nd is = true) (hK : va_K E.1 cls (gty E) s) (hAB : ∀ q, A q → E.2.2.2 ≤ q) (hSF : SF E.2.2.2 s s.heap) (hB0 : E.2.2.2 ≤ s.heap.size) (hsz : sz = H.size) : Pw E wc sz U := by
  subst hsz
  refine ⟨by rw [hU], ?_, va_K.moved hW.alike hK, (hD.sub is hnd hC).weaken (fun k q _ h => hAB _ h), Nat.le_trans hB0 hS.1, ?_⟩
  · rw [hU]
    intro k q hq
    have h1 : (is.map (fun i => ws[i]?))[k]? = some (some q) := by rw [hC, List.getElem?_map, hq]; rfl
    rw [List.getElem?_map] at h1
    cases hi : is[k]? with
    | none => rw [hi] at h1; cases h1
    | some i => rw [hi] at h1; exact hP i q (Option.some.inj h1)
  · rw [hU]
    exact (hSF.kept hAB hS).moved hW
end CA
/-- what is said once of a method: its words -/
def MV (y : MethodName) (bytes : ByteArray) (maxL : Nat) (ret : Option FieldType) (n : Nat) : Prop := Cond.code y bytes maxL ret ∈ lw_g ∧ Cond.initialized y.cls ∈ lw_g ∧ (y.cls ≠ "java/lang/invoke/MethodHandle" ∧ y.cls ≠ "java/lang/invoke/VarHandle" ∧ (parseMethodDescriptor y.desc).map (fun d => d.parameters.length) = some n)
def MI (y : MethodName) : Prop := Cond.instanceMethod y ∈ lw_g ∧ Cond.selects y.cls y y ∈ lw_g
section CB
variable {X : GC} {E : GE} {cc : ByteArray} {own : String} {rk kc ks : Nat} {ws : va_W} {pc : Nat} {lv : List (Nat × Value)} {st : List Value}
variable {y : MethodName} {bytes : ByteArray} {maxL n idx rk' b : Nat} {ret : Option FieldType} {As : List Value} {wc wc' : va_W} {rv : Option Value}
/-- a call of a method of an object, nothing made -/
theorem g_callV (C : Cx X E cc own rk) (hV : MV y bytes maxL ret n) (hI : MI y) (hl : Cond.methodLink own idx y ∈ lw_g) (hM : Cn X.2.1 E y bytes maxL ret rk' 0 0 (.ref b :: As) wc (fun w => w = wc') rv) (hd : decode cc pc = .ok (.invokevirtual idx, 3)) (hrk : rk' < rk ∧ maxL ≤ 44) (hn : As.length = n) (hst : (st.map fun v => v.category).sum ≤ 8) (hk : kc ≤ X.2.2.2.1.cells ∧ ks ≤ X.2.2.2.1.slots)
    (q0 ci : Nat) {fs : List Value} (he : ws[q0]? = some (b, .inr (ci, fs))) (hc : (cls[ci]?).map (fun q => q.1) = some y.cls) (is : List Nat) (hC : is.map (fun i => ws[i]?) = wc.map some) (hnd : va_nd is = true) (hf : wc'.map Prod.fst = wc.map Prod.fst)
    {ws' : va_W} (hw : spl is wc' ws = ws') (k : Gx X E kc ks ws' (pc + 3) lv (rv.toList ++ st)) : Gx X E kc ks ws pc lv (As.reverse ++ .ref b :: st) := by
  obtain ⟨p, l, e, R, s, m, args, below, meth, c, A, nL, Q⟩ := X
  obtain ⟨hx, hb, hml, hown, hts, hK, hA, hAB, hSF, hR, hB0, hlk⟩ := C
  intro H locs ls hP hD hS hlv
  have hF := va_free (wc := wc) hD hS hA is hC
  have cw : CallW R s args own y.cls idx y bytes maxL ret (.code y bytes maxL ret :: lw_g) (rmk rk' 0 0) 0 0 n := ⟨callB_of n hts (lg_goodC hV.1) rfl rfl rfl (hts _ hV.2.1) (hts _ hl) hV.2.2 ⟨by show rk' + 1 + 1 ≤ _; omega, by show 8 + (maxL + 11) + 64 * (rk' + 1) ≤ _; omega⟩, hts _ hI.1, hts _ hI.2⟩
  have hrecv : ∃ cell : Cell, H[b]? = some cell ∧ cell.vm.isStatics = false ∧ s.vm.findClass y.cls = some cell.cls := by
    cases hq : cls[ci]? with
    | none => rw [hq] at hc; cases hc
    | some q =>
      rw [hq] at hc
      have := va_recv hK hP hq he
      have hc : q.1 = y.cls := Option.some.inj hc
      rw [hc] at this
      exact this
  subst hw
  refine after_call (va_runV (As := As) (rest := st) ⟨hx, hb, hml, hown, hts⟩ (hM H.size) cw ⟨Pw.blind, hrecv, fun U hU hW => ⟨rfl, pw_of is hU hW hP hD hS hC hnd hK hAB hSF hB0 rfl⟩⟩ rfl hn hlv.1 rfl (lv_room hst) hd hk) hS hF (fun w' H1 locs1 hB hP1 hD1 hz hkq hS1 => ?_)
  subst hB
  obtain ⟨hP2, hD2⟩ := spl_world is hP hD hC hf hkq hP1
  exact k H1 locs1 ls hP2 hD2 hS1 hlv
/-- a static method's call, nothing made -/
theorem g_callS (C : Cx X E cc own rk) (hV : MV y bytes maxL ret n) (hI : Cond.static y ∈ lw_g) (hl : Cond.methodLink own idx y ∈ lw_g) (hM : Cn X.2.1 E y bytes maxL ret rk' 0 0 As wc (fun w => w = wc') rv) (hd : decode cc pc = .ok (.invokestatic idx, 3)) (hrk : rk' < rk ∧ maxL ≤ 44) (hn : As.length = n) (hst : (st.map fun v => v.category).sum ≤ 8) (hk : kc ≤ X.2.2.2.1.cells ∧ ks ≤ X.2.2.2.1.slots)
    (is : List Nat) (hC : is.map (fun i => ws[i]?) = wc.map some) (hnd : va_nd is = true) (hf : wc'.map Prod.fst = wc.map Prod.fst)
    {ws' : va_W} (hw : spl is wc' ws = ws') (k : Gx X E kc ks ws' (pc + 3) lv (rv.toList ++ st)) : Gx X E kc ks ws pc lv (As.reverse ++ st) := by
  obtain ⟨p, l, e, R, s, m, args, below, meth, c, A, nL, Q⟩ := X
  obtain ⟨hx, hb, hml, hown, hts, hK, hA, hAB, hSF, hR, hB0, hlk⟩ := C
  intro H locs ls hP hD hS hlv
  have hF := va_free (wc := wc) hD hS hA is hC
  have cw : CallB R s args own idx y bytes maxL ret (.code y bytes maxL ret :: lw_g) (rmk rk' 0 0) 0 0 n ∧ (Cond.static y).before args s = true := ⟨callB_of n hts (lg_goodC hV.1) rfl rfl rfl (hts _ hV.2.1) (hts _ hl) hV.2.2 ⟨by show rk' + 1 + 1 ≤ _; omega, by show 8 + (maxL + 11) + 64 * (rk' + 1) ≤ _; omega⟩, hts _ hI⟩
  subst hw
  refine after_call (va_runS (As := As) (rest := st) ⟨hx, hb, hml, hown, hts⟩ (hM H.size) cw ⟨Pw.blind, fun U hU hW => ⟨rfl, pw_of is hU hW hP hD hS hC hnd hK hAB hSF hB0 rfl⟩⟩ rfl hn hlv.1 rfl (lv_room hst) hd hk) hS hF (fun w' H1 locs1 hB hP1 hD1 hz hkq hS1 => ?_)
  subst hB
  obtain ⟨hP2, hD2⟩ := spl_world is hP hD hC hf hkq hP1
  exact k H1 locs1 ls hP2 hD2 hS1 hlv
/-- a private static method of the nest's host -/
theorem g_callSN (C : Cx X E cc own rk) {host : String} (hV : MV y bytes maxL ret n) (hI : Cond.static y ∈ lw_g) (hl : Cond.methodLinkNest own idx y host ∈ nwl) (hM : Cn X.2.1 E y bytes maxL ret rk' 0 0 As wc (fun w => w = wc') rv) (hd : decode cc pc = .ok (.invokestatic idx, 3)) (hrk : rk' < rk ∧ maxL ≤ 44) (hn : As.length = n) (hst : (st.map fun v => v.category).sum ≤ 8) (hk : kc ≤ X.2.2.2.1.cells ∧ ks ≤ X.2.2.2.1.slots)
    (is : List Nat) (hC : is.map (fun i => ws[i]?) = wc.map some) (hnd : va_nd is = true) (hf : wc'.map Prod.fst = wc.map Prod.fst)
    {ws' : va_W} (hw : spl is wc' ws = ws') (k : Gx X E kc ks ws' (pc + 3) lv (rv.toList ++ st)) : Gx X E kc ks ws pc lv (As.reverse ++ st) := by
  obtain ⟨p, l, e, R, s, m, args, below, meth, c, A, nL, Q⟩ := X
  obtain ⟨hx, hb, hml, hown, hts, hK, hA, hAB, hSF, hR, hB0, hlk⟩ := C
  intro H locs ls hP hD hS hlv
  have hF := va_free (wc := wc) hD hS hA is hC
  have cw : va_CN R s args own idx y host bytes maxL ret (.code y bytes maxL ret :: lw_g) (rmk rk' 0 0) 0 0 n := va_cnB n hts (lg_goodC hV.1) rfl rfl rfl (hSF.2.2 _ hl) (hts _ hV.2.1) hV.2.2 ⟨by show rk' + 1 + 1 ≤ _; omega, by show 8 + (maxL + 11) + 64 * (rk' + 1) ≤ _; omega⟩
  subst hw
  refine after_call (va_runSN (As := As) (rest := st) ⟨hx, hb, hml, hown, hts⟩ (hM H.size) ⟨cw, hts _ hI, trivial⟩ ⟨Pw.blind, fun U hU hW => ⟨rfl, pw_of is hU hW hP hD hS hC hnd hK hAB hSF hB0 rfl⟩⟩ rfl hn hlv.1 rfl (lv_room hst) hd hk) hS hF (fun w' H1 locs1 hB hP1 hD1 hz hkq hS1 => ?_)
  subst hB
  obtain ⟨hP2, hD2⟩ := spl_world is hP hD hC hf hkq hP1
  exact k H1 locs1 ls hP2 hD2 hS1 hlv
def imin (x y : Int32) : Int32 := if y < x then y else x
def imax (x y : Int32) : Int32 := if x < y then y else x
theorem g_mmin (C : Cx X E cc own rk) {x y : Int32} (hl : Cond.methodLink own idx Lib.Math.min.name ∈ lw_g) (h2 : Cond.static Lib.Math.min.name ∈ lw_g) (h3 : Cond.initialized "java/lang/Math" ∈ lw_g) (h4 : Cond.code Lib.Math.min.name Lib.Math.min.code 2 (some .int) ∈ lw_g) (hst : (st.map fun v => v.category).sum ≤ 8) (hk : kc ≤ X.2.2.2.1.cells ∧ ks ≤ X.2.2.2.1.slots) (hd : decode cc pc = .ok (.invokestatic idx, 3)) (k : Gx X E kc ks ws (pc + 3) lv (.int (imin x y) :: st)) : Gx X E kc ks ws pc lv (.int y :: .int x :: st) := by
  obtain ⟨p, l, e, R, s, m, args, below, meth, c, A, nL, Q⟩ := X
  obtain ⟨hx, hb, hml, hown, hts, hK, hA, hAB, hSF, hR, hB0, hlk⟩ := C
  intro H locs ls hP hD hS hlv
  have hk : kc ≤ R.cells ∧ ks ≤ R.slots := hk
  have r1 : 1 ≤ R.frames := by omega
  have r2 : (st.map fun v => v.category).sum + 13 ≤ R.locals := by omega
  exact va_mmin hx hb (hml.trans hlv.1.symm) hown (hts _ hl) (hts _ h2) (hts _ h3) (hts _ h4) r1 r2 hk.1 hk.2 hd (k H locs ls hP hD hS hlv)
theorem g_mmax (C : Cx X E cc own rk) {x y : Int32} (hl : Cond.methodLink own idx Lib.Math.max.name ∈ lw_g) (h2 : Cond.static Lib.Math.max.name ∈ lw_g) (h3 : Cond.initialized "java/lang/Math" ∈ lw_g) (h4 : Cond.code Lib.Math.max.name Lib.Math.max.code 2 (some .int) ∈ lw_g) (hst : (st.map fun v => v.category).sum ≤ 8) (hk : kc ≤ X.2.2.2.1.cells ∧ ks ≤ X.2.2.2.1.slots) (hd : decode cc pc = .ok (.invokestatic idx, 3)) (k : Gx X E kc ks ws (pc + 3) lv (.int (imax x y) :: st)) : Gx X E kc ks ws pc lv (.int y :: .int x :: st) := by
  obtain ⟨p, l, e, R, s, m, args, below, meth, c, A, nL, Q⟩ := X
  obtain ⟨hx, hb, hml, hown, hts, hK, hA, hAB, hSF, hR, hB0, hlk⟩ := C
  intro H locs ls hP hD hS hlv
  have hk : kc ≤ R.cells ∧ ks ≤ R.slots := hk
  have r1 : 1 ≤ R.frames := by omega
  have r2 : (st.map fun v => v.category).sum + 13 ≤ R.locals := by omega
  exact va_mmax hx hb (hml.trans hlv.1.symm) hown (hts _ hl) (hts _ h2) (hts _ h3) (hts _ h4) r1 r2 hk.1 hk.2 hd (k H locs ls hP hD hS hlv)
def cpy {β : Type} (f : Nat → Int32) (n0 : Nat) (g : Nat → Int32) (n1 : Nat) (sp dp n : Int32) (k : (Nat → Int32) → Option β) : Option β := if (¬ sp < 0 ∧ ¬ dp < 0 ∧ ¬ n < 0) ∧ sp.toNatClampNeg + n.toNatClampNeg ≤ n0 ∧ dp.toNatClampNeg + n.toNatClampNeg ≤ n1 then k (va_cpy f g sp.toNatClampNeg dp.toNatClampNeg n.toNatClampNeg) else none
theorem g_copy (C : Cx X E cc own rk) {α : Type} {r : α} {a a0 n0 n1 : Nat} {f g : Nat → Int32} {sp dp n : Int32} {F : (Nat → Int32) → Option α} (hl : Cond.methodLink own idx arraycopyName ∈ lw_g) (h2 : Cond.native arraycopyName ∈ lw_g) (h3 : Cond.static arraycopyName ∈ lw_g) (h4 : Cond.initialized "java/lang/System" ∈ lw_g) (hst : (st.map fun v => v.category).sum ≤ 8) (hd : decode cc pc = .ok (.invokestatic idx, 3)) (q0 q1 : Nat) (ha0 : ws[q0]? = some (a0, .inl (E.2.1, n0, .inl f))) (ha1 : ws[q1]? = some (a, .inl (E.2.1, n1, .inl g)))
    (h : cpy f n0 g n1 sp dp n F = some r) (k : ∀ g', F g' = some r → Gx X E kc ks (ws.set q1 (a, .inl (E.2.1, n1, .inl g'))) (pc + 3) lv st) : Gx X E kc ks ws pc lv (.int n :: .int dp :: .ref a :: .int sp :: .ref a0 :: st) := by
  obtain ⟨p, l, e, R, s, m, args, below, meth, c, A, nL, Q⟩ := X
  obtain ⟨hx, hb, hml, hown, hts, hK, hA, hAB, hSF, hR, hB0, hlk⟩ := C
  intro H locs ls hP hD hS hlv
  obtain ⟨⟨⟨c1, c2, c3⟩, c4, c5⟩, h⟩ := ite_some h
  have r1 : 1 ≤ R.frames := by omega
  have r3 : nativeFrameWords "java/lang/System" "arraycopy" 5 + 11 ≤ 56 := by decide +kernel
  have r2 : (st.map fun v => v.category).sum + (nativeFrameWords "java/lang/System" "arraycopy" 5 + 11) ≤ R.locals := by omega
  exact va_copyi hx hb (hml.trans hlv.1.symm) hown (hts _ hl) (hts _ h2) (hts _ h3) (hts _ h4) hK hP hD hS q0 q1 0 0 ha0 ha1 rfl rfl rfl c1 c2 c3 c4 c5 (fun i _ => rfl) r1 r2 hd (fun H1 locs1 hP hD hS => k _ h H1 locs1 ls hP hD hS hlv)
end CB
end
