section
-- ===== PART A: goes FIRST, ahead of the names: the tables' words, and 'selects' of the private methods out of them =====
/-- a private method of a class that the tables say can be made, by its rows of tables_1 -/
def lw_okq (q : MethodName × Nat) : Prop := (q.1.cls ≠ "java/lang/invoke/MethodHandle" ∧ q.1.cls ≠ "java/lang/invoke/VarHandle") ∧ Cond.instantiable q.1.cls q.2 ∈ tables_1 ∧ Cond.privateMethod q.1 ∈ tables_1 ∧ Cond.instanceMethod q.1 ∈ tables_1
theorem lw_p0 : lw_okq (⟨"FurnitureByFlood$Reader", "takes", "(ILFurnitureByFlood$Plan;)Z"⟩, 2) := ⟨⟨by decide +kernel, by decide +kernel⟩, List.mem_of_getElem? (i := 38) (by decide +kernel), List.mem_of_getElem? (i := 304) (by decide +kernel), List.mem_of_getElem? (i := 305) (by decide +kernel)⟩
theorem lw_p1 : lw_okq (⟨"FurnitureByFlood$Reader", "canGoOn", "(ILFurnitureByFlood$Plan;)Z"⟩, 2) := ⟨⟨by decide +kernel, by decide +kernel⟩, List.mem_of_getElem? (i := 38) (by decide +kernel), List.mem_of_getElem? (i := 327) (by decide +kernel), List.mem_of_getElem? (i := 328) (by decide +kernel)⟩
theorem lw_p2 : lw_okq (⟨"FurnitureByFlood$Reader", "canGoOnWithStream", "(ILFurnitureByFlood$Plan;)Z"⟩, 2) := ⟨⟨by decide +kernel, by decide +kernel⟩, List.mem_of_getElem? (i := 38) (by decide +kernel), List.mem_of_getElem? (i := 331) (by decide +kernel), List.mem_of_getElem? (i := 332) (by decide +kernel)⟩
theorem lw_p3 : lw_okq (⟨"FurnitureByFlood$Reader", "canGoOnWithPiece", "(ILFurnitureByFlood$Plan;)Z"⟩, 2) := ⟨⟨by decide +kernel, by decide +kernel⟩, List.mem_of_getElem? (i := 38) (by decide +kernel), List.mem_of_getElem? (i := 338) (by decide +kernel), List.mem_of_getElem? (i := 339) (by decide +kernel)⟩
theorem lw_p4 : lw_okq (⟨"FurnitureByFlood$Reader", "lengthOfPart", "()I"⟩, 2) := ⟨⟨by decide +kernel, by decide +kernel⟩, List.mem_of_getElem? (i := 38) (by decide +kernel), List.mem_of_getElem? (i := 342) (by decide +kernel), List.mem_of_getElem? (i := 343) (by decide +kernel)⟩
theorem lw_p5 : lw_okq (⟨"FurnitureByFlood$Reader", "addPart", "(LFurnitureByFlood$Plan;)V"⟩, 2) := ⟨⟨by decide +kernel, by decide +kernel⟩, List.mem_of_getElem? (i := 38) (by decide +kernel), List.mem_of_getElem? (i := 346) (by decide +kernel), List.mem_of_getElem? (i := 347) (by decide +kernel)⟩
theorem lw_p6 : lw_okq (⟨"FurnitureByFlood", "isHouse", "(I)Z"⟩, 11) := ⟨⟨by decide +kernel, by decide +kernel⟩, List.mem_of_getElem? (i := 13) (by decide +kernel), List.mem_of_getElem? (i := 393) (by decide +kernel), List.mem_of_getElem? (i := 394) (by decide +kernel)⟩
theorem lw_p7 : lw_okq (⟨"FurnitureByFlood", "piecesIn", "(I)I"⟩, 11) := ⟨⟨by decide +kernel, by decide +kernel⟩, List.mem_of_getElem? (i := 13) (by decide +kernel), List.mem_of_getElem? (i := 397) (by decide +kernel), List.mem_of_getElem? (i := 398) (by decide +kernel)⟩
theorem lw_p8 : lw_okq (⟨"FurnitureByFlood", "widthOf", "([II)I"⟩, 11) := ⟨⟨by decide +kernel, by decide +kernel⟩, List.mem_of_getElem? (i := 13) (by decide +kernel), List.mem_of_getElem? (i := 401) (by decide +kernel), List.mem_of_getElem? (i := 402) (by decide +kernel)⟩
theorem lw_p9 : lw_okq (⟨"FurnitureByFlood", "isStream", "(I)Z"⟩, 11) := ⟨⟨by decide +kernel, by decide +kernel⟩, List.mem_of_getElem? (i := 13) (by decide +kernel), List.mem_of_getElem? (i := 409) (by decide +kernel), List.mem_of_getElem? (i := 410) (by decide +kernel)⟩
theorem lw_p10 : lw_okq (⟨"FurnitureByFlood", "isPiece", "(I)Z"⟩, 11) := ⟨⟨by decide +kernel, by decide +kernel⟩, List.mem_of_getElem? (i := 13) (by decide +kernel), List.mem_of_getElem? (i := 417) (by decide +kernel), List.mem_of_getElem? (i := 418) (by decide +kernel)⟩
theorem lw_p11 : lw_okq (⟨"FurnitureByFlood$Trial", "weigh", "(LFurnitureByFlood$Plan;I)V"⟩, 6) := ⟨⟨by decide +kernel, by decide +kernel⟩, List.mem_of_getElem? (i := 127) (by decide +kernel), List.mem_of_getElem? (i := 471) (by decide +kernel), List.mem_of_getElem? (i := 472) (by decide +kernel)⟩
theorem lw_p12 : lw_okq (⟨"FurnitureByFlood$Trial", "letGo", "(IIILFurnitureByFlood$Plan;)V"⟩, 6) := ⟨⟨by decide +kernel, by decide +kernel⟩, List.mem_of_getElem? (i := 127) (by decide +kernel), List.mem_of_getElem? (i := 484) (by decide +kernel), List.mem_of_getElem? (i := 485) (by decide +kernel)⟩
theorem lw_p13 : lw_okq (⟨"FurnitureByFlood$Stand", "addOwner", "(II)V"⟩, 7) := ⟨⟨by decide +kernel, by decide +kernel⟩, List.mem_of_getElem? (i := 58) (by decide +kernel), List.mem_of_getElem? (i := 501) (by decide +kernel), List.mem_of_getElem? (i := 502) (by decide +kernel)⟩
theorem lw_p14 : lw_okq (⟨"FurnitureByFlood", "arePieces", "(I)Z"⟩, 11) := ⟨⟨by decide +kernel, by decide +kernel⟩, List.mem_of_getElem? (i := 13) (by decide +kernel), List.mem_of_getElem? (i := 529) (by decide +kernel), List.mem_of_getElem? (i := 530) (by decide +kernel)⟩
theorem lw_p15 : lw_okq (⟨"FurnitureByFlood", "tieAll", "(II)I"⟩, 11) := ⟨⟨by decide +kernel, by decide +kernel⟩, List.mem_of_getElem? (i := 13) (by decide +kernel), List.mem_of_getElem? (i := 533) (by decide +kernel), List.mem_of_getElem? (i := 534) (by decide +kernel)⟩
def lw_privs_1 : List (MethodName × Nat) := [(⟨"FurnitureByFlood$Reader", "takes", "(ILFurnitureByFlood$Plan;)Z"⟩, 2), (⟨"FurnitureByFlood$Reader", "canGoOn", "(ILFurnitureByFlood$Plan;)Z"⟩, 2), (⟨"FurnitureByFlood$Reader", "canGoOnWithStream", "(ILFurnitureByFlood$Plan;)Z"⟩, 2), (⟨"FurnitureByFlood$Reader", "canGoOnWithPiece", "(ILFurnitureByFlood$Plan;)Z"⟩, 2), (⟨"FurnitureByFlood$Reader", "lengthOfPart", "()I"⟩, 2), (⟨"FurnitureByFlood$Reader", "addPart", "(LFurnitureByFlood$Plan;)V"⟩, 2), (⟨"FurnitureByFlood", "isHouse", "(I)Z"⟩, 11), (⟨"FurnitureByFlood", "piecesIn", "(I)I"⟩, 11), (⟨"FurnitureByFlood", "widthOf", "([II)I"⟩, 11), (⟨"FurnitureByFlood", "isStream", "(I)Z"⟩, 11), (⟨"FurnitureByFlood", "isPiece", "(I)Z"⟩, 11), (⟨"FurnitureByFlood$Trial", "weigh", "(LFurnitureByFlood$Plan;I)V"⟩, 6), (⟨"FurnitureByFlood$Trial", "letGo", "(IIILFurnitureByFlood$Plan;)V"⟩, 6), (⟨"FurnitureByFlood$Stand", "addOwner", "(II)V"⟩, 7), (⟨"FurnitureByFlood", "arePieces", "(I)Z"⟩, 11), (⟨"FurnitureByFlood", "tieAll", "(II)I"⟩, 11)]
theorem lw_r1 : ∀ q ∈ lw_privs_1, lw_okq q := List.forall_mem_cons.mpr ⟨lw_p0, List.forall_mem_cons.mpr ⟨lw_p1, List.forall_mem_cons.mpr ⟨lw_p2, List.forall_mem_cons.mpr ⟨lw_p3, List.forall_mem_cons.mpr ⟨lw_p4, List.forall_mem_cons.mpr ⟨lw_p5, List.forall_mem_cons.mpr ⟨lw_p6, List.forall_mem_cons.mpr ⟨lw_p7, List.forall_mem_cons.mpr ⟨lw_p8, List.forall_mem_cons.mpr ⟨lw_p9, List.forall_mem_cons.mpr ⟨lw_p10, List.forall_mem_cons.mpr ⟨lw_p11, List.forall_mem_cons.mpr ⟨lw_p12, List.forall_mem_cons.mpr ⟨lw_p13, List.forall_mem_cons.mpr ⟨lw_p14, List.forall_mem_cons.mpr ⟨lw_p15, fun _ h => absurd h List.not_mem_nil⟩⟩⟩⟩⟩⟩⟩⟩⟩⟩⟩⟩⟩⟩⟩⟩
theorem lw_p16 : lw_okq (⟨"FurnitureByFlood", "areWhereTheyWere", "(I)Z"⟩, 11) := ⟨⟨by decide +kernel, by decide +kernel⟩, List.mem_of_getElem? (i := 13) (by decide +kernel), List.mem_of_getElem? (i := 540) (by decide +kernel), List.mem_of_getElem? (i := 541) (by decide +kernel)⟩
theorem lw_p17 : lw_okq (⟨"FurnitureByFlood$Spread", "move", "(III)V"⟩, 2) := ⟨⟨by decide +kernel, by decide +kernel⟩, List.mem_of_getElem? (i := 157) (by decide +kernel), List.mem_of_getElem? (i := 568) (by decide +kernel), List.mem_of_getElem? (i := 569) (by decide +kernel)⟩
theorem lw_p18 : lw_okq (⟨"FurnitureByFlood$Spread", "turn", "()V"⟩, 2) := ⟨⟨by decide +kernel, by decide +kernel⟩, List.mem_of_getElem? (i := 157) (by decide +kernel), List.mem_of_getElem? (i := 572) (by decide +kernel), List.mem_of_getElem? (i := 573) (by decide +kernel)⟩
theorem lw_p19 : lw_okq (⟨"FurnitureByFlood", "spreadRows", "(II)V"⟩, 11) := ⟨⟨by decide +kernel, by decide +kernel⟩, List.mem_of_getElem? (i := 13) (by decide +kernel), List.mem_of_getElem? (i := 604) (by decide +kernel), List.mem_of_getElem? (i := 605) (by decide +kernel)⟩
theorem lw_p20 : lw_okq (⟨"FurnitureByFloodModel", "readTown", "()I"⟩, 49) := ⟨⟨by decide +kernel, by decide +kernel⟩, List.mem_of_getElem? (i := 637) (by decide +kernel), List.mem_of_getElem? (i := 807) (by decide +kernel), List.mem_of_getElem? (i := 808) (by decide +kernel)⟩
theorem lw_p21 : lw_okq (⟨"FurnitureByFloodModel", "readPart", "()Z"⟩, 49) := ⟨⟨by decide +kernel, by decide +kernel⟩, List.mem_of_getElem? (i := 637) (by decide +kernel), List.mem_of_getElem? (i := 811) (by decide +kernel), List.mem_of_getElem? (i := 812) (by decide +kernel)⟩
theorem lw_p22 : lw_okq (⟨"FurnitureByFloodModel", "readHouse", "()Z"⟩, 49) := ⟨⟨by decide +kernel, by decide +kernel⟩, List.mem_of_getElem? (i := 637) (by decide +kernel), List.mem_of_getElem? (i := 815) (by decide +kernel), List.mem_of_getElem? (i := 816) (by decide +kernel)⟩
theorem lw_p23 : lw_okq (⟨"FurnitureByFloodModel", "figure", "(II)I"⟩, 49) := ⟨⟨by decide +kernel, by decide +kernel⟩, List.mem_of_getElem? (i := 637) (by decide +kernel), List.mem_of_getElem? (i := 819) (by decide +kernel), List.mem_of_getElem? (i := 820) (by decide +kernel)⟩
theorem lw_p24 : lw_okq (⟨"FurnitureByFloodModel", "hasAnyMore", "()Z"⟩, 49) := ⟨⟨by decide +kernel, by decide +kernel⟩, List.mem_of_getElem? (i := 637) (by decide +kernel), List.mem_of_getElem? (i := 823) (by decide +kernel), List.mem_of_getElem? (i := 824) (by decide +kernel)⟩
theorem lw_p25 : lw_okq (⟨"FurnitureByFloodModel", "hasMore", "(I)Z"⟩, 49) := ⟨⟨by decide +kernel, by decide +kernel⟩, List.mem_of_getElem? (i := 637) (by decide +kernel), List.mem_of_getElem? (i := 827) (by decide +kernel), List.mem_of_getElem? (i := 828) (by decide +kernel)⟩
theorem lw_p26 : lw_okq (⟨"FurnitureByFloodModel", "isTold", "(II)Z"⟩, 49) := ⟨⟨by decide +kernel, by decide +kernel⟩, List.mem_of_getElem? (i := 637) (by decide +kernel), List.mem_of_getElem? (i := 831) (by decide +kernel), List.mem_of_getElem? (i := 832) (by decide +kernel)⟩
theorem lw_p27 : lw_okq (⟨"FurnitureByFloodModel", "leftOf", "(I)I"⟩, 49) := ⟨⟨by decide +kernel, by decide +kernel⟩, List.mem_of_getElem? (i := 637) (by decide +kernel), List.mem_of_getElem? (i := 835) (by decide +kernel), List.mem_of_getElem? (i := 836) (by decide +kernel)⟩
theorem lw_p28 : lw_okq (⟨"FurnitureByFloodModel", "readStream", "()Z"⟩, 49) := ⟨⟨by decide +kernel, by decide +kernel⟩, List.mem_of_getElem? (i := 637) (by decide +kernel), List.mem_of_getElem? (i := 839) (by decide +kernel), List.mem_of_getElem? (i := 840) (by decide +kernel)⟩
theorem lw_p29 : lw_okq (⟨"FurnitureByFloodModel", "readPiece", "()Z"⟩, 49) := ⟨⟨by decide +kernel, by decide +kernel⟩, List.mem_of_getElem? (i := 637) (by decide +kernel), List.mem_of_getElem? (i := 843) (by decide +kernel), List.mem_of_getElem? (i := 844) (by decide +kernel)⟩
theorem lw_p30 : lw_okq (⟨"FurnitureByFloodModel", "noHouse", "(I)Z"⟩, 49) := ⟨⟨by decide +kernel, by decide +kernel⟩, List.mem_of_getElem? (i := 637) (by decide +kernel), List.mem_of_getElem? (i := 859) (by decide +kernel), List.mem_of_getElem? (i := 860) (by decide +kernel)⟩
theorem lw_p31 : lw_okq (⟨"FurnitureByFloodModel", "noPiece", "(I)Z"⟩, 49) := ⟨⟨by decide +kernel, by decide +kernel⟩, List.mem_of_getElem? (i := 637) (by decide +kernel), List.mem_of_getElem? (i := 871) (by decide +kernel), List.mem_of_getElem? (i := 872) (by decide +kernel)⟩
def lw_privs_2 : List (MethodName × Nat) := [(⟨"FurnitureByFlood", "areWhereTheyWere", "(I)Z"⟩, 11), (⟨"FurnitureByFlood$Spread", "move", "(III)V"⟩, 2), (⟨"FurnitureByFlood$Spread", "turn", "()V"⟩, 2), (⟨"FurnitureByFlood", "spreadRows", "(II)V"⟩, 11), (⟨"FurnitureByFloodModel", "readTown", "()I"⟩, 49), (⟨"FurnitureByFloodModel", "readPart", "()Z"⟩, 49), (⟨"FurnitureByFloodModel", "readHouse", "()Z"⟩, 49), (⟨"FurnitureByFloodModel", "figure", "(II)I"⟩, 49), (⟨"FurnitureByFloodModel", "hasAnyMore", "()Z"⟩, 49), (⟨"FurnitureByFloodModel", "hasMore", "(I)Z"⟩, 49), (⟨"FurnitureByFloodModel", "isTold", "(II)Z"⟩, 49), (⟨"FurnitureByFloodModel", "leftOf", "(I)I"⟩, 49), (⟨"FurnitureByFloodModel", "readStream", "()Z"⟩, 49), (⟨"FurnitureByFloodModel", "readPiece", "()Z"⟩, 49), (⟨"FurnitureByFloodModel", "noHouse", "(I)Z"⟩, 49), (⟨"FurnitureByFloodModel", "noPiece", "(I)Z"⟩, 49)]
theorem lw_r2 : ∀ q ∈ lw_privs_2, lw_okq q := List.forall_mem_cons.mpr ⟨lw_p16, List.forall_mem_cons.mpr ⟨lw_p17, List.forall_mem_cons.mpr ⟨lw_p18, List.forall_mem_cons.mpr ⟨lw_p19, List.forall_mem_cons.mpr ⟨lw_p20, List.forall_mem_cons.mpr ⟨lw_p21, List.forall_mem_cons.mpr ⟨lw_p22, List.forall_mem_cons.mpr ⟨lw_p23, List.forall_mem_cons.mpr ⟨lw_p24, List.forall_mem_cons.mpr ⟨lw_p25, List.forall_mem_cons.mpr ⟨lw_p26, List.forall_mem_cons.mpr ⟨lw_p27, List.forall_mem_cons.mpr ⟨lw_p28, List.forall_mem_cons.mpr ⟨lw_p29, List.forall_mem_cons.mpr ⟨lw_p30, List.forall_mem_cons.mpr ⟨lw_p31, fun _ h => absurd h List.not_mem_nil⟩⟩⟩⟩⟩⟩⟩⟩⟩⟩⟩⟩⟩⟩⟩⟩
theorem lw_p32 : lw_okq (⟨"FurnitureByFloodModel", "depth", "(II)I"⟩, 49) := ⟨⟨by decide +kernel, by decide +kernel⟩, List.mem_of_getElem? (i := 637) (by decide +kernel), List.mem_of_getElem? (i := 897) (by decide +kernel), List.mem_of_getElem? (i := 898) (by decide +kernel)⟩
theorem lw_p33 : lw_okq (⟨"FurnitureByFloodModel", "note", "()V"⟩, 49) := ⟨⟨by decide +kernel, by decide +kernel⟩, List.mem_of_getElem? (i := 637) (by decide +kernel), List.mem_of_getElem? (i := 905) (by decide +kernel), List.mem_of_getElem? (i := 906) (by decide +kernel)⟩
theorem lw_p34 : lw_okq (⟨"FurnitureByFloodModel", "layPage", "([II)V"⟩, 49) := ⟨⟨by decide +kernel, by decide +kernel⟩, List.mem_of_getElem? (i := 637) (by decide +kernel), List.mem_of_getElem? (i := 909) (by decide +kernel), List.mem_of_getElem? (i := 910) (by decide +kernel)⟩
theorem lw_p35 : lw_okq (⟨"FurnitureByFloodModel", "begin", "()V"⟩, 49) := ⟨⟨by decide +kernel, by decide +kernel⟩, List.mem_of_getElem? (i := 637) (by decide +kernel), List.mem_of_getElem? (i := 913) (by decide +kernel), List.mem_of_getElem? (i := 914) (by decide +kernel)⟩
theorem lw_p36 : lw_okq (⟨"FurnitureByFloodModel", "goHour", "(I)I"⟩, 49) := ⟨⟨by decide +kernel, by decide +kernel⟩, List.mem_of_getElem? (i := 637) (by decide +kernel), List.mem_of_getElem? (i := 917) (by decide +kernel), List.mem_of_getElem? (i := 918) (by decide +kernel)⟩
theorem lw_p37 : lw_okq (⟨"FurnitureByFloodModel", "strongest", "(I)I"⟩, 49) := ⟨⟨by decide +kernel, by decide +kernel⟩, List.mem_of_getElem? (i := 637) (by decide +kernel), List.mem_of_getElem? (i := 921) (by decide +kernel), List.mem_of_getElem? (i := 922) (by decide +kernel)⟩
theorem lw_p38 : lw_okq (⟨"FurnitureByFloodModel", "takePage", "([II)V"⟩, 49) := ⟨⟨by decide +kernel, by decide +kernel⟩, List.mem_of_getElem? (i := 637) (by decide +kernel), List.mem_of_getElem? (i := 937) (by decide +kernel), List.mem_of_getElem? (i := 938) (by decide +kernel)⟩
theorem lw_p39 : lw_okq (⟨"FurnitureByFloodModel", "goHours", "(II)V"⟩, 49) := ⟨⟨by decide +kernel, by decide +kernel⟩, List.mem_of_getElem? (i := 637) (by decide +kernel), List.mem_of_getElem? (i := 948) (by decide +kernel), List.mem_of_getElem? (i := 949) (by decide +kernel)⟩
theorem lw_p40 : lw_okq (⟨"FurnitureByFloodModel", "findTies", "(III)I"⟩, 49) := ⟨⟨by decide +kernel, by decide +kernel⟩, List.mem_of_getElem? (i := 637) (by decide +kernel), List.mem_of_getElem? (i := 956) (by decide +kernel), List.mem_of_getElem? (i := 957) (by decide +kernel)⟩
theorem lw_p41 : lw_okq (⟨"FurnitureByFloodModel", "widthIn", "(III)I"⟩, 49) := ⟨⟨by decide +kernel, by decide +kernel⟩, List.mem_of_getElem? (i := 637) (by decide +kernel), List.mem_of_getElem? (i := 971) (by decide +kernel), List.mem_of_getElem? (i := 972) (by decide +kernel)⟩
theorem lw_p42 : lw_okq (⟨"FurnitureByFloodModel", "layRows", "(II)V"⟩, 49) := ⟨⟨by decide +kernel, by decide +kernel⟩, List.mem_of_getElem? (i := 637) (by decide +kernel), List.mem_of_getElem? (i := 1001) (by decide +kernel), List.mem_of_getElem? (i := 1002) (by decide +kernel)⟩
theorem lw_p43 : lw_okq (⟨"FurnitureByFloodModel", "isMarked", "(II)Z"⟩, 49) := ⟨⟨by decide +kernel, by decide +kernel⟩, List.mem_of_getElem? (i := 637) (by decide +kernel), List.mem_of_getElem? (i := 1005) (by decide +kernel), List.mem_of_getElem? (i := 1006) (by decide +kernel)⟩
def lw_privs_3 : List (MethodName × Nat) := [(⟨"FurnitureByFloodModel", "depth", "(II)I"⟩, 49), (⟨"FurnitureByFloodModel", "note", "()V"⟩, 49), (⟨"FurnitureByFloodModel", "layPage", "([II)V"⟩, 49), (⟨"FurnitureByFloodModel", "begin", "()V"⟩, 49), (⟨"FurnitureByFloodModel", "goHour", "(I)I"⟩, 49), (⟨"FurnitureByFloodModel", "strongest", "(I)I"⟩, 49), (⟨"FurnitureByFloodModel", "takePage", "([II)V"⟩, 49), (⟨"FurnitureByFloodModel", "goHours", "(II)V"⟩, 49), (⟨"FurnitureByFloodModel", "findTies", "(III)I"⟩, 49), (⟨"FurnitureByFloodModel", "widthIn", "(III)I"⟩, 49), (⟨"FurnitureByFloodModel", "layRows", "(II)V"⟩, 49), (⟨"FurnitureByFloodModel", "isMarked", "(II)Z"⟩, 49)]
theorem lw_r3 : ∀ q ∈ lw_privs_3, lw_okq q := List.forall_mem_cons.mpr ⟨lw_p32, List.forall_mem_cons.mpr ⟨lw_p33, List.forall_mem_cons.mpr ⟨lw_p34, List.forall_mem_cons.mpr ⟨lw_p35, List.forall_mem_cons.mpr ⟨lw_p36, List.forall_mem_cons.mpr ⟨lw_p37, List.forall_mem_cons.mpr ⟨lw_p38, List.forall_mem_cons.mpr ⟨lw_p39, List.forall_mem_cons.mpr ⟨lw_p40, List.forall_mem_cons.mpr ⟨lw_p41, List.forall_mem_cons.mpr ⟨lw_p42, List.forall_mem_cons.mpr ⟨lw_p43, fun _ h => absurd h List.not_mem_nil⟩⟩⟩⟩⟩⟩⟩⟩⟩⟩⟩⟩
def lw_privs : List (MethodName × Nat) := lw_privs_1 ++ (lw_privs_2 ++ (lw_privs_3))
def lw_tbl : List Cond := k2_sels lw_privs ++ tables_1
theorem lw_privs_ok : ∀ q ∈ lw_privs, lw_okq q := by
  show ∀ q ∈ lw_privs_1 ++ (lw_privs_2 ++ (lw_privs_3)), lw_okq q
  exact List.forall_mem_append.mpr ⟨lw_r1, List.forall_mem_append.mpr ⟨lw_r2, lw_r3⟩⟩
end
section
/-! ===== BEGIN words of one list among another's, by their places ===== -/
theorem goodIn_r {big : List Cond} (ws : List Cond) (ps : List Nat) (hp : ws = ps.filterMap (fun i => big[i]?)) (h : ws.all goodWord = true) : GoodIn big ws := by
  intro w hw
  have h1 := List.all_eq_true.mp h w hw
  rw [hp] at hw
  obtain ⟨i, -, hi⟩ := List.mem_filterMap.mp hw
  have hm : w ∈ big := by first | exact List.mem_of_getElem? hi | exact List.getElem?_mem hi
  exact ⟨hm, good_of_word h1⟩
theorem goodIn_app {big a b : List Cond} (ha : GoodIn big a) (hb : GoodIn big b) : GoodIn big (a ++ b) := fun w h => (List.mem_append.mp h).elim (ha w) (hb w)
theorem goodIn_ca {big a b : List Cond} {c : Cond} (ha : GoodIn big (c :: a)) (hb : GoodIn big b) : GoodIn big (c :: (a ++ b)) := fun w h => (List.mem_cons.mp h).elim (fun e => ha w (List.mem_cons.mpr (Or.inl e))) (fun h => (List.mem_append.mp h).elim (fun h => ha w (List.mem_cons.mpr (Or.inr h))) (hb w))
theorem goodIn_sub {big ws : List Cond} (hm : ∀ w ∈ ws, w ∈ big) (h : ws.all goodWord = true) : GoodIn big ws := fun w hw => ⟨hm w hw, good_of_word (List.all_eq_true.mp h w hw)⟩
/-! ===== END ===== -/


/-! ===== BEGIN printed: names, fields, word lists, decode rows ===== -/
def RX0 : String := "FurnitureByFlood$Acts"
def TX0 : u_T := fun k => match k with
  | 0 => ("FurnitureByFlood$Acts", "ahead", "[LFurnitureByFlood$Stand;", true)
  | 1 => ("FurnitureByFlood$Acts", "first", "I", false)
  | _ => ("FurnitureByFlood$Acts", "count", "I", false)
def tyX0 : Nat → FieldType := fun k => match k with
  | 0 => .array (.object "FurnitureByFlood$Stand")
  | 1 => .int
  | _ => .int
abbrev wsX00 : List Cond := u_ws RX0 TX0 3
theorem nmX0 : ∀ a, a < 3 → ∀ b, b < 3 → a ≠ b → (TX0 a).2.1 ≠ (TX0 b).2.1 := by decide +kernel
theorem tyX0_ok : ∀ k, k < 3 → parseFieldDescriptor (TX0 k).2.2.1 = some (tyX0 k) := by decide +kernel
abbrev cX0_init : ByteArray := prog_2_method_1_code
def yX0_init : MethodName := ⟨RX0, "<init>", "()V"⟩
abbrev cX0_forgetAll : ByteArray := prog_2_method_2_code
def yX0_forgetAll : MethodName := ⟨RX0, "forgetAll", "()V"⟩
abbrev cX0_remember : ByteArray := prog_2_method_3_code
def yX0_remember : MethodName := ⟨RX0, "remember", "(LFurnitureByFlood$Stand;)V"⟩
abbrev cX0_takeBack : ByteArray := prog_2_method_4_code
def yX0_takeBack : MethodName := ⟨RX0, "takeBack", "(LFurnitureByFlood$Stand;)V"⟩
def RX1 : String := "FurnitureByFlood$Letters"
def TX1 : u_T := fun k => match k with
  | 0 => ("FurnitureByFlood$Letters", "bytes", "[I", true)
  | _ => ("FurnitureByFlood$Letters", "length", "I", false)
def tyX1 : Nat → FieldType := fun k => match k with
  | 0 => .array .int
  | _ => .int
abbrev wsX10 : List Cond := u_ws RX1 TX1 2
theorem nmX1 : ∀ a, a < 2 → ∀ b, b < 2 → a ≠ b → (TX1 a).2.1 ≠ (TX1 b).2.1 := by decide +kernel
theorem tyX1_ok : ∀ k, k < 2 → parseFieldDescriptor (TX1 k).2.2.1 = some (tyX1 k) := by decide +kernel
abbrev cX1_init : ByteArray := prog_3_method_1_code
def yX1_init : MethodName := ⟨RX1, "<init>", "()V"⟩
abbrev cX1_append : ByteArray := prog_3_method_2_code
def yX1_append : MethodName := ⟨RX1, "append", "(IJ)V"⟩
def RX2 : String := "FurnitureByFlood$Marks"
def TX2 : u_T := fun k => match k with
  | 0 => ("FurnitureByFlood$Marks", "atSpring", "[I", true)
  | 1 => ("FurnitureByFlood$Marks", "inHouse", "[I", true)
  | _ => ("FurnitureByFlood$Marks", "count", "I", false)
def tyX2 : Nat → FieldType := fun k => match k with
  | 0 => .array .int
  | 1 => .array .int
  | _ => .int
abbrev wsX20 : List Cond := u_ws RX2 TX2 3
theorem nmX2 : ∀ a, a < 3 → ∀ b, b < 3 → a ≠ b → (TX2 a).2.1 ≠ (TX2 b).2.1 := by decide +kernel
theorem tyX2_ok : ∀ k, k < 3 → parseFieldDescriptor (TX2 k).2.2.1 = some (tyX2 k) := by decide +kernel
abbrev cX2_init : ByteArray := prog_4_method_1_code
def yX2_init : MethodName := ⟨RX2, "<init>", "()V"⟩
abbrev cX2_add : ByteArray := prog_4_method_2_code
def yX2_add : MethodName := ⟨RX2, "add", "(II)V"⟩
abbrev cX2_hold : ByteArray := prog_4_method_3_code
def yX2_hold : MethodName := ⟨RX2, "hold", "(II)Z"⟩
def RX3 : String := "FurnitureByFlood$Plan"
def TX3 : u_T := fun k => match k with
  | 0 => ("FurnitureByFlood$Plan", "houses", "I", false)
  | 1 => ("FurnitureByFlood$Plan", "streams", "I", false)
  | 2 => ("FurnitureByFlood$Plan", "pieces", "I", false)
  | 3 => ("FurnitureByFlood$Plan", "height", "[I", true)
  | 4 => ("FurnitureByFlood$Plan", "door", "[I", true)
  | 5 => ("FurnitureByFlood$Plan", "from", "[I", true)
  | 6 => ("FurnitureByFlood$Plan", "to", "[I", true)
  | 7 => ("FurnitureByFlood$Plan", "tenths", "[I", true)
  | 8 => ("FurnitureByFlood$Plan", "home", "[I", true)
  | 9 => ("FurnitureByFlood$Plan", "width", "[I", true)
  | 10 => ("FurnitureByFlood$Plan", "floatDepth", "[I", true)
  | _ => ("FurnitureByFlood$Plan", "toldTie", "[I", true)
def tyX3 : Nat → FieldType := fun k => match k with
  | 0 => .int
  | 1 => .int
  | 2 => .int
  | 3 => .array .int
  | 4 => .array .int
  | 5 => .array .int
  | 6 => .array .int
  | 7 => .array .int
  | 8 => .array .int
  | 9 => .array .int
  | 10 => .array .int
  | _ => .array .int
abbrev wsX30 : List Cond := u_ws RX3 TX3 12
theorem nmX3 : ∀ a, a < 12 → ∀ b, b < 12 → a ≠ b → (TX3 a).2.1 ≠ (TX3 b).2.1 := by decide +kernel
theorem tyX3_ok : ∀ k, k < 12 → parseFieldDescriptor (TX3 k).2.2.1 = some (tyX3 k) := by decide +kernel
abbrev cX3_init : ByteArray := prog_5_method_1_code
def yX3_init : MethodName := ⟨RX3, "<init>", "()V"⟩
abbrev cX3_clear : ByteArray := prog_5_method_2_code
def yX3_clear : MethodName := ⟨RX3, "clear", "()V"⟩
abbrev cX3_addHouse : ByteArray := prog_5_method_3_code
def yX3_addHouse : MethodName := ⟨RX3, "addHouse", "(II)V"⟩
abbrev cX3_addStream : ByteArray := prog_5_method_4_code
def yX3_addStream : MethodName := ⟨RX3, "addStream", "(III)V"⟩
abbrev cX3_addPiece : ByteArray := prog_5_method_5_code
def yX3_addPiece : MethodName := ⟨RX3, "addPiece", "(IIII)V"⟩
abbrev cX3_tenthsLeftFrom : ByteArray := prog_5_method_6_code
def yX3_tenthsLeftFrom : MethodName := ⟨RX3, "tenthsLeftFrom", "(I)I"⟩
abbrev cX3_canJoin : ByteArray := prog_5_method_7_code
def yX3_canJoin : MethodName := ⟨RX3, "canJoin", "(II)Z"⟩
abbrev cX3_canLeave : ByteArray := prog_5_method_8_code
def yX3_canLeave : MethodName := ⟨RX3, "canLeave", "(I)Z"⟩
abbrev cX3_canHaveStream : ByteArray := prog_5_method_9_code
def yX3_canHaveStream : MethodName := ⟨RX3, "canHaveStream", "()Z"⟩
abbrev cX3_waterIn : ByteArray := prog_5_method_10_code
def yX3_waterIn : MethodName := ⟨RX3, "waterIn", "(II)I"⟩
def RX4 : String := "FurnitureByFlood$Reader"
def TX4 : u_T := fun k => match k with
  | 0 => ("FurnitureByFlood$Reader", "part", "[I", true)
  | _ => ("FurnitureByFlood$Reader", "come", "I", false)
def tyX4 : Nat → FieldType := fun k => match k with
  | 0 => .array .int
  | _ => .int
abbrev wsX40 : List Cond := u_ws RX4 TX4 2
theorem nmX4 : ∀ a, a < 2 → ∀ b, b < 2 → a ≠ b → (TX4 a).2.1 ≠ (TX4 b).2.1 := by decide +kernel
theorem tyX4_ok : ∀ k, k < 2 → parseFieldDescriptor (TX4 k).2.2.1 = some (tyX4 k) := by decide +kernel
abbrev cX4_init : ByteArray := prog_6_method_1_code
def yX4_init : MethodName := ⟨RX4, "<init>", "()V"⟩
abbrev cX4_firstFault : ByteArray := prog_6_method_2_code
def yX4_firstFault : MethodName := ⟨RX4, "firstFault", "(LFurnitureByFlood$Letters;LFurnitureByFlood$Plan;)I"⟩
abbrev cX4_takes : ByteArray := prog_6_method_3_code
def yX4_takes : MethodName := ⟨RX4, "takes", "(ILFurnitureByFlood$Plan;)Z"⟩
abbrev cX4_canBegin : ByteArray := prog_6_method_4_code
def yX4_canBegin : MethodName := ⟨RX4, "canBegin", "(ILFurnitureByFlood$Plan;)Z"⟩
abbrev cX4_canGoOn : ByteArray := prog_6_method_5_code
def yX4_canGoOn : MethodName := ⟨RX4, "canGoOn", "(ILFurnitureByFlood$Plan;)Z"⟩
abbrev cX4_canGoOnWithStream : ByteArray := prog_6_method_6_code
def yX4_canGoOnWithStream : MethodName := ⟨RX4, "canGoOnWithStream", "(ILFurnitureByFlood$Plan;)Z"⟩
abbrev cX4_canGoOnWithPiece : ByteArray := prog_6_method_7_code
def yX4_canGoOnWithPiece : MethodName := ⟨RX4, "canGoOnWithPiece", "(ILFurnitureByFlood$Plan;)Z"⟩
abbrev cX4_lengthOfPart : ByteArray := prog_6_method_8_code
def yX4_lengthOfPart : MethodName := ⟨RX4, "lengthOfPart", "()I"⟩
abbrev cX4_addPart : ByteArray := prog_6_method_9_code
def yX4_addPart : MethodName := ⟨RX4, "addPart", "(LFurnitureByFlood$Plan;)V"⟩
def RX5 : String := "FurnitureByFlood$Spread"
def TX5 : u_T := fun k => match k with
  | 0 => ("FurnitureByFlood$Spread", "ways", "[J", false)
  | _ => ("FurnitureByFlood$Spread", "next", "[J", false)
def tyX5 : Nat → FieldType := fun k => match k with
  | 0 => .array .long
  | _ => .array .long
abbrev wsX50 : List Cond := u_ws RX5 TX5 2
theorem nmX5 : ∀ a, a < 2 → ∀ b, b < 2 → a ≠ b → (TX5 a).2.1 ≠ (TX5 b).2.1 := by decide +kernel
theorem tyX5_ok : ∀ k, k < 2 → parseFieldDescriptor (TX5 k).2.2.1 = some (tyX5 k) := by decide +kernel
abbrev cX5_init : ByteArray := prog_7_method_1_code
def yX5_init : MethodName := ⟨RX5, "<init>", "()V"⟩
abbrev cX5_begin : ByteArray := prog_7_method_2_code
def yX5_begin : MethodName := ⟨RX5, "begin", "(I)V"⟩
abbrev cX5_drawHour : ByteArray := prog_7_method_3_code
def yX5_drawHour : MethodName := ⟨RX5, "drawHour", "(LFurnitureByFlood$Plan;[ZII)V"⟩
abbrev cX5_move : ByteArray := prog_7_method_4_code
def yX5_move : MethodName := ⟨RX5, "move", "(III)V"⟩
abbrev cX5_drawSpring : ByteArray := prog_7_method_5_code
def yX5_drawSpring : MethodName := ⟨RX5, "drawSpring", "(LFurnitureByFlood$Plan;)V"⟩
abbrev cX5_turn : ByteArray := prog_7_method_6_code
def yX5_turn : MethodName := ⟨RX5, "turn", "()V"⟩
abbrev cX5_holdTo : ByteArray := prog_7_method_7_code
def yX5_holdTo : MethodName := ⟨RX5, "holdTo", "(LFurnitureByFlood$Marks;I)V"⟩
def RX6 : String := "FurnitureByFlood$Stand"
def TX6 : u_T := fun k => match k with
  | 0 => ("FurnitureByFlood$Stand", "springs", "I", false)
  | 1 => ("FurnitureByFlood$Stand", "at", "[I", true)
  | 2 => ("FurnitureByFlood$Stand", "tied", "[I", true)
  | 3 => ("FurnitureByFlood$Stand", "lastOwner", "[I", true)
  | 4 => ("FurnitureByFlood$Stand", "ownersTold", "[I", true)
  | 5 => ("FurnitureByFlood$Stand", "owners", "[[I", true)
  | _ => ("FurnitureByFlood$Stand", "isShut", "[Z", true)
def tyX6 : Nat → FieldType := fun k => match k with
  | 0 => .int
  | 1 => .array .int
  | 2 => .array .int
  | 3 => .array .int
  | 4 => .array .int
  | 5 => .array (.array .int)
  | _ => .array .boolean
abbrev wsX60 : List Cond := u_ws RX6 TX6 7
theorem nmX6 : ∀ a, a < 7 → ∀ b, b < 7 → a ≠ b → (TX6 a).2.1 ≠ (TX6 b).2.1 := by decide +kernel
theorem tyX6_ok : ∀ k, k < 7 → parseFieldDescriptor (TX6 k).2.2.1 = some (tyX6 k) := by decide +kernel
abbrev cX6_init : ByteArray := prog_8_method_1_code
def yX6_init : MethodName := ⟨RX6, "<init>", "()V"⟩
abbrev cX6_begin : ByteArray := prog_8_method_2_code
def yX6_begin : MethodName := ⟨RX6, "begin", "(LFurnitureByFlood$Plan;)V"⟩
abbrev cX6_takePlacesAndTies : ByteArray := prog_8_method_3_code
def yX6_takePlacesAndTies : MethodName := ⟨RX6, "takePlacesAndTies", "([I[I)V"⟩
abbrev cX6_takeAllButShut : ByteArray := prog_8_method_4_code
def yX6_takeAllButShut : MethodName := ⟨RX6, "takeAllButShut", "(LFurnitureByFlood$Stand;)V"⟩
abbrev cX6_takeAll : ByteArray := prog_8_method_5_code
def yX6_takeAll : MethodName := ⟨RX6, "takeAll", "(LFurnitureByFlood$Stand;)V"⟩
abbrev cX6_passSpring : ByteArray := prog_8_method_6_code
def yX6_passSpring : MethodName := ⟨RX6, "passSpring", "(I)I"⟩
abbrev cX6_addOwner : ByteArray := prog_8_method_7_code
def yX6_addOwner : MethodName := ⟨RX6, "addOwner", "(II)V"⟩
abbrev cX6_countNotAtHome : ByteArray := prog_8_method_8_code
def yX6_countNotAtHome : MethodName := ⟨RX6, "countNotAtHome", "(LFurnitureByFlood$Plan;)I"⟩
abbrev cX6_countNotOwnedByHome : ByteArray := prog_8_method_9_code
def yX6_countNotOwnedByHome : MethodName := ⟨RX6, "countNotOwnedByHome", "(LFurnitureByFlood$Plan;)I"⟩
abbrev cX6_countUnlike : ByteArray := prog_8_method_10_code
def yX6_countUnlike : MethodName := ⟨RX6, "countUnlike", "([I[II)I"⟩
def RX7 : String := "FurnitureByFlood$Trial"
def TX7 : u_T := fun k => match k with
  | 0 => ("FurnitureByFlood$Trial", "at", "[I", true)
  | 1 => ("FurnitureByFlood$Trial", "tied", "[I", true)
  | 2 => ("FurnitureByFlood$Trial", "strongest", "[I", true)
  | 3 => ("FurnitureByFlood$Trial", "through", "[I", true)
  | 4 => ("FurnitureByFlood$Trial", "went", "I", false)
  | _ => ("FurnitureByFlood$Trial", "jammed", "I", false)
def tyX7 : Nat → FieldType := fun k => match k with
  | 0 => .array .int
  | 1 => .array .int
  | 2 => .array .int
  | 3 => .array .int
  | 4 => .int
  | _ => .int
abbrev wsX70 : List Cond := u_ws RX7 TX7 6
theorem nmX7 : ∀ a, a < 6 → ∀ b, b < 6 → a ≠ b → (TX7 a).2.1 ≠ (TX7 b).2.1 := by decide +kernel
theorem tyX7_ok : ∀ k, k < 6 → parseFieldDescriptor (TX7 k).2.2.1 = some (tyX7 k) := by decide +kernel
abbrev cX7_init : ByteArray := prog_9_method_1_code
def yX7_init : MethodName := ⟨RX7, "<init>", "()V"⟩
abbrev cX7_begin : ByteArray := prog_9_method_2_code
def yX7_begin : MethodName := ⟨RX7, "begin", "(LFurnitureByFlood$Plan;LFurnitureByFlood$Stand;I)V"⟩
abbrev cX7_weigh : ByteArray := prog_9_method_3_code
def yX7_weigh : MethodName := ⟨RX7, "weigh", "(LFurnitureByFlood$Plan;I)V"⟩
abbrev cX7_passHours : ByteArray := prog_9_method_4_code
def yX7_passHours : MethodName := ⟨RX7, "passHours", "(LFurnitureByFlood$Plan;II)V"⟩
abbrev cX7_passHour : ByteArray := prog_9_method_5_code
def yX7_passHour : MethodName := ⟨RX7, "passHour", "(LFurnitureByFlood$Plan;I)V"⟩
abbrev cX7_isLoose : ByteArray := prog_9_method_6_code
def yX7_isLoose : MethodName := ⟨RX7, "isLoose", "(LFurnitureByFlood$Plan;II)Z"⟩
abbrev cX7_letGo : ByteArray := prog_9_method_7_code
def yX7_letGo : MethodName := ⟨RX7, "letGo", "(IIILFurnitureByFlood$Plan;)V"⟩
def RX8 : String := "FurnitureByFlood"
def TX8 : u_T := fun k => match k with
  | 0 => ("FurnitureByFlood", "letters", "LFurnitureByFlood$Letters;", true)
  | 1 => ("FurnitureByFlood", "reader", "LFurnitureByFlood$Reader;", true)
  | 2 => ("FurnitureByFlood", "acts", "LFurnitureByFlood$Acts;", true)
  | 3 => ("FurnitureByFlood", "marks", "LFurnitureByFlood$Marks;", true)
  | 4 => ("FurnitureByFlood", "trial", "LFurnitureByFlood$Trial;", true)
  | 5 => ("FurnitureByFlood", "spread", "LFurnitureByFlood$Spread;", true)
  | 6 => ("FurnitureByFlood", "now", "LFurnitureByFlood$Stand;", true)
  | 7 => ("FurnitureByFlood", "kept", "[LFurnitureByFlood$Stand;", true)
  | 8 => ("FurnitureByFlood", "isKept", "[Z", true)
  | 9 => ("FurnitureByFlood", "plan", "LFurnitureByFlood$Plan;", false)
  | _ => ("FurnitureByFlood", "draft", "LFurnitureByFlood$Plan;", false)
def tyX8 : Nat → FieldType := fun k => match k with
  | 0 => .object "FurnitureByFlood$Letters"
  | 1 => .object "FurnitureByFlood$Reader"
  | 2 => .object "FurnitureByFlood$Acts"
  | 3 => .object "FurnitureByFlood$Marks"
  | 4 => .object "FurnitureByFlood$Trial"
  | 5 => .object "FurnitureByFlood$Spread"
  | 6 => .object "FurnitureByFlood$Stand"
  | 7 => .array (.object "FurnitureByFlood$Stand")
  | 8 => .array .boolean
  | 9 => .object "FurnitureByFlood$Plan"
  | _ => .object "FurnitureByFlood$Plan"
abbrev wsX80 : List Cond := u_ws RX8 TX8 11
theorem nmX8 : ∀ a, a < 11 → ∀ b, b < 11 → a ≠ b → (TX8 a).2.1 ≠ (TX8 b).2.1 := by decide +kernel
theorem tyX8_ok : ∀ k, k < 11 → parseFieldDescriptor (TX8 k).2.2.1 = some (tyX8 k) := by decide +kernel
abbrev cX8_init : ByteArray := prog_1_method_1_code
def yX8_init : MethodName := ⟨RX8, "<init>", "()V"⟩
abbrev cX8_write : ByteArray := prog_1_method_2_code
def yX8_write : MethodName := ⟨RX8, "write", "(IJ)I"⟩
abbrev cX8_wipe : ByteArray := prog_1_method_3_code
def yX8_wipe : MethodName := ⟨RX8, "wipe", "()I"⟩
abbrev cX8_fault : ByteArray := prog_1_method_4_code
def yX8_fault : MethodName := ⟨RX8, "fault", "()I"⟩
abbrev cX8_town : ByteArray := prog_1_method_5_code
def yX8_town : MethodName := ⟨RX8, "town", "()I"⟩
abbrev cX8_about : ByteArray := prog_1_method_6_code
def yX8_about : MethodName := ⟨RX8, "about", "(I)I"⟩
abbrev cX8_house : ByteArray := prog_1_method_7_code
def yX8_house : MethodName := ⟨RX8, "house", "(II)I"⟩
abbrev cX8_stream : ByteArray := prog_1_method_8_code
def yX8_stream : MethodName := ⟨RX8, "stream", "(II)I"⟩
abbrev cX8_piece : ByteArray := prog_1_method_9_code
def yX8_piece : MethodName := ⟨RX8, "piece", "(II)I"⟩
abbrev cX8_owner : ByteArray := prog_1_method_10_code
def yX8_owner : MethodName := ⟨RX8, "owner", "(II)I"⟩
abbrev cX8_tie : ByteArray := prog_1_method_11_code
def yX8_tie : MethodName := ⟨RX8, "tie", "(II)I"⟩
abbrev cX8_carry : ByteArray := prog_1_method_12_code
def yX8_carry : MethodName := ⟨RX8, "carry", "(II)I"⟩
abbrev cX8_shut : ByteArray := prog_1_method_13_code
def yX8_shut : MethodName := ⟨RX8, "shut", "(IZ)I"⟩
abbrev cX8_deep : ByteArray := prog_1_method_14_code
def yX8_deep : MethodName := ⟨RX8, "deep", "(II)I"⟩
abbrev cX8_hour : ByteArray := prog_1_method_15_code
def yX8_hour : MethodName := ⟨RX8, "hour", "(I)I"⟩
abbrev cX8_jams : ByteArray := prog_1_method_16_code
def yX8_jams : MethodName := ⟨RX8, "jams", "(I)I"⟩
abbrev cX8_spring : ByteArray := prog_1_method_17_code
def yX8_spring : MethodName := ⟨RX8, "spring", "()I"⟩
abbrev cX8_undo : ByteArray := prog_1_method_18_code
def yX8_undo : MethodName := ⟨RX8, "undo", "()I"⟩
abbrev cX8_after : ByteArray := prog_1_method_19_code
def yX8_after : MethodName := ⟨RX8, "after", "(III)I"⟩
abbrev cX8_ties : ByteArray := prog_1_method_20_code
def yX8_ties : MethodName := ⟨RX8, "ties", "(IIIZ)I"⟩
abbrev cX8_dowry : ByteArray := prog_1_method_21_code
def yX8_dowry : MethodName := ⟨RX8, "dowry", "(IIII)I"⟩
abbrev cX8_toShut : ByteArray := prog_1_method_22_code
def yX8_toShut : MethodName := ⟨RX8, "toShut", "(III)I"⟩
abbrev cX8_drawn : ByteArray := prog_1_method_23_code
def yX8_drawn : MethodName := ⟨RX8, "drawn", "(IIIIZ)J"⟩
abbrev cX8_goesFrom : ByteArray := prog_1_method_24_code
def yX8_goesFrom : MethodName := ⟨RX8, "goesFrom", "(I)I"⟩
abbrev cX8_mark : ByteArray := prog_1_method_25_code
def yX8_mark : MethodName := ⟨RX8, "mark", "(II)I"⟩
abbrev cX8_unmark : ByteArray := prog_1_method_26_code
def yX8_unmark : MethodName := ⟨RX8, "unmark", "()I"⟩
abbrev cX8_rows : ByteArray := prog_1_method_27_code
def yX8_rows : MethodName := ⟨RX8, "rows", "(II)J"⟩
abbrev cX8_ends : ByteArray := prog_1_method_28_code
def yX8_ends : MethodName := ⟨RX8, "ends", "(II)I"⟩
abbrev cX8_keep : ByteArray := prog_1_method_29_code
def yX8_keep : MethodName := ⟨RX8, "keep", "(I)I"⟩
abbrev cX8_again : ByteArray := prog_1_method_30_code
def yX8_again : MethodName := ⟨RX8, "again", "(I)I"⟩
abbrev cX8_isHouse : ByteArray := prog_1_method_31_code
def yX8_isHouse : MethodName := ⟨RX8, "isHouse", "(I)Z"⟩
abbrev cX8_isStream : ByteArray := prog_1_method_32_code
def yX8_isStream : MethodName := ⟨RX8, "isStream", "(I)Z"⟩
abbrev cX8_isPiece : ByteArray := prog_1_method_33_code
def yX8_isPiece : MethodName := ⟨RX8, "isPiece", "(I)Z"⟩
abbrev cX8_arePieces : ByteArray := prog_1_method_34_code
def yX8_arePieces : MethodName := ⟨RX8, "arePieces", "(I)Z"⟩
abbrev cX8_isLevel : ByteArray := prog_1_method_35_code
def yX8_isLevel : MethodName := ⟨RX8, "isLevel", "(I)Z"⟩
abbrev cX8_areHours : ByteArray := prog_1_method_36_code
def yX8_areHours : MethodName := ⟨RX8, "areHours", "(I)Z"⟩
abbrev cX8_areSprings : ByteArray := prog_1_method_37_code
def yX8_areSprings : MethodName := ⟨RX8, "areSprings", "(I)Z"⟩
abbrev cX8_piecesIn : ByteArray := prog_1_method_38_code
def yX8_piecesIn : MethodName := ⟨RX8, "piecesIn", "(I)I"⟩
abbrev cX8_widthOf : ByteArray := prog_1_method_39_code
def yX8_widthOf : MethodName := ⟨RX8, "widthOf", "([II)I"⟩
abbrev cX8_tieAll : ByteArray := prog_1_method_40_code
def yX8_tieAll : MethodName := ⟨RX8, "tieAll", "(II)I"⟩
abbrev cX8_areWhereTheyWere : ByteArray := prog_1_method_41_code
def yX8_areWhereTheyWere : MethodName := ⟨RX8, "areWhereTheyWere", "(I)Z"⟩
abbrev cX8_spreadRows : ByteArray := prog_1_method_42_code
def yX8_spreadRows : MethodName := ⟨RX8, "spreadRows", "(II)V"⟩
abbrev cX8_commonPower : ByteArray := prog_1_method_43_code
def yX8_commonPower : MethodName := ⟨RX8, "commonPower", "(JJI)J"⟩
def RX9 : String := "FurnitureByFloodModel"
def TX9 : u_T := fun k => match k with
  | 0 => ("FurnitureByFloodModel", "thrown", "I", false)
  | 1 => ("FurnitureByFloodModel", "text", "[I", true)
  | 2 => ("FurnitureByFloodModel", "textSize", "I", false)
  | 3 => ("FurnitureByFloodModel", "place", "I", false)
  | 4 => ("FurnitureByFloodModel", "houses", "I", false)
  | 5 => ("FurnitureByFloodModel", "streams", "I", false)
  | 6 => ("FurnitureByFloodModel", "pieces", "I", false)
  | 7 => ("FurnitureByFloodModel", "height", "[I", true)
  | 8 => ("FurnitureByFloodModel", "door", "[I", true)
  | 9 => ("FurnitureByFloodModel", "from", "[I", true)
  | 10 => ("FurnitureByFloodModel", "to", "[I", true)
  | 11 => ("FurnitureByFloodModel", "tenths", "[I", true)
  | 12 => ("FurnitureByFloodModel", "shut", "[Z", true)
  | 13 => ("FurnitureByFloodModel", "home", "[I", true)
  | 14 => ("FurnitureByFloodModel", "wide", "[I", true)
  | 15 => ("FurnitureByFloodModel", "floats", "[I", true)
  | 16 => ("FurnitureByFloodModel", "where", "[I", true)
  | 17 => ("FurnitureByFloodModel", "tied", "[I", true)
  | 18 => ("FurnitureByFloodModel", "owners", "[I", true)
  | 19 => ("FurnitureByFloodModel", "ownerMany", "[I", true)
  | 20 => ("FurnitureByFloodModel", "ownerNow", "[I", true)
  | 21 => ("FurnitureByFloodModel", "springs", "I", false)
  | 22 => ("FurnitureByFloodModel", "readHouses", "I", false)
  | 23 => ("FurnitureByFloodModel", "readStreams", "I", false)
  | 24 => ("FurnitureByFloodModel", "readPieces", "I", false)
  | 25 => ("FurnitureByFloodModel", "readHeight", "[I", true)
  | 26 => ("FurnitureByFloodModel", "readDoor", "[I", true)
  | 27 => ("FurnitureByFloodModel", "readFrom", "[I", true)
  | 28 => ("FurnitureByFloodModel", "readTo", "[I", true)
  | 29 => ("FurnitureByFloodModel", "readTenths", "[I", true)
  | 30 => ("FurnitureByFloodModel", "readHome", "[I", true)
  | 31 => ("FurnitureByFloodModel", "readWide", "[I", true)
  | 32 => ("FurnitureByFloodModel", "readFloats", "[I", true)
  | 33 => ("FurnitureByFloodModel", "readTied", "[I", true)
  | 34 => ("FurnitureByFloodModel", "book", "[I", true)
  | 35 => ("FurnitureByFloodModel", "acts", "I", false)
  | 36 => ("FurnitureByFloodModel", "kept", "[I", true)
  | 37 => ("FurnitureByFloodModel", "keptShut", "[Z", true)
  | 38 => ("FurnitureByFloodModel", "isKept", "[Z", true)
  | 39 => ("FurnitureByFloodModel", "at", "[I", true)
  | 40 => ("FurnitureByFloodModel", "tie", "[I", true)
  | 41 => ("FurnitureByFloodModel", "through", "[I", true)
  | 42 => ("FurnitureByFloodModel", "jammed", "I", false)
  | 43 => ("FurnitureByFloodModel", "marks", "I", false)
  | 44 => ("FurnitureByFloodModel", "markSpring", "[I", true)
  | 45 => ("FurnitureByFloodModel", "markHouse", "[I", true)
  | 46 => ("FurnitureByFloodModel", "chance", "[J", true)
  | 47 => ("FurnitureByFloodModel", "then", "[J", true)
  | _ => ("FurnitureByFloodModel", "costSet", "I", false)
def tyX9 : Nat → FieldType := fun k => match k with
  | 0 => .int
  | 1 => .array .int
  | 2 => .int
  | 3 => .int
  | 4 => .int
  | 5 => .int
  | 6 => .int
  | 7 => .array .int
  | 8 => .array .int
  | 9 => .array .int
  | 10 => .array .int
  | 11 => .array .int
  | 12 => .array .boolean
  | 13 => .array .int
  | 14 => .array .int
  | 15 => .array .int
  | 16 => .array .int
  | 17 => .array .int
  | 18 => .array .int
  | 19 => .array .int
  | 20 => .array .int
  | 21 => .int
  | 22 => .int
  | 23 => .int
  | 24 => .int
  | 25 => .array .int
  | 26 => .array .int
  | 27 => .array .int
  | 28 => .array .int
  | 29 => .array .int
  | 30 => .array .int
  | 31 => .array .int
  | 32 => .array .int
  | 33 => .array .int
  | 34 => .array .int
  | 35 => .int
  | 36 => .array .int
  | 37 => .array .boolean
  | 38 => .array .boolean
  | 39 => .array .int
  | 40 => .array .int
  | 41 => .array .int
  | 42 => .int
  | 43 => .int
  | 44 => .array .int
  | 45 => .array .int
  | 46 => .array .long
  | 47 => .array .long
  | _ => .int
abbrev wsX90 : List Cond := u_ws RX9 TX9 49
theorem nmX9 : ∀ a, a < 49 → ∀ b, b < 49 → a ≠ b → (TX9 a).2.1 ≠ (TX9 b).2.1 := by decide +kernel
theorem tyX9_ok : ∀ k, k < 49 → parseFieldDescriptor (TX9 k).2.2.1 = some (tyX9 k) := by decide +kernel
abbrev cX9_init : ByteArray := prog_11_method_1_code
def yX9_init : MethodName := ⟨RX9, "<init>", "()V"⟩
abbrev cX9_in : ByteArray := prog_11_method_3_code
def yX9_in : MethodName := ⟨RX9, "in", "(JJJ)Z"⟩
abbrev cX9_has : ByteArray := prog_11_method_4_code
def yX9_has : MethodName := ⟨RX9, "has", "(II)Z"⟩
abbrev cX9_noHouse : ByteArray := prog_11_method_5_code
def yX9_noHouse : MethodName := ⟨RX9, "noHouse", "(I)Z"⟩
abbrev cX9_noPiece : ByteArray := prog_11_method_6_code
def yX9_noPiece : MethodName := ⟨RX9, "noPiece", "(I)Z"⟩
abbrev cX9_noFlood : ByteArray := prog_11_method_7_code
def yX9_noFlood : MethodName := ⟨RX9, "noFlood", "(II)Z"⟩
abbrev cX9_write : ByteArray := prog_11_method_8_code
def yX9_write : MethodName := ⟨RX9, "write", "(IJ)I"⟩
abbrev cX9_wipe : ByteArray := prog_11_method_9_code
def yX9_wipe : MethodName := ⟨RX9, "wipe", "()I"⟩
abbrev cX9_figure : ByteArray := prog_11_method_10_code
def yX9_figure : MethodName := ⟨RX9, "figure", "(II)I"⟩
abbrev cX9_readHouse : ByteArray := prog_11_method_11_code
def yX9_readHouse : MethodName := ⟨RX9, "readHouse", "()Z"⟩
abbrev cX9_leftOf : ByteArray := prog_11_method_12_code
def yX9_leftOf : MethodName := ⟨RX9, "leftOf", "(I)I"⟩
abbrev cX9_isTold : ByteArray := prog_11_method_13_code
def yX9_isTold : MethodName := ⟨RX9, "isTold", "(II)Z"⟩
abbrev cX9_hasMore : ByteArray := prog_11_method_14_code
def yX9_hasMore : MethodName := ⟨RX9, "hasMore", "(I)Z"⟩
abbrev cX9_hasAnyMore : ByteArray := prog_11_method_15_code
def yX9_hasAnyMore : MethodName := ⟨RX9, "hasAnyMore", "()Z"⟩
abbrev cX9_readStream : ByteArray := prog_11_method_16_code
def yX9_readStream : MethodName := ⟨RX9, "readStream", "()Z"⟩
abbrev cX9_readPiece : ByteArray := prog_11_method_17_code
def yX9_readPiece : MethodName := ⟨RX9, "readPiece", "()Z"⟩
abbrev cX9_readPart : ByteArray := prog_11_method_18_code
def yX9_readPart : MethodName := ⟨RX9, "readPart", "()Z"⟩
abbrev cX9_readTown : ByteArray := prog_11_method_19_code
def yX9_readTown : MethodName := ⟨RX9, "readTown", "()I"⟩
abbrev cX9_fault : ByteArray := prog_11_method_20_code
def yX9_fault : MethodName := ⟨RX9, "fault", "()I"⟩
abbrev cX9_town : ByteArray := prog_11_method_21_code
def yX9_town : MethodName := ⟨RX9, "town", "()I"⟩
abbrev cX9_about : ByteArray := prog_11_method_22_code
def yX9_about : MethodName := ⟨RX9, "about", "(I)I"⟩
abbrev cX9_house : ByteArray := prog_11_method_23_code
def yX9_house : MethodName := ⟨RX9, "house", "(II)I"⟩
abbrev cX9_stream : ByteArray := prog_11_method_24_code
def yX9_stream : MethodName := ⟨RX9, "stream", "(II)I"⟩
abbrev cX9_piece : ByteArray := prog_11_method_25_code
def yX9_piece : MethodName := ⟨RX9, "piece", "(II)I"⟩
abbrev cX9_owner : ByteArray := prog_11_method_26_code
def yX9_owner : MethodName := ⟨RX9, "owner", "(II)I"⟩
abbrev cX9_tie : ByteArray := prog_11_method_27_code
def yX9_tie : MethodName := ⟨RX9, "tie", "(II)I"⟩
abbrev cX9_carry : ByteArray := prog_11_method_28_code
def yX9_carry : MethodName := ⟨RX9, "carry", "(II)I"⟩
abbrev cX9_shut : ByteArray := prog_11_method_29_code
def yX9_shut : MethodName := ⟨RX9, "shut", "(IZ)I"⟩
abbrev cX9_depth : ByteArray := prog_11_method_30_code
def yX9_depth : MethodName := ⟨RX9, "depth", "(II)I"⟩
abbrev cX9_deep : ByteArray := prog_11_method_31_code
def yX9_deep : MethodName := ⟨RX9, "deep", "(II)I"⟩
abbrev cX9_strongest : ByteArray := prog_11_method_32_code
def yX9_strongest : MethodName := ⟨RX9, "strongest", "(I)I"⟩
abbrev cX9_begin : ByteArray := prog_11_method_33_code
def yX9_begin : MethodName := ⟨RX9, "begin", "()V"⟩
abbrev cX9_goHour : ByteArray := prog_11_method_34_code
def yX9_goHour : MethodName := ⟨RX9, "goHour", "(I)I"⟩
abbrev cX9_goHours : ByteArray := prog_11_method_35_code
def yX9_goHours : MethodName := ⟨RX9, "goHours", "(II)V"⟩
abbrev cX9_layPage : ByteArray := prog_11_method_36_code
def yX9_layPage : MethodName := ⟨RX9, "layPage", "([II)V"⟩
abbrev cX9_takePage : ByteArray := prog_11_method_37_code
def yX9_takePage : MethodName := ⟨RX9, "takePage", "([II)V"⟩
abbrev cX9_note : ByteArray := prog_11_method_38_code
def yX9_note : MethodName := ⟨RX9, "note", "()V"⟩
abbrev cX9_hour : ByteArray := prog_11_method_39_code
def yX9_hour : MethodName := ⟨RX9, "hour", "(I)I"⟩
abbrev cX9_jams : ByteArray := prog_11_method_40_code
def yX9_jams : MethodName := ⟨RX9, "jams", "(I)I"⟩
abbrev cX9_spring : ByteArray := prog_11_method_41_code
def yX9_spring : MethodName := ⟨RX9, "spring", "()I"⟩
abbrev cX9_undo : ByteArray := prog_11_method_42_code
def yX9_undo : MethodName := ⟨RX9, "undo", "()I"⟩
abbrev cX9_after : ByteArray := prog_11_method_43_code
def yX9_after : MethodName := ⟨RX9, "after", "(III)I"⟩
abbrev cX9_findTies : ByteArray := prog_11_method_44_code
def yX9_findTies : MethodName := ⟨RX9, "findTies", "(III)I"⟩
abbrev cX9_ties : ByteArray := prog_11_method_45_code
def yX9_ties : MethodName := ⟨RX9, "ties", "(IIIZ)I"⟩
abbrev cX9_dowry : ByteArray := prog_11_method_46_code
def yX9_dowry : MethodName := ⟨RX9, "dowry", "(IIII)I"⟩
abbrev cX9_widthIn : ByteArray := prog_11_method_47_code
def yX9_widthIn : MethodName := ⟨RX9, "widthIn", "(III)I"⟩
abbrev cX9_toShut : ByteArray := prog_11_method_48_code
def yX9_toShut : MethodName := ⟨RX9, "toShut", "(III)I"⟩
abbrev cX9_divisor : ByteArray := prog_11_method_49_code
def yX9_divisor : MethodName := ⟨RX9, "divisor", "(JJ)J"⟩
abbrev cX9_drawn : ByteArray := prog_11_method_50_code
def yX9_drawn : MethodName := ⟨RX9, "drawn", "(IIIIZ)J"⟩
abbrev cX9_goesFrom : ByteArray := prog_11_method_51_code
def yX9_goesFrom : MethodName := ⟨RX9, "goesFrom", "(I)I"⟩
abbrev cX9_mark : ByteArray := prog_11_method_52_code
def yX9_mark : MethodName := ⟨RX9, "mark", "(II)I"⟩
abbrev cX9_unmark : ByteArray := prog_11_method_53_code
def yX9_unmark : MethodName := ⟨RX9, "unmark", "()I"⟩
abbrev cX9_isMarked : ByteArray := prog_11_method_54_code
def yX9_isMarked : MethodName := ⟨RX9, "isMarked", "(II)Z"⟩
abbrev cX9_layRows : ByteArray := prog_11_method_55_code
def yX9_layRows : MethodName := ⟨RX9, "layRows", "(II)V"⟩
abbrev cX9_rows : ByteArray := prog_11_method_56_code
def yX9_rows : MethodName := ⟨RX9, "rows", "(II)J"⟩
abbrev cX9_ends : ByteArray := prog_11_method_57_code
def yX9_ends : MethodName := ⟨RX9, "ends", "(II)I"⟩
abbrev cX9_keep : ByteArray := prog_11_method_58_code
def yX9_keep : MethodName := ⟨RX9, "keep", "(I)I"⟩
abbrev cX9_again : ByteArray := prog_11_method_59_code
def yX9_again : MethodName := ⟨RX9, "again", "(I)I"⟩
def RJ9 : String := "java/lang/Math"
def TJ9 : u_T := fun k => match k with
  | _ => ("", "", "", false)
def tyJ9 : Nat → FieldType := fun k => match k with
  | _ => .int
abbrev wsJ90 : List Cond := u_ws RJ9 TJ9 0
theorem nmJ9 : ∀ a, a < 0 → ∀ b, b < 0 → a ≠ b → (TJ9 a).2.1 ≠ (TJ9 b).2.1 := by decide +kernel
theorem tyJ9_ok : ∀ k, k < 0 → parseFieldDescriptor (TJ9 k).2.2.1 = some (tyJ9 k) := by decide +kernel
abbrev cJ9_max_7cf53 : ByteArray := prog_12_method_65_code
def yJ9_max_7cf53 : MethodName := ⟨RJ9, "max", "(II)I"⟩
abbrev cJ9_min_7cf53 : ByteArray := prog_12_method_69_code
def yJ9_min_7cf53 : MethodName := ⟨RJ9, "min", "(II)I"⟩
def RL : String := "FurnitureByFloodLaw"
abbrev cL_law : ByteArray := code
def yL_law : MethodName := ⟨RL, "law", "([I)Z"⟩
def wsL_law_r1 : List Cond := [Cond.classLink RL 7 RX8, Cond.instantiable RX8 11, Cond.initialized RX8, Cond.classLink RL 10 RX9, Cond.instantiable RX9 49, Cond.initialized RX9, Cond.constantLong RL 13 (4294967295), Cond.methodLink RL 9 yX8_init, Cond.instanceMethod yX8_init, Cond.code yX8_init cX8_init 2 none, Cond.methodLink RX8 1 objectInit, Cond.instanceMethod objectInit, Cond.code objectInit ⟨#[0xb1]⟩ 1 none, Cond.classLink RX8 7 RX1, Cond.instantiable RX1 2, Cond.initialized RX1, Cond.fieldLink RX8 10 "FurnitureByFlood" "letters" "LFurnitureByFlood$Letters;", Cond.classLink RX8 16 RX4, Cond.instantiable RX4 2, Cond.initialized RX4, Cond.fieldLink RX8 19 "FurnitureByFlood" "reader" "LFurnitureByFlood$Reader;", Cond.classLink RX8 23 RX0, Cond.instantiable RX0 3, Cond.initialized RX0]
def wsL_law_r2 : List Cond := [Cond.fieldLink RX8 26 "FurnitureByFlood" "acts" "LFurnitureByFlood$Acts;", Cond.classLink RX8 30 RX2, Cond.instantiable RX2 3, Cond.initialized RX2, Cond.fieldLink RX8 33 "FurnitureByFlood" "marks" "LFurnitureByFlood$Marks;", Cond.classLink RX8 37 RX7, Cond.instantiable RX7 6, Cond.initialized RX7, Cond.fieldLink RX8 40 "FurnitureByFlood" "trial" "LFurnitureByFlood$Trial;", Cond.classLink RX8 44 RX5, Cond.instantiable RX5 2, Cond.initialized RX5, Cond.fieldLink RX8 47 "FurnitureByFlood" "spread" "LFurnitureByFlood$Spread;", Cond.classLink RX8 51 RX6, Cond.instantiable RX6 7, Cond.initialized RX6, Cond.fieldLink RX8 54 "FurnitureByFlood" "now" "LFurnitureByFlood$Stand;", Cond.fieldLink RX8 58 "FurnitureByFlood" "kept" "[LFurnitureByFlood$Stand;", Cond.arrayClass .boolean, Cond.fieldLink RX8 62 "FurnitureByFlood" "isKept" "[Z", Cond.classLink RX8 66 RX3, Cond.instantiable RX3 12, Cond.initialized RX3, Cond.fieldLink RX8 69 "FurnitureByFlood" "plan" "LFurnitureByFlood$Plan;"]
def wsL_law_r3 : List Cond := [Cond.fieldLink RX8 73 "FurnitureByFlood" "draft" "LFurnitureByFlood$Plan;", Cond.instanceMethod yX1_init, Cond.code yX1_init cX1_init 1 none, Cond.methodLink RX1 3 objectInit, Cond.arrayClass .int, Cond.fieldLink RX1 9 "FurnitureByFlood$Letters" "bytes" "[I", Cond.instanceMethod yX4_init, Cond.code yX4_init cX4_init 1 none, Cond.methodLink RX4 3 objectInit, Cond.fieldLink RX4 11 "FurnitureByFlood$Reader" "part" "[I", Cond.methodLink RX8 25 yX0_init, Cond.instanceMethod yX0_init, Cond.code yX0_init cX0_init 2 none, Cond.methodLink RX0 3 objectInit, Cond.classLink RX0 9 RX6, Cond.fieldLink RX0 11 "FurnitureByFlood$Acts" "ahead" "[LFurnitureByFlood$Stand;", Cond.instanceMethod yX6_init, Cond.code yX6_init cX6_init 1 none, Cond.methodLink RX6 3 objectInit, Cond.fieldLink RX6 9 "FurnitureByFlood$Stand" "at" "[I", Cond.fieldLink RX6 15 "FurnitureByFlood$Stand" "tied" "[I", Cond.fieldLink RX6 18 "FurnitureByFlood$Stand" "lastOwner" "[I", Cond.fieldLink RX6 21 "FurnitureByFlood$Stand" "ownersTold" "[I", Cond.classLink RX6 24 "[[I"]
def wsL_law_r4 : List Cond := [Cond.fieldLink RX6 26 "FurnitureByFlood$Stand" "owners" "[[I", Cond.fieldLink RX6 29 "FurnitureByFlood$Stand" "isShut" "[Z", Cond.instanceMethod yX2_init, Cond.code yX2_init cX2_init 1 none, Cond.methodLink RX2 3 objectInit, Cond.fieldLink RX2 9 "FurnitureByFlood$Marks" "atSpring" "[I", Cond.fieldLink RX2 15 "FurnitureByFlood$Marks" "inHouse" "[I", Cond.instanceMethod yX7_init, Cond.code yX7_init cX7_init 1 none, Cond.methodLink RX7 3 objectInit, Cond.fieldLink RX7 9 "FurnitureByFlood$Trial" "at" "[I", Cond.fieldLink RX7 15 "FurnitureByFlood$Trial" "tied" "[I", Cond.fieldLink RX7 18 "FurnitureByFlood$Trial" "strongest" "[I", Cond.fieldLink RX7 21 "FurnitureByFlood$Trial" "through" "[I", Cond.instanceMethod yX5_init, Cond.code yX5_init cX5_init 1 none, Cond.methodLink RX5 3 objectInit, Cond.arrayClass .long, Cond.fieldLink RX5 9 "FurnitureByFlood$Spread" "ways" "[J", Cond.fieldLink RX5 15 "FurnitureByFlood$Spread" "next" "[J", Cond.instanceMethod yX3_init, Cond.code yX3_init cX3_init 1 none, Cond.methodLink RX3 3 objectInit, Cond.fieldLink RX3 9 "FurnitureByFlood$Plan" "height" "[I"]
def wsL_law_r5 : List Cond := [Cond.fieldLink RX3 15 "FurnitureByFlood$Plan" "door" "[I", Cond.fieldLink RX3 18 "FurnitureByFlood$Plan" "from" "[I", Cond.fieldLink RX3 21 "FurnitureByFlood$Plan" "to" "[I", Cond.fieldLink RX3 24 "FurnitureByFlood$Plan" "tenths" "[I", Cond.fieldLink RX3 27 "FurnitureByFlood$Plan" "home" "[I", Cond.fieldLink RX3 30 "FurnitureByFlood$Plan" "width" "[I", Cond.fieldLink RX3 33 "FurnitureByFlood$Plan" "floatDepth" "[I", Cond.fieldLink RX3 36 "FurnitureByFlood$Plan" "toldTie" "[I", Cond.methodLink RL 12 yX9_init, Cond.instanceMethod yX9_init, Cond.code yX9_init cX9_init 1 none, Cond.methodLink RX9 1 objectInit, Cond.fieldLink RX9 7 "FurnitureByFloodModel" "text" "[I", Cond.fieldLink RX9 13 "FurnitureByFloodModel" "height" "[I", Cond.fieldLink RX9 16 "FurnitureByFloodModel" "door" "[I", Cond.fieldLink RX9 19 "FurnitureByFloodModel" "from" "[I", Cond.fieldLink RX9 22 "FurnitureByFloodModel" "to" "[I", Cond.fieldLink RX9 25 "FurnitureByFloodModel" "tenths" "[I", Cond.fieldLink RX9 28 "FurnitureByFloodModel" "shut" "[Z", Cond.fieldLink RX9 32 "FurnitureByFloodModel" "home" "[I", Cond.fieldLink RX9 35 "FurnitureByFloodModel" "wide" "[I", Cond.fieldLink RX9 38 "FurnitureByFloodModel" "floats" "[I", Cond.fieldLink RX9 41 "FurnitureByFloodModel" "where" "[I", Cond.fieldLink RX9 44 "FurnitureByFloodModel" "tied" "[I"]
def wsL_law_r6 : List Cond := [Cond.fieldLink RX9 47 "FurnitureByFloodModel" "owners" "[I", Cond.fieldLink RX9 50 "FurnitureByFloodModel" "ownerMany" "[I", Cond.fieldLink RX9 53 "FurnitureByFloodModel" "ownerNow" "[I", Cond.fieldLink RX9 56 "FurnitureByFloodModel" "readHeight" "[I", Cond.fieldLink RX9 59 "FurnitureByFloodModel" "readDoor" "[I", Cond.fieldLink RX9 62 "FurnitureByFloodModel" "readFrom" "[I", Cond.fieldLink RX9 65 "FurnitureByFloodModel" "readTo" "[I", Cond.fieldLink RX9 68 "FurnitureByFloodModel" "readTenths" "[I", Cond.fieldLink RX9 71 "FurnitureByFloodModel" "readHome" "[I", Cond.fieldLink RX9 74 "FurnitureByFloodModel" "readWide" "[I", Cond.fieldLink RX9 77 "FurnitureByFloodModel" "readFloats" "[I", Cond.fieldLink RX9 80 "FurnitureByFloodModel" "readTied" "[I", Cond.fieldLink RX9 83 "FurnitureByFloodModel" "book" "[I", Cond.fieldLink RX9 86 "FurnitureByFloodModel" "kept" "[I", Cond.fieldLink RX9 89 "FurnitureByFloodModel" "keptShut" "[Z", Cond.fieldLink RX9 92 "FurnitureByFloodModel" "isKept" "[Z", Cond.fieldLink RX9 95 "FurnitureByFloodModel" "at" "[I", Cond.fieldLink RX9 98 "FurnitureByFloodModel" "tie" "[I", Cond.fieldLink RX9 101 "FurnitureByFloodModel" "through" "[I", Cond.fieldLink RX9 104 "FurnitureByFloodModel" "markSpring" "[I", Cond.fieldLink RX9 107 "FurnitureByFloodModel" "markHouse" "[I", Cond.fieldLink RX9 110 "FurnitureByFloodModel" "chance" "[J", Cond.fieldLink RX9 114 "FurnitureByFloodModel" "then" "[J", Cond.methodLink RL 15 yX8_write]
def wsL_law_r7 : List Cond := [Cond.instanceMethod yX8_write, Cond.selects RX8 yX8_write yX8_write, Cond.code yX8_write cX8_write 4 (some .int), Cond.fieldLink RX8 76 "FurnitureByFlood$Letters" "length" "I", Cond.methodLink RX8 80 yX1_append, Cond.instanceMethod yX1_append, Cond.selects RX1 yX1_append yX1_append, Cond.code yX1_append cX1_append 5 none, Cond.fieldLink RX1 15 "FurnitureByFlood$Letters" "length" "I", Cond.methodLink RL 19 yX9_write, Cond.instanceMethod yX9_write, Cond.selects RX9 yX9_write yX9_write, Cond.code yX9_write cX9_write 5 (some .int), Cond.fieldLink RX9 117 "FurnitureByFloodModel" "thrown" "I", Cond.constantLong RX9 135 (8), Cond.fieldLink RX9 137 "FurnitureByFloodModel" "textSize" "I", Cond.methodLink RX9 124 yX9_in, Cond.static yX9_in, Cond.code yX9_in cX9_in 6 (some .boolean), Cond.methodLink RL 20 yX8_wipe, Cond.instanceMethod yX8_wipe, Cond.selects RX8 yX8_wipe yX8_wipe, Cond.code yX8_wipe cX8_wipe 2 (some .int), Cond.methodLink RL 24 yX9_wipe]
def wsL_law_r8 : List Cond := [Cond.instanceMethod yX9_wipe, Cond.selects RX9 yX9_wipe yX9_wipe, Cond.code yX9_wipe cX9_wipe 2 (some .int), Cond.methodLink RL 25 yX8_fault, Cond.instanceMethod yX8_fault, Cond.selects RX8 yX8_fault yX8_fault, Cond.code yX8_fault cX8_fault 1 (some .int), Cond.methodLink RX8 84 yX4_firstFault, Cond.instanceMethod yX4_firstFault, Cond.selects RX4 yX4_firstFault yX4_firstFault, Cond.code yX4_firstFault cX4_firstFault 4 (some .int), Cond.fieldLink RX4 20 "FurnitureByFlood$Reader" "come" "I", Cond.fieldLink RX4 24 "FurnitureByFlood$Letters" "length" "I", Cond.fieldLink RX4 29 "FurnitureByFlood$Letters" "bytes" "[I", Cond.methodLink RX4 15 yX3_clear, Cond.instanceMethod yX3_clear, Cond.selects RX3 yX3_clear yX3_clear, Cond.code yX3_clear cX3_clear 1 none, Cond.fieldLink RX3 39 "FurnitureByFlood$Plan" "houses" "I", Cond.fieldLink RX3 43 "FurnitureByFlood$Plan" "streams" "I", Cond.fieldLink RX3 46 "FurnitureByFlood$Plan" "pieces" "I", Cond.methodLink RX4 32 yX4_takes, Cond.instanceMethod yX4_takes, Cond.selects RX4 yX4_takes yX4_takes]
def wsL_law_r9 : List Cond := [Cond.code yX4_takes cX4_takes 4 (some .boolean), Cond.methodLink RX4 36 yX4_canBegin, Cond.static yX4_canBegin, Cond.code yX4_canBegin cX4_canBegin 2 (some .boolean), Cond.fieldLink RX4 50 "FurnitureByFlood$Plan" "houses" "I", Cond.fieldLink RX4 57 "FurnitureByFlood$Plan" "pieces" "I", Cond.methodLink RX4 53 yX3_canHaveStream, Cond.instanceMethod yX3_canHaveStream, Cond.selects RX3 yX3_canHaveStream yX3_canHaveStream, Cond.code yX3_canHaveStream cX3_canHaveStream 2 (some .boolean), Cond.methodLink RX3 57 yX3_canLeave, Cond.instanceMethod yX3_canLeave, Cond.selects RX3 yX3_canLeave yX3_canLeave, Cond.code yX3_canLeave cX3_canLeave 3 (some .boolean), Cond.methodLink RX3 49 yX3_tenthsLeftFrom, Cond.instanceMethod yX3_tenthsLeftFrom, Cond.selects RX3 yX3_tenthsLeftFrom yX3_tenthsLeftFrom, Cond.code yX3_tenthsLeftFrom cX3_tenthsLeftFrom 4 (some .int), Cond.methodLink RX3 53 yX3_canJoin, Cond.instanceMethod yX3_canJoin, Cond.selects RX3 yX3_canJoin yX3_canJoin, Cond.code yX3_canJoin cX3_canJoin 4 (some .boolean), Cond.methodLink RX4 39 yX4_canGoOn, Cond.instanceMethod yX4_canGoOn]
def wsL_law_r10 : List Cond := [Cond.selects RX4 yX4_canGoOn yX4_canGoOn, Cond.code yX4_canGoOn cX4_canGoOn 3 (some .boolean), Cond.methodLink RX4 60 yX4_canGoOnWithStream, Cond.instanceMethod yX4_canGoOnWithStream, Cond.selects RX4 yX4_canGoOnWithStream yX4_canGoOnWithStream, Cond.code yX4_canGoOnWithStream cX4_canGoOnWithStream 3 (some .boolean), Cond.methodLink RX4 66 yX3_canLeave, Cond.methodLink RX4 70 yX3_canJoin, Cond.methodLink RX4 74 yX3_tenthsLeftFrom, Cond.methodLink RX4 63 yX4_canGoOnWithPiece, Cond.instanceMethod yX4_canGoOnWithPiece, Cond.selects RX4 yX4_canGoOnWithPiece yX4_canGoOnWithPiece, Cond.code yX4_canGoOnWithPiece cX4_canGoOnWithPiece 3 (some .boolean), Cond.methodLink RX4 42 yX4_lengthOfPart, Cond.instanceMethod yX4_lengthOfPart, Cond.selects RX4 yX4_lengthOfPart yX4_lengthOfPart, Cond.code yX4_lengthOfPart cX4_lengthOfPart 1 (some .int), Cond.methodLink RX4 46 yX4_addPart, Cond.instanceMethod yX4_addPart, Cond.selects RX4 yX4_addPart yX4_addPart, Cond.code yX4_addPart cX4_addPart 2 none, Cond.methodLink RX4 78 yX3_addHouse, Cond.instanceMethod yX3_addHouse, Cond.selects RX3 yX3_addHouse yX3_addHouse]
def wsL_law_r11 : List Cond := [Cond.code yX3_addHouse cX3_addHouse 3 none, Cond.methodLink RX4 82 yX3_addStream, Cond.instanceMethod yX3_addStream, Cond.selects RX3 yX3_addStream yX3_addStream, Cond.code yX3_addStream cX3_addStream 4 none, Cond.methodLink RX4 86 yX3_addPiece, Cond.instanceMethod yX3_addPiece, Cond.selects RX3 yX3_addPiece yX3_addPiece, Cond.code yX3_addPiece cX3_addPiece 5 none, Cond.methodLink RL 28 yX9_fault, Cond.instanceMethod yX9_fault, Cond.selects RX9 yX9_fault yX9_fault, Cond.code yX9_fault cX9_fault 1 (some .int), Cond.methodLink RX9 184 yX9_readTown, Cond.instanceMethod yX9_readTown, Cond.selects RX9 yX9_readTown yX9_readTown, Cond.code yX9_readTown cX9_readTown 1 (some .int), Cond.fieldLink RX9 140 "FurnitureByFloodModel" "place" "I", Cond.fieldLink RX9 147 "FurnitureByFloodModel" "readHouses" "I", Cond.fieldLink RX9 150 "FurnitureByFloodModel" "readStreams" "I", Cond.fieldLink RX9 165 "FurnitureByFloodModel" "readPieces" "I", Cond.methodLink RX9 181 yX9_readPart, Cond.instanceMethod yX9_readPart, Cond.selects RX9 yX9_readPart yX9_readPart]
def wsL_law_r12 : List Cond := [Cond.code yX9_readPart cX9_readPart 2 (some .boolean), Cond.methodLink RX9 168 yX9_readHouse, Cond.instanceMethod yX9_readHouse, Cond.selects RX9 yX9_readHouse yX9_readHouse, Cond.code yX9_readHouse cX9_readHouse 3 (some .boolean), Cond.methodLink RX9 143 yX9_figure, Cond.instanceMethod yX9_figure, Cond.selects RX9 yX9_figure yX9_figure, Cond.code yX9_figure cX9_figure 3 (some .int), Cond.methodLink RX9 172 yX9_hasAnyMore, Cond.instanceMethod yX9_hasAnyMore, Cond.selects RX9 yX9_hasAnyMore yX9_hasAnyMore, Cond.code yX9_hasAnyMore cX9_hasAnyMore 3 (some .boolean), Cond.methodLink RX9 161 yX9_hasMore, Cond.instanceMethod yX9_hasMore, Cond.selects RX9 yX9_hasMore yX9_hasMore, Cond.code yX9_hasMore cX9_hasMore 4 (some .boolean), Cond.methodLink RX9 153 yX9_isTold, Cond.instanceMethod yX9_isTold, Cond.selects RX9 yX9_isTold yX9_isTold, Cond.code yX9_isTold cX9_isTold 5 (some .boolean), Cond.methodLink RX9 157 yX9_leftOf, Cond.instanceMethod yX9_leftOf, Cond.selects RX9 yX9_leftOf yX9_leftOf]
def wsL_law_r13 : List Cond := [Cond.code yX9_leftOf cX9_leftOf 4 (some .int), Cond.methodLink RX9 175 yX9_readStream, Cond.instanceMethod yX9_readStream, Cond.selects RX9 yX9_readStream yX9_readStream, Cond.code yX9_readStream cX9_readStream 5 (some .boolean), Cond.methodLink RX9 178 yX9_readPiece, Cond.instanceMethod yX9_readPiece, Cond.selects RX9 yX9_readPiece yX9_readPiece, Cond.code yX9_readPiece cX9_readPiece 5 (some .boolean), Cond.methodLink RL 29 yX8_town, Cond.instanceMethod yX8_town, Cond.selects RX8 yX8_town yX8_town, Cond.code yX8_town cX8_town 3 (some .int), Cond.fieldLink RX8 95 "FurnitureByFlood$Plan" "houses" "I", Cond.methodLink RX8 88 yX6_begin, Cond.instanceMethod yX6_begin, Cond.selects RX6 yX6_begin yX6_begin, Cond.code yX6_begin cX6_begin 4 none, Cond.fieldLink RX6 33 "FurnitureByFlood$Stand" "springs" "I", Cond.fieldLink RX6 37 "FurnitureByFlood$Plan" "pieces" "I", Cond.fieldLink RX6 42 "FurnitureByFlood$Plan" "home" "[I", Cond.fieldLink RX6 45 "FurnitureByFlood$Plan" "toldTie" "[I", Cond.methodLink RX8 92 yX0_forgetAll, Cond.instanceMethod yX0_forgetAll]
def wsL_law_r14 : List Cond := [Cond.selects RX0 yX0_forgetAll yX0_forgetAll, Cond.code yX0_forgetAll cX0_forgetAll 1 none, Cond.fieldLink RX0 18 "FurnitureByFlood$Acts" "count" "I", Cond.methodLink RL 32 yX9_town, Cond.instanceMethod yX9_town, Cond.selects RX9 yX9_town yX9_town, Cond.code yX9_town cX9_town 2 (some .int), Cond.fieldLink RX9 121 "FurnitureByFloodModel" "houses" "I", Cond.fieldLink RX9 188 "FurnitureByFloodModel" "streams" "I", Cond.fieldLink RX9 128 "FurnitureByFloodModel" "pieces" "I", Cond.fieldLink RX9 191 "FurnitureByFloodModel" "springs" "I", Cond.fieldLink RX9 194 "FurnitureByFloodModel" "acts" "I", Cond.methodLink RL 33 yX8_about, Cond.instanceMethod yX8_about, Cond.selects RX8 yX8_about yX8_about, Cond.code yX8_about cX8_about 2 (some .int), Cond.fieldLink RX8 98 "FurnitureByFlood$Plan" "streams" "I", Cond.fieldLink RX8 101 "FurnitureByFlood$Plan" "pieces" "I", Cond.fieldLink RX8 104 "FurnitureByFlood$Stand" "springs" "I", Cond.fieldLink RX8 107 "FurnitureByFlood$Acts" "count" "I", Cond.fieldLink RX8 117 "FurnitureByFlood$Marks" "count" "I", Cond.methodLink RX8 110 yX6_countNotAtHome, Cond.instanceMethod yX6_countNotAtHome, Cond.selects RX6 yX6_countNotAtHome yX6_countNotAtHome]
def wsL_law_r15 : List Cond := [Cond.code yX6_countNotAtHome cX6_countNotAtHome 2 (some .int), Cond.methodLink RX6 60 yX6_countUnlike, Cond.static yX6_countUnlike, Cond.code yX6_countUnlike cX6_countUnlike 5 (some .int), Cond.methodLink RX8 114 yX6_countNotOwnedByHome, Cond.instanceMethod yX6_countNotOwnedByHome, Cond.selects RX6 yX6_countNotOwnedByHome yX6_countNotOwnedByHome, Cond.code yX6_countNotOwnedByHome cX6_countNotOwnedByHome 2 (some .int), Cond.methodLink RL 37 yX9_about, Cond.instanceMethod yX9_about, Cond.selects RX9 yX9_about yX9_about, Cond.code yX9_about cX9_about 5 (some .int), Cond.fieldLink RX9 197 "FurnitureByFloodModel" "marks" "I", Cond.methodLink RL 38 yX8_house, Cond.instanceMethod yX8_house, Cond.selects RX8 yX8_house yX8_house, Cond.code yX8_house cX8_house 3 (some .int), Cond.fieldLink RX8 122 "FurnitureByFlood$Plan" "height" "[I", Cond.fieldLink RX8 126 "FurnitureByFlood$Plan" "door" "[I", Cond.fieldLink RX8 133 "FurnitureByFlood$Stand" "at" "[I", Cond.methodLink RX8 118 yX8_isHouse, Cond.instanceMethod yX8_isHouse, Cond.selects RX8 yX8_isHouse yX8_isHouse, Cond.code yX8_isHouse cX8_isHouse 2 (some .boolean)]
def wsL_law_r16 : List Cond := [Cond.methodLink RX8 129 yX8_piecesIn, Cond.instanceMethod yX8_piecesIn, Cond.selects RX8 yX8_piecesIn yX8_piecesIn, Cond.code yX8_piecesIn cX8_piecesIn 4 (some .int), Cond.methodLink RX8 136 yX8_widthOf, Cond.instanceMethod yX8_widthOf, Cond.selects RX8 yX8_widthOf yX8_widthOf, Cond.code yX8_widthOf cX8_widthOf 5 (some .int), Cond.fieldLink RX8 158 "FurnitureByFlood$Plan" "width" "[I", Cond.methodLink RL 42 yX9_house, Cond.instanceMethod yX9_house, Cond.selects RX9 yX9_house yX9_house, Cond.code yX9_house cX9_house 6 (some .int), Cond.methodLink RX9 200 yX9_noHouse, Cond.instanceMethod yX9_noHouse, Cond.selects RX9 yX9_noHouse yX9_noHouse, Cond.code yX9_noHouse cX9_noHouse 2 (some .boolean), Cond.methodLink RL 43 yX8_stream, Cond.instanceMethod yX8_stream, Cond.selects RX8 yX8_stream yX8_stream, Cond.code yX8_stream cX8_stream 3 (some .int), Cond.fieldLink RX8 143 "FurnitureByFlood$Plan" "from" "[I", Cond.fieldLink RX8 146 "FurnitureByFlood$Plan" "to" "[I", Cond.fieldLink RX8 149 "FurnitureByFlood$Plan" "tenths" "[I"]
def wsL_law_r17 : List Cond := [Cond.fieldLink RX8 152 "FurnitureByFlood$Stand" "isShut" "[Z", Cond.methodLink RX8 140 yX8_isStream, Cond.instanceMethod yX8_isStream, Cond.selects RX8 yX8_isStream yX8_isStream, Cond.code yX8_isStream cX8_isStream 2 (some .boolean), Cond.methodLink RL 46 yX9_stream, Cond.instanceMethod yX9_stream, Cond.selects RX9 yX9_stream yX9_stream, Cond.code yX9_stream cX9_stream 3 (some .int), Cond.methodLink RL 47 yX8_piece, Cond.instanceMethod yX8_piece, Cond.selects RX8 yX8_piece yX8_piece, Cond.code yX8_piece cX8_piece 3 (some .int), Cond.fieldLink RX8 161 "FurnitureByFlood$Plan" "floatDepth" "[I", Cond.fieldLink RX8 164 "FurnitureByFlood$Stand" "tied" "[I", Cond.fieldLink RX8 167 "FurnitureByFlood$Plan" "home" "[I", Cond.fieldLink RX8 170 "FurnitureByFlood$Stand" "lastOwner" "[I", Cond.methodLink RX8 155 yX8_isPiece, Cond.instanceMethod yX8_isPiece, Cond.selects RX8 yX8_isPiece yX8_isPiece, Cond.code yX8_isPiece cX8_isPiece 2 (some .boolean), Cond.methodLink RL 50 yX9_piece, Cond.instanceMethod yX9_piece, Cond.selects RX9 yX9_piece yX9_piece]
def wsL_law_r18 : List Cond := [Cond.code yX9_piece cX9_piece 3 (some .int), Cond.methodLink RX9 203 yX9_noPiece, Cond.instanceMethod yX9_noPiece, Cond.selects RX9 yX9_noPiece yX9_noPiece, Cond.code yX9_noPiece cX9_noPiece 2 (some .boolean), Cond.methodLink RL 51 yX8_owner, Cond.instanceMethod yX8_owner, Cond.selects RX8 yX8_owner yX8_owner, Cond.code yX8_owner cX8_owner 3 (some .int), Cond.fieldLink RX8 173 "FurnitureByFlood$Stand" "ownersTold" "[I", Cond.fieldLink RX8 176 "FurnitureByFlood$Stand" "owners" "[[I", Cond.methodLink RL 54 yX9_owner, Cond.instanceMethod yX9_owner, Cond.selects RX9 yX9_owner yX9_owner, Cond.code yX9_owner cX9_owner 3 (some .int), Cond.methodLink RL 55 yX8_tie, Cond.instanceMethod yX8_tie, Cond.selects RX8 yX8_tie yX8_tie, Cond.code yX8_tie cX8_tie 4 (some .int), Cond.methodLink RL 58 yX9_tie, Cond.instanceMethod yX9_tie, Cond.selects RX9 yX9_tie yX9_tie, Cond.code yX9_tie cX9_tie 4 (some .int), Cond.constantLong RX9 133 (9)]
def wsL_law_r19 : List Cond := [Cond.methodLink RL 59 yX8_carry, Cond.instanceMethod yX8_carry, Cond.selects RX8 yX8_carry yX8_carry, Cond.code yX8_carry cX8_carry 4 (some .int), Cond.methodLink RL 62 yX9_carry, Cond.instanceMethod yX9_carry, Cond.selects RX9 yX9_carry yX9_carry, Cond.code yX9_carry cX9_carry 4 (some .int), Cond.methodLink RL 63 yX8_shut, Cond.instanceMethod yX8_shut, Cond.selects RX8 yX8_shut yX8_shut, Cond.code yX8_shut cX8_shut 4 (some .int), Cond.methodLink RL 67 yX9_shut, Cond.instanceMethod yX9_shut, Cond.selects RX9 yX9_shut yX9_shut, Cond.code yX9_shut cX9_shut 4 (some .int), Cond.methodLink RL 68 yX8_deep, Cond.instanceMethod yX8_deep, Cond.selects RX8 yX8_deep yX8_deep, Cond.code yX8_deep cX8_deep 3 (some .int), Cond.methodLink RX8 180 yX8_isLevel, Cond.static yX8_isLevel, Cond.code yX8_isLevel cX8_isLevel 1 (some .boolean), Cond.methodLink RX8 183 yX3_waterIn]
def wsL_law_r20 : List Cond := [Cond.instanceMethod yX3_waterIn, Cond.selects RX3 yX3_waterIn yX3_waterIn, Cond.code yX3_waterIn cX3_waterIn 3 (some .int), Cond.methodLink RX3 61 Lib.Math.max.name, Cond.static Lib.Math.max.name, Cond.initialized "java/lang/Math", Cond.code Lib.Math.max.name Lib.Math.max.code 2 (some .int), Cond.methodLink RL 71 yX9_deep, Cond.instanceMethod yX9_deep, Cond.selects RX9 yX9_deep yX9_deep, Cond.code yX9_deep cX9_deep 3 (some .int), Cond.constantLong RX9 131 (19), Cond.methodLink RX9 206 yX9_depth, Cond.instanceMethod yX9_depth, Cond.selects RX9 yX9_depth yX9_depth, Cond.code yX9_depth cX9_depth 3 (some .int), Cond.methodLink RL 72 yX8_hour, Cond.instanceMethod yX8_hour, Cond.selects RX8 yX8_hour yX8_hour, Cond.code yX8_hour cX8_hour 2 (some .int), Cond.fieldLink RX8 198 "FurnitureByFlood$Trial" "at" "[I", Cond.fieldLink RX8 199 "FurnitureByFlood$Trial" "tied" "[I", Cond.fieldLink RX8 204 "FurnitureByFlood$Trial" "went" "I", Cond.methodLink RX8 187 yX0_remember]
def wsL_law_r21 : List Cond := [Cond.instanceMethod yX0_remember, Cond.selects RX0 yX0_remember yX0_remember, Cond.code yX0_remember cX0_remember 2 none, Cond.fieldLink RX0 22 "FurnitureByFlood$Acts" "first" "I", Cond.methodLink RX0 25 yX6_takeAllButShut, Cond.instanceMethod yX6_takeAllButShut, Cond.selects RX6 yX6_takeAllButShut yX6_takeAllButShut, Cond.code yX6_takeAllButShut cX6_takeAllButShut 4 none, Cond.methodLink RX6 48 yX6_takePlacesAndTies, Cond.instanceMethod yX6_takePlacesAndTies, Cond.selects RX6 yX6_takePlacesAndTies yX6_takePlacesAndTies, Cond.code yX6_takePlacesAndTies cX6_takePlacesAndTies 4 none, Cond.methodLink RX8 191 yX7_begin, Cond.instanceMethod yX7_begin, Cond.selects RX7 yX7_begin yX7_begin, Cond.code yX7_begin cX7_begin 5 none, Cond.fieldLink RX7 24 "FurnitureByFlood$Plan" "pieces" "I", Cond.fieldLink RX7 30 "FurnitureByFlood$Stand" "at" "[I", Cond.fieldLink RX7 33 "FurnitureByFlood$Stand" "tied" "[I", Cond.fieldLink RX7 34 "FurnitureByFlood$Plan" "houses" "I", Cond.fieldLink RX7 37 "FurnitureByFlood$Plan" "streams" "I", Cond.fieldLink RX7 40 "FurnitureByFlood$Stand" "isShut" "[Z", Cond.methodLink RX7 44 yX7_weigh, Cond.instanceMethod yX7_weigh]
def wsL_law_r22 : List Cond := [Cond.selects RX7 yX7_weigh yX7_weigh, Cond.code yX7_weigh cX7_weigh 5 none, Cond.fieldLink RX7 48 "FurnitureByFlood$Plan" "from" "[I", Cond.fieldLink RX7 51 "FurnitureByFlood$Plan" "tenths" "[I", Cond.methodLink RX8 194 yX7_passHour, Cond.instanceMethod yX7_passHour, Cond.selects RX7 yX7_passHour yX7_passHour, Cond.code yX7_passHour cX7_passHour 5 none, Cond.fieldLink RX7 57 "FurnitureByFlood$Trial" "went" "I", Cond.fieldLink RX7 60 "FurnitureByFlood$Trial" "jammed" "I", Cond.fieldLink RX7 67 "FurnitureByFlood$Plan" "to" "[I", Cond.methodLink RX7 63 yX7_isLoose, Cond.instanceMethod yX7_isLoose, Cond.selects RX7 yX7_isLoose yX7_isLoose, Cond.code yX7_isLoose cX7_isLoose 5 (some .boolean), Cond.fieldLink RX7 78 "FurnitureByFlood$Plan" "floatDepth" "[I", Cond.methodLink RX7 74 yX3_waterIn, Cond.methodLink RX7 70 yX7_letGo, Cond.instanceMethod yX7_letGo, Cond.selects RX7 yX7_letGo yX7_letGo, Cond.code yX7_letGo cX7_letGo 6 none, Cond.fieldLink RX7 81 "FurnitureByFlood$Plan" "width" "[I", Cond.fieldLink RX7 84 "FurnitureByFlood$Plan" "door" "[I", Cond.methodLink RX8 200 yX6_takePlacesAndTies]
def wsL_law_r23 : List Cond := [Cond.methodLink RL 75 yX9_hour, Cond.instanceMethod yX9_hour, Cond.selects RX9 yX9_hour yX9_hour, Cond.code yX9_hour cX9_hour 4 (some .int), Cond.methodLink RX9 222 yX9_note, Cond.instanceMethod yX9_note, Cond.selects RX9 yX9_note yX9_note, Cond.code yX9_note cX9_note 2 none, Cond.methodLink RX9 218 yX9_layPage, Cond.instanceMethod yX9_layPage, Cond.selects RX9 yX9_layPage yX9_layPage, Cond.code yX9_layPage cX9_layPage 4 none, Cond.methodLink RX9 225 yX9_begin, Cond.instanceMethod yX9_begin, Cond.selects RX9 yX9_begin yX9_begin, Cond.code yX9_begin cX9_begin 2 none, Cond.methodLink RX9 215 yX9_goHour, Cond.instanceMethod yX9_goHour, Cond.selects RX9 yX9_goHour yX9_goHour, Cond.code yX9_goHour cX9_goHour 8 (some .int), Cond.fieldLink RX9 209 "FurnitureByFloodModel" "jammed" "I", Cond.methodLink RX9 212 yX9_strongest, Cond.instanceMethod yX9_strongest, Cond.selects RX9 yX9_strongest yX9_strongest]
def wsL_law_r24 : List Cond := [Cond.code yX9_strongest cX9_strongest 5 (some .int), Cond.methodLink RL 76 yX8_jams, Cond.instanceMethod yX8_jams, Cond.selects RX8 yX8_jams yX8_jams, Cond.code yX8_jams cX8_jams 2 (some .int), Cond.fieldLink RX8 207 "FurnitureByFlood$Trial" "jammed" "I", Cond.methodLink RL 79 yX9_jams, Cond.instanceMethod yX9_jams, Cond.selects RX9 yX9_jams yX9_jams, Cond.code yX9_jams cX9_jams 2 (some .int), Cond.methodLink RL 80 yX8_spring, Cond.instanceMethod yX8_spring, Cond.selects RX8 yX8_spring yX8_spring, Cond.code yX8_spring cX8_spring 1 (some .int), Cond.methodLink RX8 210 yX6_passSpring, Cond.instanceMethod yX6_passSpring, Cond.selects RX6 yX6_passSpring yX6_passSpring, Cond.code yX6_passSpring cX6_passSpring 4 (some .int), Cond.methodLink RX6 56 yX6_addOwner, Cond.instanceMethod yX6_addOwner, Cond.selects RX6 yX6_addOwner yX6_addOwner, Cond.code yX6_addOwner cX6_addOwner 4 none, Cond.methodLink RL 83 yX9_spring, Cond.instanceMethod yX9_spring]
def wsL_law_r25 : List Cond := [Cond.selects RX9 yX9_spring yX9_spring, Cond.code yX9_spring cX9_spring 3 (some .int), Cond.methodLink RL 84 yX8_undo, Cond.instanceMethod yX8_undo, Cond.selects RX8 yX8_undo yX8_undo, Cond.code yX8_undo cX8_undo 1 (some .int), Cond.methodLink RX8 213 yX0_takeBack, Cond.instanceMethod yX0_takeBack, Cond.selects RX0 yX0_takeBack yX0_takeBack, Cond.code yX0_takeBack cX0_takeBack 2 none, Cond.methodLink RL 87 yX9_undo, Cond.instanceMethod yX9_undo, Cond.selects RX9 yX9_undo yX9_undo, Cond.code yX9_undo cX9_undo 1 (some .int), Cond.methodLink RX9 228 yX9_takePage, Cond.instanceMethod yX9_takePage, Cond.selects RX9 yX9_takePage yX9_takePage, Cond.code yX9_takePage cX9_takePage 4 none, Cond.methodLink RL 88 yX8_after, Cond.instanceMethod yX8_after, Cond.selects RX8 yX8_after yX8_after, Cond.code yX8_after cX8_after 4 (some .int), Cond.methodLink RX8 216 yX8_areHours, Cond.static yX8_areHours]
def wsL_law_r26 : List Cond := [Cond.code yX8_areHours cX8_areHours 1 (some .boolean), Cond.methodLink RX8 219 yX7_passHours, Cond.instanceMethod yX7_passHours, Cond.selects RX7 yX7_passHours yX7_passHours, Cond.code yX7_passHours cX7_passHours 5 none, Cond.methodLink RX7 54 yX7_passHour, Cond.methodLink RL 92 yX9_after, Cond.instanceMethod yX9_after, Cond.selects RX9 yX9_after yX9_after, Cond.code yX9_after cX9_after 4 (some .int), Cond.methodLink RX9 231 yX9_noFlood, Cond.static yX9_noFlood, Cond.code yX9_noFlood cX9_noFlood 2 (some .boolean), Cond.methodLink RX9 234 yX9_goHours, Cond.instanceMethod yX9_goHours, Cond.selects RX9 yX9_goHours yX9_goHours, Cond.code yX9_goHours cX9_goHours 4 none, Cond.methodLink RL 93 yX8_ties, Cond.instanceMethod yX8_ties, Cond.selects RX8 yX8_ties yX8_ties, Cond.code yX8_ties cX8_ties 10 (some .int), Cond.methodLink RX8 223 yX8_arePieces, Cond.instanceMethod yX8_arePieces, Cond.selects RX8 yX8_arePieces yX8_arePieces]
def wsL_law_r27 : List Cond := [Cond.code yX8_arePieces cX8_arePieces 2 (some .boolean), Cond.methodLink RX8 226 yX8_tieAll, Cond.instanceMethod yX8_tieAll, Cond.selects RX8 yX8_tieAll yX8_tieAll, Cond.code yX8_tieAll cX8_tieAll 6 (some .int), Cond.methodLink RX8 273 Lib.Math.min.name, Cond.static Lib.Math.min.name, Cond.code Lib.Math.min.name Lib.Math.min.code 2 (some .int), Cond.methodLink RX8 229 yX8_areWhereTheyWere, Cond.instanceMethod yX8_areWhereTheyWere, Cond.selects RX8 yX8_areWhereTheyWere yX8_areWhereTheyWere, Cond.code yX8_areWhereTheyWere cX8_areWhereTheyWere 3 (some .boolean), Cond.methodLink RL 97 yX9_ties, Cond.instanceMethod yX9_ties, Cond.selects RX9 yX9_ties yX9_ties, Cond.code yX9_ties cX9_ties 6 (some .int), Cond.fieldLink RX9 241 "FurnitureByFloodModel" "costSet" "I", Cond.methodLink RX9 244 yX9_findTies, Cond.instanceMethod yX9_findTies, Cond.selects RX9 yX9_findTies yX9_findTies, Cond.code yX9_findTies cX9_findTies 9 (some .int), Cond.methodLink RX9 238 yX9_has, Cond.static yX9_has, Cond.code yX9_has cX9_has 2 (some .boolean)]
def wsL_law_r28 : List Cond := [Cond.methodLink RL 98 yX8_dowry, Cond.instanceMethod yX8_dowry, Cond.selects RX8 yX8_dowry yX8_dowry, Cond.code yX8_dowry cX8_dowry 6 (some .int), Cond.methodLink RL 102 yX9_dowry, Cond.instanceMethod yX9_dowry, Cond.selects RX9 yX9_dowry yX9_dowry, Cond.code yX9_dowry cX9_dowry 6 (some .int), Cond.methodLink RL 103 yX8_toShut, Cond.instanceMethod yX8_toShut, Cond.selects RX8 yX8_toShut yX8_toShut, Cond.code yX8_toShut cX8_toShut 8 (some .int), Cond.methodLink RL 106 yX9_toShut, Cond.instanceMethod yX9_toShut, Cond.selects RX9 yX9_toShut yX9_toShut, Cond.code yX9_toShut cX9_toShut 8 (some .int), Cond.methodLink RX9 248 yX9_widthIn, Cond.instanceMethod yX9_widthIn, Cond.selects RX9 yX9_widthIn yX9_widthIn, Cond.code yX9_widthIn cX9_widthIn 6 (some .int), Cond.methodLink RL 107 yX8_drawn, Cond.instanceMethod yX8_drawn, Cond.selects RX8 yX8_drawn yX8_drawn, Cond.code yX8_drawn cX8_drawn 12 (some .long)]
def wsL_law_r29 : List Cond := [Cond.constantLong RX8 232 (-1), Cond.constantLong RX8 234 (-2), Cond.constantLong RX8 243 (10), Cond.fieldLink RX8 245 "FurnitureByFlood$Spread" "ways" "[J", Cond.methodLink RX8 236 yX5_begin, Cond.instanceMethod yX5_begin, Cond.selects RX5 yX5_begin yX5_begin, Cond.code yX5_begin cX5_begin 3 none, Cond.methodLink RX8 239 yX5_drawHour, Cond.instanceMethod yX5_drawHour, Cond.selects RX5 yX5_drawHour yX5_drawHour, Cond.code yX5_drawHour cX5_drawHour 7 none, Cond.constantLong RX5 18 (10), Cond.fieldLink RX5 20 "FurnitureByFlood$Plan" "streams" "I", Cond.fieldLink RX5 26 "FurnitureByFlood$Plan" "from" "[I", Cond.fieldLink RX5 34 "FurnitureByFlood$Plan" "to" "[I", Cond.fieldLink RX5 37 "FurnitureByFlood$Plan" "tenths" "[I", Cond.methodLink RX5 30 yX3_waterIn, Cond.methodLink RX5 40 yX5_move, Cond.instanceMethod yX5_move, Cond.selects RX5 yX5_move yX5_move, Cond.code yX5_move cX5_move 4 none, Cond.methodLink RX5 44 yX5_turn, Cond.instanceMethod yX5_turn]
def wsL_law_r30 : List Cond := [Cond.selects RX5 yX5_turn yX5_turn, Cond.code yX5_turn cX5_turn 2 none, Cond.methodLink RX8 249 yX8_commonPower, Cond.static yX8_commonPower, Cond.code yX8_commonPower cX8_commonPower 10 (some .long), Cond.methodLink RL 111 yX9_drawn, Cond.instanceMethod yX9_drawn, Cond.selects RX9 yX9_drawn yX9_drawn, Cond.code yX9_drawn cX9_drawn 12 (some .long), Cond.constantLong RX9 251 (-1), Cond.constantLong RX9 253 (-2), Cond.constantLong RX9 255 (10), Cond.methodLink RX9 257 yX9_divisor, Cond.static yX9_divisor, Cond.code yX9_divisor cX9_divisor 10 (some .long), Cond.methodLink RL 112 yX8_goesFrom, Cond.instanceMethod yX8_goesFrom, Cond.selects RX8 yX8_goesFrom yX8_goesFrom, Cond.code yX8_goesFrom cX8_goesFrom 3 (some .int), Cond.fieldLink RX8 253 "FurnitureByFlood$Trial" "strongest" "[I", Cond.methodLink RX8 256 yX7_isLoose, Cond.methodLink RL 115 yX9_goesFrom, Cond.instanceMethod yX9_goesFrom, Cond.selects RX9 yX9_goesFrom yX9_goesFrom]
def wsL_law_r31 : List Cond := [Cond.code yX9_goesFrom cX9_goesFrom 4 (some .int), Cond.methodLink RL 116 yX8_mark, Cond.instanceMethod yX8_mark, Cond.selects RX8 yX8_mark yX8_mark, Cond.code yX8_mark cX8_mark 3 (some .int), Cond.methodLink RX8 260 yX2_add, Cond.instanceMethod yX2_add, Cond.selects RX2 yX2_add yX2_add, Cond.code yX2_add cX2_add 3 none, Cond.fieldLink RX2 18 "FurnitureByFlood$Marks" "count" "I", Cond.methodLink RL 119 yX9_mark, Cond.instanceMethod yX9_mark, Cond.selects RX9 yX9_mark yX9_mark, Cond.code yX9_mark cX9_mark 3 (some .int), Cond.methodLink RL 120 yX8_unmark, Cond.instanceMethod yX8_unmark, Cond.selects RX8 yX8_unmark yX8_unmark, Cond.code yX8_unmark cX8_unmark 2 (some .int), Cond.methodLink RL 123 yX9_unmark, Cond.instanceMethod yX9_unmark, Cond.selects RX9 yX9_unmark yX9_unmark, Cond.code yX9_unmark cX9_unmark 2 (some .int), Cond.methodLink RL 124 yX8_rows, Cond.instanceMethod yX8_rows]
def wsL_law_r32 : List Cond := [Cond.selects RX8 yX8_rows yX8_rows, Cond.code yX8_rows cX8_rows 6 (some .long), Cond.methodLink RX8 264 yX8_areSprings, Cond.static yX8_areSprings, Cond.code yX8_areSprings cX8_areSprings 1 (some .boolean), Cond.methodLink RX8 267 yX8_spreadRows, Cond.instanceMethod yX8_spreadRows, Cond.selects RX8 yX8_spreadRows yX8_spreadRows, Cond.code yX8_spreadRows cX8_spreadRows 4 none, Cond.methodLink RX8 278 yX5_drawSpring, Cond.instanceMethod yX5_drawSpring, Cond.selects RX5 yX5_drawSpring yX5_drawSpring, Cond.code yX5_drawSpring cX5_drawSpring 3 none, Cond.methodLink RX8 281 yX5_holdTo, Cond.instanceMethod yX5_holdTo, Cond.selects RX5 yX5_holdTo yX5_holdTo, Cond.code yX5_holdTo cX5_holdTo 4 none, Cond.methodLink RX5 47 yX2_hold, Cond.instanceMethod yX2_hold, Cond.selects RX2 yX2_hold yX2_hold, Cond.code yX2_hold cX2_hold 4 (some .boolean), Cond.methodLink RL 128 yX9_rows, Cond.instanceMethod yX9_rows, Cond.selects RX9 yX9_rows yX9_rows]
def wsL_law_r33 : List Cond := [Cond.code yX9_rows cX9_rows 6 (some .long), Cond.methodLink RX9 264 yX9_layRows, Cond.instanceMethod yX9_layRows, Cond.selects RX9 yX9_layRows yX9_layRows, Cond.code yX9_layRows cX9_layRows 5 none, Cond.methodLink RX9 261 yX9_isMarked, Cond.instanceMethod yX9_isMarked, Cond.selects RX9 yX9_isMarked yX9_isMarked, Cond.code yX9_isMarked cX9_isMarked 5 (some .boolean), Cond.methodLink RL 129 yX8_ends, Cond.instanceMethod yX8_ends, Cond.selects RX8 yX8_ends yX8_ends, Cond.code yX8_ends cX8_ends 5 (some .int), Cond.methodLink RL 132 yX9_ends, Cond.instanceMethod yX9_ends, Cond.selects RX9 yX9_ends yX9_ends, Cond.code yX9_ends cX9_ends 5 (some .int), Cond.methodLink RL 133 yX8_keep, Cond.instanceMethod yX8_keep, Cond.selects RX8 yX8_keep yX8_keep, Cond.code yX8_keep cX8_keep 2 (some .int), Cond.methodLink RX8 270 yX6_takeAll, Cond.instanceMethod yX6_takeAll, Cond.selects RX6 yX6_takeAll yX6_takeAll]
def wsL_law_r34 : List Cond := [Cond.code yX6_takeAll cX6_takeAll 3 none, Cond.methodLink RX6 52 yX6_takeAllButShut, Cond.methodLink RL 136 yX9_keep, Cond.instanceMethod yX9_keep, Cond.selects RX9 yX9_keep yX9_keep, Cond.code yX9_keep cX9_keep 3 (some .int), Cond.methodLink RL 137 yX8_again, Cond.instanceMethod yX8_again, Cond.selects RX8 yX8_again yX8_again, Cond.code yX8_again cX8_again 2 (some .int), Cond.methodLink RL 140 yX9_again, Cond.instanceMethod yX9_again, Cond.selects RX9 yX9_again yX9_again, Cond.code yX9_again cX9_again 3 (some .int)]
def wsL_law : List Cond := (wsL_law_r1 ++ (wsL_law_r2 ++ (wsL_law_r3 ++ (wsL_law_r4 ++ (wsL_law_r5 ++ (wsL_law_r6 ++ (wsL_law_r7 ++ (wsL_law_r8 ++ (wsL_law_r9 ++ (wsL_law_r10 ++ (wsL_law_r11 ++ (wsL_law_r12 ++ (wsL_law_r13 ++ (wsL_law_r14 ++ (wsL_law_r15 ++ (wsL_law_r16 ++ (wsL_law_r17 ++ (wsL_law_r18 ++ (wsL_law_r19 ++ (wsL_law_r20 ++ (wsL_law_r21 ++ (wsL_law_r22 ++ (wsL_law_r23 ++ (wsL_law_r24 ++ (wsL_law_r25 ++ (wsL_law_r26 ++ (wsL_law_r27 ++ (wsL_law_r28 ++ (wsL_law_r29 ++ (wsL_law_r30 ++ (wsL_law_r31 ++ (wsL_law_r32 ++ (wsL_law_r33 ++ wsL_law_r34))))))))))))))))))))))))))))))))) ++ wsX80 ++ wsX90 ++ wsX10 ++ wsX40 ++ wsX00 ++ wsX20 ++ wsX70 ++ wsX50 ++ wsX60 ++ wsX30 ++ ([] : List Cond)
theorem inlX0 : ∀ w ∈ wsX00, w ∈ wsL_law := fun _ h => List.mem_append_left _ (List.mem_append_left _ (List.mem_append_left _ (List.mem_append_left _ (List.mem_append_left _ (List.mem_append_left _ (List.mem_append_right _ h))))))
theorem inlX1 : ∀ w ∈ wsX10, w ∈ wsL_law := fun _ h => List.mem_append_left _ (List.mem_append_left _ (List.mem_append_left _ (List.mem_append_left _ (List.mem_append_left _ (List.mem_append_left _ (List.mem_append_left _ (List.mem_append_left _ (List.mem_append_right _ h))))))))
theorem inlX2 : ∀ w ∈ wsX20, w ∈ wsL_law := fun _ h => List.mem_append_left _ (List.mem_append_left _ (List.mem_append_left _ (List.mem_append_left _ (List.mem_append_left _ (List.mem_append_right _ h)))))
theorem inlX3 : ∀ w ∈ wsX30, w ∈ wsL_law := fun _ h => List.mem_append_left _ (List.mem_append_right _ h)
theorem inlX4 : ∀ w ∈ wsX40, w ∈ wsL_law := fun _ h => List.mem_append_left _ (List.mem_append_left _ (List.mem_append_left _ (List.mem_append_left _ (List.mem_append_left _ (List.mem_append_left _ (List.mem_append_left _ (List.mem_append_right _ h)))))))
theorem inlX5 : ∀ w ∈ wsX50, w ∈ wsL_law := fun _ h => List.mem_append_left _ (List.mem_append_left _ (List.mem_append_left _ (List.mem_append_right _ h)))
theorem inlX6 : ∀ w ∈ wsX60, w ∈ wsL_law := fun _ h => List.mem_append_left _ (List.mem_append_left _ (List.mem_append_right _ h))
theorem inlX7 : ∀ w ∈ wsX70, w ∈ wsL_law := fun _ h => List.mem_append_left _ (List.mem_append_left _ (List.mem_append_left _ (List.mem_append_left _ (List.mem_append_right _ h))))
theorem inlX8 : ∀ w ∈ wsX80, w ∈ wsL_law := fun _ h => List.mem_append_left _ (List.mem_append_left _ (List.mem_append_left _ (List.mem_append_left _ (List.mem_append_left _ (List.mem_append_left _ (List.mem_append_left _ (List.mem_append_left _ (List.mem_append_left _ (List.mem_append_left _ (List.mem_append_right _ h))))))))))
theorem inlX9 : ∀ w ∈ wsX90, w ∈ wsL_law := fun _ h => List.mem_append_left _ (List.mem_append_left _ (List.mem_append_left _ (List.mem_append_left _ (List.mem_append_left _ (List.mem_append_left _ (List.mem_append_left _ (List.mem_append_left _ (List.mem_append_left _ (List.mem_append_right _ h)))))))))
abbrev vwCl : List vw_C := [(RX0, TX0, 3), (RX1, TX1, 2), (RX2, TX2, 3), (RX3, TX3, 12), (RX4, TX4, 2), (RX5, TX5, 2), (RX6, TX6, 7), (RX7, TX7, 6), (RX8, TX8, 11), (RX9, TX9, 49)]
end
section
/-! THE MEMORY OF A WORLD: cells by number; each cell a row of ints (M.1), of longs (M.2.1), of cells' numbers (M.2.2: the fields that change) -/
abbrev fz_M : Type := (Nat → Nat → Int32) × (Nat → Nat → Int64) × (Nat → Nat → Nat)
/-- an array's element -/
def fz_g (M : fz_M) (c : Nat) (i : Int32) : Int32 := M.1 c i.toNatClampNeg
def fz_gl (M : fz_M) (c : Nat) (i : Int32) : Int64 := M.2.1 c i.toNatClampNeg
/-- an object's field -/
def fz_f (M : fz_M) (c j : Nat) : Int32 := M.1 c j
def fz_d (M : fz_M) (c j : Nat) : Nat := M.2.2 c j
def fz_u1 {α : Type} (f : Nat → Nat → α) (c i : Nat) (v : α) : Nat → Nat → α := fun d j => if d = c then (if j = i then v else f c j) else f d j
def fz_s (M : fz_M) (c : Nat) (i : Int32) (v : Int32) : fz_M := (fz_u1 M.1 c i.toNatClampNeg v, M.2.1, M.2.2)
def fz_sl (M : fz_M) (c : Nat) (i : Int32) (v : Int64) : fz_M := (M.1, fz_u1 M.2.1 c i.toNatClampNeg v, M.2.2)
def fz_sf (M : fz_M) (c j : Nat) (v : Int32) : fz_M := (fz_u1 M.1 c j v, M.2.1, M.2.2)
def fz_sd (M : fz_M) (c j : Nat) (v : Nat) : fz_M := (M.1, M.2.1, fz_u1 M.2.2 c j v)
/-- within -/
def fz_in (i : Int32) (n : Nat) : Bool := decide (0 ≤ i) && decide (i.toNatClampNeg < n)
def fz_nb (v : Int32) : Bool := decide (v = 0) || decide (v = 1)
/-- what a row of booleans keeps -/
def fz_z (v : Int32) : Int32 := vp_nar .boolean v
/-! THE SHAPES OF STEPS: a guard, a name, a call, a loop -/
def fz_gd {α : Type} (b : Bool) (k : Option α) : Option α := if b = true then k else none
def fz_bd {α β : Type} (v : α) (k : α → Option β) : Option β := k v
def fz_b1 {α β : Type} (x : Option α) (k : α → Option β) : Option β := match x with
  | some a => k a
  | none => none
def fz_b2 {α β γ : Type} (x : Option (α × β)) (k : α → β → Option γ) : Option γ := match x with
  | some (a, b) => k a b
  | none => none
def fz_lp {σ ρ : Type} (F : (σ → Option ρ) → σ → Option ρ) : Nat → σ → Option ρ
  | 0 => fun _ => none
  | n + 1 => F (fz_lp F n)
def fz_fuel : Nat := 5000
theorem fz_gd_s {α : Type} {b : Bool} {k : Option α} {x : α} (h : fz_gd b k = some x) : b = true ∧ k = some x := by
  unfold fz_gd at h
  split at h
  · rename_i q
    exact ⟨q, h⟩
  · cases h
theorem fz_bd_s {α β : Type} {v : α} {k : α → Option β} {x : β} (h : fz_bd v k = some x) : ∃ y, y = v ∧ k y = some x := ⟨v, rfl, h⟩
theorem fz_b1_s {α β : Type} {o : Option α} {k : α → Option β} {x : β} (h : fz_b1 o k = some x) : ∃ y, o = some y ∧ k y = some x := by
  cases o with
  | none => cases h
  | some a => exact ⟨a, rfl, h⟩
theorem fz_b2_s {α β γ : Type} {o : Option (α × β)} {k : α → β → Option γ} {x : γ} (h : fz_b2 o k = some x) : ∃ y z, o = some (y, z) ∧ k y z = some x := by
  cases o with
  | none => cases h
  | some a => exact ⟨a.1, a.2, rfl, h⟩
theorem fz_ip {α : Type} {p : Prop} [Decidable p] {a b : Option α} {x : α} (hp : p) (h : (if p then a else b) = some x) : a = some x := by rw [if_pos hp] at h; exact h
theorem fz_iq {α : Type} {p : Prop} [Decidable p] {a b : Option α} {x : α} (hp : ¬ p) (h : (if p then a else b) = some x) : b = some x := by rw [if_neg hp] at h; exact h
theorem fz_in_vp {i : Int32} {n : Nat} (h : fz_in i n = true) : vp_in i n := by
  unfold fz_in at h
  rw [Bool.and_eq_true, decide_eq_true_eq, decide_eq_true_eq] at h
  rintro (q | q)
  · exact absurd h.1 (Int32.not_le.mpr q)
  · omega
theorem fz_nb_n {v : Int32} (h : fz_nb v = true) : narrow .boolean (.int v) = .int v := by
  unfold fz_nb at h
  rw [Bool.or_eq_true, decide_eq_true_eq, decide_eq_true_eq] at h
  rcases h with rfl | rfl <;> rfl
/-! THE WORLD: an address to each cell, a shape to each cell -/
abbrev fz_G : Type := (Nat → Nat) × va_G × (Nat → ClassId)
/-- an array: kind (0 int, 1 boolean, 2 long, 3 .. of cells), length, and for cells: the first, the step; an object: its class, its fields: none an int, some none a cell that changes, some (some q) the cell q -/
abbrev fz_Sh : Type := (Nat × Nat × Nat × Nat) ⊕ (Nat × List (Option (Option Nat)))
def fz_fv (ad : Nat → Nat) (M : fz_M) (c : Nat) : Nat → List (Option (Option Nat)) → List Value
  | _, [] => []
  | j, none :: t => .int (M.1 c j) :: fz_fv ad M c (j + 1) t
  | j, some none :: t => .ref (ad (M.2.2 c j)) :: fz_fv ad M c (j + 1) t
  | j, some (some q) :: t => .ref (ad q) :: fz_fv ad M c (j + 1) t
def fz_av (G : fz_G) (M : fz_M) (c n b st : Nat) : Nat → va_E
  | 0 => .inl (G.2.2 0, n, .inl (M.1 c))
  | 1 => .inl (G.2.2 1, n, .inl (M.1 c))
  | 2 => .inl (G.2.2 2, n, .inr (.inl (M.2.1 c)))
  | k + 3 => .inl (G.2.2 (k + 3), n, .inr (.inr (.inr (.inr (fun i => some (G.1 (b + st * i)))))))
def fz_en (G : fz_G) (M : fz_M) (c : Nat) (s : fz_Sh) : va_E := match s with
  | .inl a => fz_av G M c a.2.1 a.2.2.1 a.2.2.2 a.1
  | .inr o => .inr (o.1, fz_fv G.1 M c 0 o.2)
def fz_wl (G : fz_G) (sh : Nat → fz_Sh) (K : Nat) (M : fz_M) : va_W := (List.range K).map (fun c => (G.1 c, fz_en G M c (sh c)))
def fz_ty (G : fz_G) : List (ClassId × FieldType) := [(G.2.2 0, .int), (G.2.2 1, .boolean), (G.2.2 2, .long), (G.2.2 3, .object "FurnitureByFlood$Stand"), (G.2.2 4, .array .int)]
def fz_Fr (G : fz_G) (K : Nat) : Nat → Prop := fun q => ∃ c, c < K ∧ q = G.1 c
def fz_I (G : fz_G) (K : Nat) : Prop := ∀ i j, i < K → j < K → G.1 i = G.1 j → i = j
def fz_F (G : fz_G) (K : Nat) (s : State) : Prop := va_K G.2.1 vwCl (fz_ty G) s ∧ fz_I G K
def fz_T (G : fz_G) (sh : Nat → fz_Sh) (K : Nat) (s : State) (M : fz_M) (H : Heap) (locs : List Loc) : Prop := va_P G.2.1 vwCl (fz_wl G sh K M) H ∧ va_S (fz_Fr G K) s.heap H locs
def fz_ob (sh : Nat → fz_Sh) (K x ci : Nat) (fs : List (Option (Option Nat))) : Prop := x < K ∧ sh x = .inr (ci, fs)
def fz_ar (sh : Nat → fz_Sh) (K x kd n b st : Nat) : Prop := x < K ∧ sh x = .inl (kd, n, b, st)
theorem fz_wl_at (G : fz_G) (sh : Nat → fz_Sh) {K : Nat} (M : fz_M) {x : Nat} (hx : x < K) : (fz_wl G sh K M)[x]? = some (G.1 x, fz_en G M x (sh x)) := by
  unfold fz_wl
  rw [List.getElem?_map, List.getElem?_range hx]
  rfl
theorem fz_wl_len (G : fz_G) (sh : Nat → fz_Sh) (K : Nat) (M : fz_M) : (fz_wl G sh K M).length = K := by simp [fz_wl]
theorem fz_wl_inv {G : fz_G} {sh : Nat → fz_Sh} {K : Nat} {M : fz_M} {k : Nat} {q : Nat × va_E} (h : (fz_wl G sh K M)[k]? = some q) : k < K ∧ q = (G.1 k, fz_en G M k (sh k)) := by
  have hk : k < K := by have := (List.getElem?_eq_some_iff.mp h).1; rw [fz_wl_len] at this; exact this
  rw [fz_wl_at G sh M hk] at h
  exact ⟨hk, (Option.some.inj h).symm⟩
theorem fz_wl_D {G : fz_G} {sh : Nat → fz_Sh} {K : Nat} {M : fz_M} (h : fz_I G K) : va_D (fz_Fr G K) (fz_wl G sh K M) := by
  refine ⟨fun i j p q hi hj hpq => ?_, fun k q hk => ?_⟩
  · obtain ⟨h1, rfl⟩ := fz_wl_inv hi
    obtain ⟨h2, rfl⟩ := fz_wl_inv hj
    exact h i j h1 h2 hpq
  · obtain ⟨h1, rfl⟩ := fz_wl_inv hk
    exact ⟨k, h1, rfl⟩
theorem fz_wl_set {G : fz_G} {sh : Nat → fz_Sh} {K : Nat} {M M1 : fz_M} {x : Nat} {e : va_E} (hx : x < K) (he : fz_en G M1 x (sh x) = e) (ho : ∀ c, c ≠ x → fz_en G M1 c (sh c) = fz_en G M c (sh c)) : (fz_wl G sh K M).set x (G.1 x, e) = fz_wl G sh K M1 := by
  apply List.ext_getElem?
  intro k
  by_cases hk : k = x
  · subst hk
    rw [List.getElem?_set_self (by rw [fz_wl_len]; exact hx), fz_wl_at G sh M1 hx, he]
  · rw [List.getElem?_set_ne (Ne.symm hk)]
    by_cases hK : k < K
    · rw [fz_wl_at G sh M hK, fz_wl_at G sh M1 hK, ho k hk]
    · rw [List.getElem?_eq_none (by rw [fz_wl_len]; omega), List.getElem?_eq_none (by rw [fz_wl_len]; omega)]
theorem fz_fv_get (ad : Nat → Nat) (M : fz_M) (c : Nat) : ∀ (fs : List (Option (Option Nat))) (j k : Nat), (fz_fv ad M c j fs)[k]? = (fs[k]?).map (fun f => match f with
    | none => Value.int (M.1 c (j + k))
    | some none => Value.ref (ad (M.2.2 c (j + k)))
    | some (some q) => Value.ref (ad q))
  | [], j, k => by simp [fz_fv]
  | f :: t, j, 0 => by cases f with
    | none => simp [fz_fv]
    | some g => cases g <;> simp [fz_fv]
  | f :: t, j, k + 1 => by
    have ih := fz_fv_get ad M c t (j + 1) k
    rw [show j + (k + 1) = j + 1 + k from by omega]
    cases f with
    | none => simpa [fz_fv] using ih
    | some g => cases g <;> simpa [fz_fv] using ih
theorem fz_fv_len (ad : Nat → Nat) (M : fz_M) (c : Nat) : ∀ (fs : List (Option (Option Nat))) (j : Nat), (fz_fv ad M c j fs).length = fs.length
  | [], j => rfl
  | f :: t, j => by
    have ih := fz_fv_len ad M c t (j + 1)
    cases f with
    | none => simp [fz_fv, ih]
    | some g => cases g <;> simp [fz_fv, ih]
theorem fz_fv_eq {ad : Nat → Nat} {M M1 : fz_M} {c : Nat} {fs : List (Option (Option Nat))} (h1 : M1.1 c = M.1 c) (h2 : M1.2.2 c = M.2.2 c) : ∀ j, fz_fv ad M1 c j fs = fz_fv ad M c j fs := by
  induction fs with
  | nil => intro j; rfl
  | cons f t ih =>
    intro j
    cases f with
    | none => simp only [fz_fv, h1, ih]
    | some g => cases g <;> simp only [fz_fv, h2, ih]
theorem fz_en_eq {G : fz_G} {M M1 : fz_M} {c : Nat} {s : fz_Sh} (h1 : M1.1 c = M.1 c) (h2 : M1.2.1 c = M.2.1 c) (h3 : M1.2.2 c = M.2.2 c) : fz_en G M1 c s = fz_en G M c s := by
  unfold fz_en
  cases s with
  | inl a =>
    obtain ⟨k, n, b, st⟩ := a
    match k with
    | 0 => simp only [fz_av, h1]
    | 1 => simp only [fz_av, h1]
    | 2 => simp only [fz_av, h2]
    | k + 3 => rfl
  | inr o => simp only [fz_fv_eq h1 h3]
theorem fz_u1_ne {α : Type} {f : Nat → Nat → α} {c i : Nat} {v : α} {d : Nat} (h : d ≠ c) : fz_u1 f c i v d = f d := by funext j; simp [fz_u1, h]
theorem fz_u1_self {α : Type} {f : Nat → Nat → α} {c i : Nat} {v : α} : fz_u1 f c i v c = fun j => if j = i then v else f c j := by funext j; simp [fz_u1]
/-- the fields' list behind a change of an int -/
theorem fz_fv_put {ad : Nat → Nat} {M : fz_M} {c : Nat} {fs : List (Option (Option Nat))} {k : Nat} (v : Int32) (hk : fs[k]? = some none) : (fz_fv ad M c 0 fs).set k (.int v) = fz_fv ad (fz_sf M c k v) c 0 fs := by
  have hkl : k < fs.length := (List.getElem?_eq_some_iff.mp hk).1
  apply List.ext_getElem?
  intro i
  by_cases hi : i = k
  · subst hi
    rw [List.getElem?_set_self (by rw [fz_fv_len]; exact hkl), fz_fv_get, hk]
    simp [fz_sf, fz_u1_self]
  · rw [List.getElem?_set_ne (Ne.symm hi), fz_fv_get, fz_fv_get]
    cases fs[i]? with
    | none => rfl
    | some f =>
      cases f with
      | none => simp [fz_sf, fz_u1_self, hi]
      | some g => cases g <;> simp [fz_sf]
theorem fz_fv_putd {ad : Nat → Nat} {M : fz_M} {c : Nat} {fs : List (Option (Option Nat))} {k : Nat} (v : Nat) (hk : fs[k]? = some (some none)) : (fz_fv ad M c 0 fs).set k (.ref (ad v)) = fz_fv ad (fz_sd M c k v) c 0 fs := by
  have hkl : k < fs.length := (List.getElem?_eq_some_iff.mp hk).1
  apply List.ext_getElem?
  intro i
  by_cases hi : i = k
  · subst hi
    rw [List.getElem?_set_self (by rw [fz_fv_len]; exact hkl), fz_fv_get, hk]
    simp [fz_sd, fz_u1_self]
  · rw [List.getElem?_set_ne (Ne.symm hi), fz_fv_get, fz_fv_get]
    cases fs[i]? with
    | none => rfl
    | some f =>
      cases f with
      | none => simp [fz_sd]
      | some g => cases g <;> simp [fz_sd, fz_u1_self, hi]
/-! WORDS: all methods stand on the law's words -/
theorem fz_words : GoodIn wsL_law wsL_law := goodIn_sub (fun _ h => h) (by decide +kernel)
/-- a field as a class's instructions name it: class ci, slot j -/
def fz_fl (own : String) (index ci j : Nat) : Prop := ∃ (C : String) (T : u_T) (N : Nat), vwCl[ci]? = some (C, T, N) ∧ (∀ w ∈ u_ws C T N, w ∈ wsL_law) ∧ j < N ∧ Cond.fieldLink own index (T j).1 (T j).2.1 (T j).2.2.1 ∈ wsL_law
/-- .. and as one that may be written -/
def fz_fw (own : String) (index ci j : Nat) (ty : FieldType) : Prop := ∃ (C : String) (T : u_T) (N : Nat) (ty0 : Nat → FieldType), vwCl[ci]? = some (C, T, N) ∧ (∀ w ∈ u_ws C T N, w ∈ wsL_law) ∧ j < N ∧ Cond.fieldLink own index (T j).1 (T j).2.1 (T j).2.2.1 ∈ wsL_law ∧ (∀ k, k < N → parseFieldDescriptor (T k).2.2.1 = some (ty0 k)) ∧ (∀ a, a < N → ∀ b, b < N → a ≠ b → (T a).2.1 ≠ (T b).2.1) ∧ (T j).2.2.2 = false ∧ parseFieldDescriptor (T j).2.2.1 = some ty
def fz_rm (fr lo : Nat) : Room := { frames := fr, cells := 0, slots := 0, locals := lo }
def fz_Pre (G : fz_G) (sh : Nat → fz_Sh) (K : Nat) (M : fz_M) : State → Prop := fun U => va_P G.2.1 vwCl (fz_wl G sh K M) U.heap ∧ fz_F G K U
def fz_Bo (G : fz_G) (sh : Nat → fz_Sh) (K : Nat) : fz_M → State → Prop := fun u t => va_P G.2.1 vwCl (fz_wl G sh K u) t.heap
abbrev fz_Qi (G : fz_G) (sh : Nat → fz_Sh) (K : Nat) (r : Int32) (M : fz_M) : Array Value → State → Outcome → State → Prop := va_Qi (fun (x : Int32) (u : fz_M) => x = r ∧ u = M) (fz_Bo G sh K) (fz_Fr G K)
abbrev fz_Ql (G : fz_G) (sh : Nat → fz_Sh) (K : Nat) (r : Int64) (M : fz_M) : Array Value → State → Outcome → State → Prop := va_Ql (fun (x : Int64) (u : fz_M) => x = r ∧ u = M) (fz_Bo G sh K) (fz_Fr G K)
abbrev fz_Qv (G : fz_G) (sh : Nat → fz_Sh) (K : Nat) (M : fz_M) : Array Value → State → Outcome → State → Prop := va_Qv (fun (u : fz_M) => u = M) (fz_Bo G sh K) (fz_Fr G K)
/-- the contract of a method: its arguments, the world before it, what its end says -/
abbrev fz_Me (l : Launch) (y : MethodName) (cd : ByteArray) (n : Nat) (rt : Option FieldType) (fr lo : Nat) (G : fz_G) (sh : Nat → fz_Sh) (K : Nat) (As : List Value) (M : fz_M) (Q : Array Value → State → Outcome → State → Prop) : Prop := Met l y (Cond.code y cd n rt :: wsL_law) (fz_rm fr lo) (va_Pc As (fz_Pre G sh K M)) Q 0 0 (fz_Fr G K)
theorem fz_blind {G : fz_G} {sh : Nat → fz_Sh} {K : Nat} {M : fz_M} {As : List Value} : FrameBlind (va_Pc As (fz_Pre G sh K M)) := fun a U g mk q => ⟨q.1, q.2.1, va_K.moved (u := U) (U := U.calling g mk a) (Vm.Alike.refl U.vm) q.2.2.1, q.2.2.2⟩
/-- a call's words -/
def fz_lv (own : String) (index : Nat) (y : MethodName) (cd : ByteArray) (n : Nat) (rt : Option FieldType) (C : String) (np : Nat) : Prop :=
  Cond.methodLink own index y ∈ wsL_law ∧ Cond.instanceMethod y ∈ wsL_law ∧ Cond.selects C y y ∈ wsL_law ∧ Cond.initialized C ∈ wsL_law ∧ Cond.code y cd n rt ∈ wsL_law ∧ y.cls = C ∧ (y.cls ≠ "java/lang/invoke/MethodHandle" ∧ y.cls ≠ "java/lang/invoke/VarHandle" ∧ (parseMethodDescriptor y.desc).map (fun d => d.parameters.length) = some np)
def fz_ls (own : String) (index : Nat) (y : MethodName) (cd : ByteArray) (n : Nat) (rt : Option FieldType) (np : Nat) : Prop :=
  Cond.methodLink own index y ∈ wsL_law ∧ Cond.static y ∈ wsL_law ∧ Cond.initialized own ∈ wsL_law ∧ Cond.code y cd n rt ∈ wsL_law ∧ y.cls = own ∧ (y.cls ≠ "java/lang/invoke/MethodHandle" ∧ y.cls ≠ "java/lang/invoke/VarHandle" ∧ (parseMethodDescriptor y.desc).map (fun d => d.parameters.length) = some np)
theorem fz_goodV {own : String} {index : Nat} {y : MethodName} {cd : ByteArray} {n : Nat} {rt : Option FieldType} {C : String} {np : Nat} (h : fz_lv own index y cd n rt C np) : GoodIn wsL_law (wsV own index C y (Cond.code y cd n rt :: wsL_law)) := by
  obtain ⟨h1, h2, h3, h4, h5, -⟩ := h
  intro w hw
  unfold wsV at hw
  rcases List.mem_append.mp hw with h | h
  · simp only [List.mem_cons, List.not_mem_nil, or_false] at h
    rcases h with rfl | rfl | rfl | rfl <;> exact fz_words _ (by assumption)
  · rcases List.mem_cons.mp h with rfl | h
    · exact fz_words _ h5
    · exact fz_words _ h
theorem fz_goodS {own : String} {index : Nat} {y : MethodName} {cd : ByteArray} {n : Nat} {rt : Option FieldType} {np : Nat} (h : fz_ls own index y cd n rt np) : GoodIn wsL_law (wsS own index y (Cond.code y cd n rt :: wsL_law)) := by
  obtain ⟨h1, h2, h3, h4, -⟩ := h
  intro w hw
  unfold wsS at hw
  rcases List.mem_append.mp hw with h | h
  · simp only [List.mem_cons, List.not_mem_nil, or_false] at h
    rcases h with rfl | rfl | rfl <;> exact fz_words _ (by assumption)
  · rcases List.mem_cons.mp h with rfl | h
    · exact fz_words _ h4
    · exact fz_words _ h
end
section
section FZROWS
variable {p : Program} {l : Launch} {e : Env} {R : Room} {s : State} {m : MethodId} {args : Array Value} {below : List Frame} {meth : Method} {c : Code} {H : Heap} {locs : List Loc} {Q : State → Prop} {cc : ByteArray} {nL pc : Nat} {own : String} {ls : Array Slot} {rest : List Value}
variable {G : fz_G} {sh : Nat → fz_Sh} {K : Nat} {M : fz_M} {x ci j n b st index : Nat} {fs : List (Option (Option Nat))}
theorem fz_geti (C : CallFix p m c cc nL s args wsL_law own) (hF : fz_F G K s) (hT : fz_T G sh K s M H locs) (hc : fz_ob sh K x ci fs) (hj : fs[j]? = some none) (hl : fz_fl own index ci j) (hdg : decode cc pc = .ok (.getfield index, 3))
    (k : W p l e R s m args below meth c H locs 0 0 Q (F0 m (pc + 3) ls (.int (fz_f M x j) :: rest))) : W p l e R s m args below meth c H locs 0 0 Q (F0 m pc ls (.ref (G.1 x) :: rest)) := by
  obtain ⟨Cn, T, N, h1, h2, h3, h4⟩ := hl
  refine va_get (D := G.2.1) (ci := ci) (v := .int (fz_f M x j)) (fs := fz_fv G.1 M x 0 fs) C.1 C.2.1 C.2.2.2.2 h2 C.2.2.2.1 hF.1 hT.1 x (by rw [fz_wl_at G sh M hc.1, hc.2]; rfl) h1 j h3 (C.2.2.2.2 _ h4) (fun _ q => q) ?_ hdg k
  rw [fz_fv_get, hj]
  simp [fz_f]
theorem fz_getr (C : CallFix p m c cc nL s args wsL_law own) (hF : fz_F G K s) (hT : fz_T G sh K s M H locs) (hc : fz_ob sh K x ci fs) {q : Nat} (hj : fs[j]? = some (some (some q))) (hl : fz_fl own index ci j) (hdg : decode cc pc = .ok (.getfield index, 3))
    (k : W p l e R s m args below meth c H locs 0 0 Q (F0 m (pc + 3) ls (.ref (G.1 q) :: rest))) : W p l e R s m args below meth c H locs 0 0 Q (F0 m pc ls (.ref (G.1 x) :: rest)) := by
  obtain ⟨Cn, T, N, h1, h2, h3, h4⟩ := hl
  refine va_get (D := G.2.1) (ci := ci) (v := .ref (G.1 q)) (fs := fz_fv G.1 M x 0 fs) C.1 C.2.1 C.2.2.2.2 h2 C.2.2.2.1 hF.1 hT.1 x (by rw [fz_wl_at G sh M hc.1, hc.2]; rfl) h1 j h3 (C.2.2.2.2 _ h4) (fun _ q => q) ?_ hdg k
  rw [fz_fv_get, hj]
  rfl
theorem fz_getd (C : CallFix p m c cc nL s args wsL_law own) (hF : fz_F G K s) (hT : fz_T G sh K s M H locs) (hc : fz_ob sh K x ci fs) (hj : fs[j]? = some (some none)) (hl : fz_fl own index ci j) (hdg : decode cc pc = .ok (.getfield index, 3))
    (k : W p l e R s m args below meth c H locs 0 0 Q (F0 m (pc + 3) ls (.ref (G.1 (fz_d M x j)) :: rest))) : W p l e R s m args below meth c H locs 0 0 Q (F0 m pc ls (.ref (G.1 x) :: rest)) := by
  obtain ⟨Cn, T, N, h1, h2, h3, h4⟩ := hl
  refine va_get (D := G.2.1) (ci := ci) (v := .ref (G.1 (fz_d M x j))) (fs := fz_fv G.1 M x 0 fs) C.1 C.2.1 C.2.2.2.2 h2 C.2.2.2.1 hF.1 hT.1 x (by rw [fz_wl_at G sh M hc.1, hc.2]; rfl) h1 j h3 (C.2.2.2.2 _ h4) (fun _ q => q) ?_ hdg k
  rw [fz_fv_get, hj]
  simp [fz_d]
theorem fz_puti (C : CallFix p m c cc nL s args wsL_law own) (hF : fz_F G K s) (hT : fz_T G sh K s M H locs) (hc : fz_ob sh K x ci fs) (hj : fs[j]? = some none) (hl : fz_fw own index ci j .int) {v : Int32} (hdg : decode cc pc = .ok (.putfield index, 3))
    (k : ∀ (H1 : Heap) (locs1 : List Loc), fz_T G sh K s (fz_sf M x j v) H1 locs1 → W p l e R s m args below meth c H1 locs1 0 0 Q (F0 m (pc + 3) ls rest)) : W p l e R s m args below meth c H locs 0 0 Q (F0 m pc ls (.int v :: .ref (G.1 x) :: rest)) := by
  obtain ⟨Cn, T, N, ty0, h1, h2, h3, h4, h5, h6, h7, h8⟩ := hl
  have hjl : j < fs.length := (List.getElem?_eq_some_iff.mp hj).1
  refine va_put (D := G.2.1) (ci := ci) (v := .int v) (ty := .int) (fs := fz_fv G.1 M x 0 fs) C.1 C.2.1 C.2.2.2.2 h2 ty0 h5 h6 C.2.2.2.1 hF.1 hT.1 (fz_wl_D hF.2) hT.2 x (by rw [fz_wl_at G sh M hc.1, hc.2]; rfl) h1 j h3 (C.2.2.2.2 _ h4) (fun _ q => q) h7 h8 rfl rfl (by rw [fz_fv_len]; exact hjl) hdg (fun H1 locs1 hP _ hS => k H1 locs1 ⟨?_, hS⟩)
  rw [fz_fv_put v hj, fz_wl_set (M1 := fz_sf M x j v) hc.1 (by rw [hc.2]; rfl) (fun c hcx => fz_en_eq (fz_u1_ne hcx) rfl rfl)] at hP
  exact hP
theorem fz_putd (C : CallFix p m c cc nL s args wsL_law own) (hF : fz_F G K s) (hT : fz_T G sh K s M H locs) (hc : fz_ob sh K x ci fs) (hj : fs[j]? = some (some none)) {ty : FieldType} (hl : fz_fw own index ci j ty) {v : Nat} (hn : narrow ty (.ref (G.1 v)) = .ref (G.1 v)) (hf : fits ty (.ref (G.1 v)) = true) (hdg : decode cc pc = .ok (.putfield index, 3))
    (k : ∀ (H1 : Heap) (locs1 : List Loc), fz_T G sh K s (fz_sd M x j v) H1 locs1 → W p l e R s m args below meth c H1 locs1 0 0 Q (F0 m (pc + 3) ls rest)) : W p l e R s m args below meth c H locs 0 0 Q (F0 m pc ls (.ref (G.1 v) :: .ref (G.1 x) :: rest)) := by
  obtain ⟨Cn, T, N, ty0, h1, h2, h3, h4, h5, h6, h7, h8⟩ := hl
  have hjl : j < fs.length := (List.getElem?_eq_some_iff.mp hj).1
  refine va_put (D := G.2.1) (ci := ci) (v := .ref (G.1 v)) (ty := ty) (fs := fz_fv G.1 M x 0 fs) C.1 C.2.1 C.2.2.2.2 h2 ty0 h5 h6 C.2.2.2.1 hF.1 hT.1 (fz_wl_D hF.2) hT.2 x (by rw [fz_wl_at G sh M hc.1, hc.2]; rfl) h1 j h3 (C.2.2.2.2 _ h4) (fun _ q => q) h7 h8 hn hf (by rw [fz_fv_len]; exact hjl) hdg (fun H1 locs1 hP _ hS => k H1 locs1 ⟨?_, hS⟩)
  rw [fz_fv_putd v hj, fz_wl_set (M1 := fz_sd M x j v) hc.1 (by rw [hc.2]; rfl) (fun c hcx => fz_en_eq (M := M) (M1 := fz_sd M x j v) rfl rfl (show fz_u1 M.2.2 x j v c = M.2.2 c from fz_u1_ne hcx))] at hP
  exact hP
theorem fz_ia (C : CallFix p m c cc nL s args wsL_law own) (hF : fz_F G K s) (hT : fz_T G sh K s M H locs) (ha : fz_ar sh K x 0 n b st) {i : Int32} (hi : fz_in i n = true) (hdg : decode cc pc = .ok (.iaload, 1))
    (k : W p l e R s m args below meth c H locs 0 0 Q (F0 m (pc + 1) ls (.int (fz_g M x i) :: rest))) : W p l e R s m args below meth c H locs 0 0 Q (F0 m pc ls (.int i :: .ref (G.1 x) :: rest)) :=
  va_iald C.1 C.2.1 hF.1 hT.1 x 0 (cA := G.2.2 0) (n := n) (f := M.1 x) (by rw [fz_wl_at G sh M ha.1, ha.2]; rfl) rfl (fz_in_vp hi) hdg k
theorem fz_za (C : CallFix p m c cc nL s args wsL_law own) (hF : fz_F G K s) (hT : fz_T G sh K s M H locs) (ha : fz_ar sh K x 1 n b st) {i : Int32} (hi : fz_in i n = true) (hdg : decode cc pc = .ok (.baload, 1))
    (k : W p l e R s m args below meth c H locs 0 0 Q (F0 m (pc + 1) ls (.int (fz_g M x i) :: rest))) : W p l e R s m args below meth c H locs 0 0 Q (F0 m pc ls (.int i :: .ref (G.1 x) :: rest)) :=
  va_zald C.1 C.2.1 hF.1 hT.1 x 1 (cA := G.2.2 1) (n := n) (f := M.1 x) (by rw [fz_wl_at G sh M ha.1, ha.2]; rfl) rfl (fz_in_vp hi) hdg k
theorem fz_la (C : CallFix p m c cc nL s args wsL_law own) (hF : fz_F G K s) (hT : fz_T G sh K s M H locs) (ha : fz_ar sh K x 2 n b st) {i : Int32} (hi : fz_in i n = true) (hdg : decode cc pc = .ok (.laload, 1))
    (k : W p l e R s m args below meth c H locs 0 0 Q (F0 m (pc + 1) ls (.long (fz_gl M x i) :: rest))) : W p l e R s m args below meth c H locs 0 0 Q (F0 m pc ls (.int i :: .ref (G.1 x) :: rest)) :=
  va_lald C.1 C.2.1 hF.1 hT.1 x 2 (cA := G.2.2 2) (n := n) (f := M.2.1 x) (by rw [fz_wl_at G sh M ha.1, ha.2]; rfl) rfl (fz_in_vp hi) hdg k
theorem fz_aa3 (C : CallFix p m c cc nL s args wsL_law own) (hF : fz_F G K s) (hT : fz_T G sh K s M H locs) (ha : fz_ar sh K x 3 n b st) {i : Int32} (hi : fz_in i n = true) (hdg : decode cc pc = .ok (.aaload, 1))
    (k : W p l e R s m args below meth c H locs 0 0 Q (F0 m (pc + 1) ls (.ref (G.1 (b + st * i.toNatClampNeg)) :: rest))) : W p l e R s m args below meth c H locs 0 0 Q (F0 m pc ls (.int i :: .ref (G.1 x) :: rest)) :=
  va_aldq C.1 C.2.1 hF.1 hT.1 x 3 (cA := G.2.2 3) (n := n) (f := fun i => some (G.1 (b + st * i))) (by rw [fz_wl_at G sh M ha.1, ha.2]; rfl) rfl (fz_in_vp hi) hdg k
theorem fz_aa4 (C : CallFix p m c cc nL s args wsL_law own) (hF : fz_F G K s) (hT : fz_T G sh K s M H locs) (ha : fz_ar sh K x 4 n b st) {i : Int32} (hi : fz_in i n = true) (hdg : decode cc pc = .ok (.aaload, 1))
    (k : W p l e R s m args below meth c H locs 0 0 Q (F0 m (pc + 1) ls (.ref (G.1 (b + st * i.toNatClampNeg)) :: rest))) : W p l e R s m args below meth c H locs 0 0 Q (F0 m pc ls (.int i :: .ref (G.1 x) :: rest)) := by
  have hin := fz_in_vp hi
  have hlt : i.toNatClampNeg < n := Nat.not_le.mp fun q => hin (Or.inr q)
  have hcell := hT.1 x _ (fz_wl_at G sh M ha.1)
  rw [ha.2] at hcell
  exact W.aald (v := .ref (G.1 (b + st * i.toNatClampNeg))) (ty := .array .int) C.1 C.2.1 hcell ((hF.1.2 4 _ rfl).1 n (fun j => va_rf (some (G.1 (b + st * j))))) rfl (fun q => by cases q) (by show ¬ (i < 0 ∨ (arrV _ _ _).slots.size ≤ _); rw [arrV_size]; exact hin) (by show (arrV _ _ _).slots[_]? = _; rw [arrV_read _ _ hlt]; rfl) rfl rfl hdg k
theorem fz_ias (C : CallFix p m c cc nL s args wsL_law own) (hF : fz_F G K s) (hT : fz_T G sh K s M H locs) (ha : fz_ar sh K x 0 n b st) {i v : Int32} (hi : fz_in i n = true) (hdg : decode cc pc = .ok (.iastore, 1))
    (k : ∀ (H1 : Heap) (locs1 : List Loc), fz_T G sh K s (fz_s M x i v) H1 locs1 → W p l e R s m args below meth c H1 locs1 0 0 Q (F0 m (pc + 1) ls rest)) : W p l e R s m args below meth c H locs 0 0 Q (F0 m pc ls (.int v :: .int i :: .ref (G.1 x) :: rest)) := by
  refine va_iast C.1 C.2.1 hF.1 hT.1 (fz_wl_D hF.2) hT.2 x 0 (cA := G.2.2 0) (n := n) (f := M.1 x) (by rw [fz_wl_at G sh M ha.1, ha.2]; rfl) rfl (fz_in_vp hi) hdg (fun H1 locs1 hP _ hS => k H1 locs1 ⟨?_, hS⟩)
  rw [fz_wl_set (M1 := fz_s M x i v) ha.1 (by rw [ha.2]; unfold fz_en fz_av fz_s; simp only [fz_u1_self]; rfl) (fun c hcx => fz_en_eq (fz_u1_ne hcx) rfl rfl)] at hP
  exact hP
theorem fz_zas (C : CallFix p m c cc nL s args wsL_law own) (hF : fz_F G K s) (hT : fz_T G sh K s M H locs) (ha : fz_ar sh K x 1 n b st) {i v : Int32} (hi : fz_in i n = true) (hdg : decode cc pc = .ok (.bastore, 1))
    (k : ∀ (H1 : Heap) (locs1 : List Loc), fz_T G sh K s (fz_s M x i (fz_z v)) H1 locs1 → W p l e R s m args below meth c H1 locs1 0 0 Q (F0 m (pc + 1) ls rest)) : W p l e R s m args below meth c H locs 0 0 Q (F0 m pc ls (.int v :: .int i :: .ref (G.1 x) :: rest)) := by
  refine va_zast C.1 C.2.1 hF.1 hT.1 (fz_wl_D hF.2) hT.2 x 1 (cA := G.2.2 1) (n := n) (f := M.1 x) (by rw [fz_wl_at G sh M ha.1, ha.2]; rfl) rfl (fz_in_vp hi) hdg (fun H1 locs1 hP _ hS => k H1 locs1 ⟨?_, hS⟩)
  rw [fz_wl_set (M1 := fz_s M x i (fz_z v)) ha.1 (by rw [ha.2]; unfold fz_en fz_av fz_s; simp only [fz_u1_self]; rfl) (fun c hcx => fz_en_eq (fz_u1_ne hcx) rfl rfl)] at hP
  exact hP
theorem fz_las (C : CallFix p m c cc nL s args wsL_law own) (hF : fz_F G K s) (hT : fz_T G sh K s M H locs) (ha : fz_ar sh K x 2 n b st) {i : Int32} {v : Int64} (hi : fz_in i n = true) (hdg : decode cc pc = .ok (.lastore, 1))
    (k : ∀ (H1 : Heap) (locs1 : List Loc), fz_T G sh K s (fz_sl M x i v) H1 locs1 → W p l e R s m args below meth c H1 locs1 0 0 Q (F0 m (pc + 1) ls rest)) : W p l e R s m args below meth c H locs 0 0 Q (F0 m pc ls (.long v :: .int i :: .ref (G.1 x) :: rest)) := by
  refine va_last C.1 C.2.1 hF.1 hT.1 (fz_wl_D hF.2) hT.2 x 2 (cA := G.2.2 2) (n := n) (f := M.2.1 x) (by rw [fz_wl_at G sh M ha.1, ha.2]; rfl) rfl (fz_in_vp hi) hdg (fun H1 locs1 hP _ hS => k H1 locs1 ⟨?_, hS⟩)
  rw [fz_wl_set (M1 := fz_sl M x i v) ha.1 (by rw [ha.2]; unfold fz_en fz_av fz_sl; simp only [fz_u1_self]; rfl) (fun c hcx => fz_en_eq (M := M) (M1 := fz_sl M x i v) rfl (show fz_u1 M.2.1 x i.toNatClampNeg v c = M.2.1 c from fz_u1_ne hcx) rfl)] at hP
  exact hP
/-! ends -/
theorem fz_reti (C : CallFix p m c cc nL s args wsL_law own) (hr : meth.sig.returnType = some .int) (hk : meth.locks = false) {v : Int32} (hT : fz_T G sh K s M H locs) (hdg : decode cc pc = .ok (.ireturn, 1)) : W p l e R s m args below meth c H locs 0 0 (MQ below (fz_Qi G sh K v M) args s 0 0 (fz_Fr G K)) (F0 m pc ls [.int v]) :=
  W.iret C.1 C.2.1 hr (fun t ht _ => ⟨⟨v, M, rfl, ⟨rfl, rfl⟩, by show va_P _ _ _ t.heap; rw [ht]; exact hT.1⟩, hT.2.F ht⟩) hT.2.2.2 hdg hk
theorem fz_retz (C : CallFix p m c cc nL s args wsL_law own) (hr : meth.sig.returnType = some .boolean) (hk : meth.locks = false) {v : Int32} (hv : fz_nb v = true) (hT : fz_T G sh K s M H locs) (hdg : decode cc pc = .ok (.ireturn, 1)) : W p l e R s m args below meth c H locs 0 0 (MQ below (fz_Qi G sh K v M) args s 0 0 (fz_Fr G K)) (F0 m pc ls [.int v]) :=
  W.zret C.1 C.2.1 hr (fz_nb_n hv) (fun t ht _ => ⟨⟨v, M, rfl, ⟨rfl, rfl⟩, by show va_P _ _ _ t.heap; rw [ht]; exact hT.1⟩, hT.2.F ht⟩) hT.2.2.2 hdg hk
theorem fz_retl (C : CallFix p m c cc nL s args wsL_law own) (hr : meth.sig.returnType = some .long) (hk : meth.locks = false) {v : Int64} (hT : fz_T G sh K s M H locs) (hdg : decode cc pc = .ok (.lreturn, 1)) : W p l e R s m args below meth c H locs 0 0 (MQ below (fz_Ql G sh K v M) args s 0 0 (fz_Fr G K)) (F0 m pc ls [.long v]) :=
  W.lret C.1 C.2.1 hr (fun t ht _ => ⟨⟨v, M, rfl, ⟨rfl, rfl⟩, by show va_P _ _ _ t.heap; rw [ht]; exact hT.1⟩, hT.2.F ht⟩) hT.2.2.2 hdg hk
theorem fz_retv (C : CallFix p m c cc nL s args wsL_law own) (hr : meth.sig.returnType = none) (hk : meth.locks = false) (hT : fz_T G sh K s M H locs) (hdg : decode cc pc = .ok (.return_, 1)) : W p l e R s m args below meth c H locs 0 0 (MQ below (fz_Qv G sh K M) args s 0 0 (fz_Fr G K)) (F0 m pc ls []) :=
  W.vret C.1 C.2.1 hr (fun t ht _ => ⟨⟨M, rfl, rfl, by show va_P _ _ _ t.heap; rw [ht]; exact hT.1⟩, hT.2.F ht⟩) hT.2.2.2 hdg hk
/-! calls -/
variable {y : MethodName} {cd : ByteArray} {ny np fr lo : Nat} {rt : Option FieldType} {Cn : String} {As stk : List Value} {M1 : fz_M}
theorem fz_pre (hF : fz_F G K s) (hT : fz_T G sh K s M H locs) {V : List Value} : ∀ U : State, U.heap = H → s.WarmedH U.vm → va_Pc V (fz_Pre G sh K M) V.toArray U := fun U hU hW => ⟨rfl, by show va_P _ _ _ U.heap; rw [hU]; exact hT.1, va_K.moved hW.alike hF.1, hF.2⟩
theorem fz_runV {Qc : Array Value → State → Outcome → State → Prop} (C : CallFix p m c cc nL s args wsL_law own) (hF : fz_F G K s) (hT : fz_T G sh K s M H locs) (hM : fz_Me l y cd ny rt fr lo G sh K (.ref (G.1 x) :: As) M Qc) (hx : fz_ob sh K x ci fs) {T : u_T} {N : Nat} (hcl : vwCl[ci]? = some (Cn, T, N)) (hw : fz_lv own index y cd ny rt Cn np) (hn : As.length = np) (hls : ls.size = nL) (hst : stk = As.reverse ++ .ref (G.1 x) :: rest) (hro : (rest.map fun v => v.category).sum ≤ 8) (hR : fr + 1 ≤ R.frames ∧ 8 + (ny + 11) + lo ≤ R.locals ∧ 0 ≤ R.cells ∧ 0 ≤ R.slots) (hdg : decode cc pc = .ok (.invokevirtual index, 3)) :
    va_Run p l e R s m args below meth c H locs 0 0 0 0 (F0 m pc ls stk) rest (Qc (Value.ref (G.1 x) :: As).toArray) (fz_Fr G K) :=
  va_runV C hM (cwV np C.2.2.2.2 (fz_goodV hw) rfl rfl rfl hw.2.2.2.2.2 ⟨hR.1, hR.2.1⟩) ⟨fz_blind, va_recv (q0 := x) (ci := ci) hF.1 hT.1 hcl (by rw [fz_wl_at G sh M hx.1, hx.2]; rfl), fz_pre hF hT⟩ rfl hn hls hst (lv_room hro) hdg ⟨hR.2.2.1, hR.2.2.2⟩
theorem fz_runS {Qc : Array Value → State → Outcome → State → Prop} (C : CallFix p m c cc nL s args wsL_law own) (hF : fz_F G K s) (hT : fz_T G sh K s M H locs) (hM : fz_Me l y cd ny rt fr lo G sh K As M Qc) (hw : fz_ls own index y cd ny rt np) (hn : As.length = np) (hls : ls.size = nL) (hst : stk = As.reverse ++ rest) (hro : (rest.map fun v => v.category).sum ≤ 8) (hR : fr + 1 ≤ R.frames ∧ 8 + (ny + 11) + lo ≤ R.locals ∧ 0 ≤ R.cells ∧ 0 ≤ R.slots) (hdg : decode cc pc = .ok (.invokestatic index, 3)) :
    va_Run p l e R s m args below meth c H locs 0 0 0 0 (F0 m pc ls stk) rest (Qc As.toArray) (fz_Fr G K) :=
  va_runS C hM (cwS np C.2.2.2.2 (fz_goodS hw) rfl rfl rfl hw.2.2.2.2 ⟨hR.1, hR.2.1⟩) ⟨fz_blind, fz_pre hF hT⟩ rfl hn hls hst (lv_room hro) hdg ⟨hR.2.2.1, hR.2.2.2⟩
theorem fz_ci {a : Array Value} {r : Int32} (hT : fz_T G sh K s M H locs) (hr : va_Run p l e R s m args below meth c H locs 0 0 0 0 (F0 m pc ls stk) rest (fz_Qi G sh K r M1 a) (fz_Fr G K))
    (k : ∀ (H1 : Heap) (locs1 : List Loc), fz_T G sh K s M1 H1 locs1 → W p l e R s m args below meth c H1 locs1 0 0 Q (F0 m (pc + 3) ls (.int r :: rest))) : W p l e R s m args below meth c H locs 0 0 Q (F0 m pc ls stk) := by
  refine va_calli hr hT.2 (fun _ _ h => h) (fun _ h => h) (fun r1 u t H1 locs1 ht _ hq hB _ _ hS => ?_)
  obtain ⟨rfl, rfl⟩ := hq
  unfold fz_Bo at hB
  rw [ht] at hB
  exact k H1 locs1 ⟨hB, hS⟩
theorem fz_cl {a : Array Value} {r : Int64} (hT : fz_T G sh K s M H locs) (hr : va_Run p l e R s m args below meth c H locs 0 0 0 0 (F0 m pc ls stk) rest (fz_Ql G sh K r M1 a) (fz_Fr G K))
    (k : ∀ (H1 : Heap) (locs1 : List Loc), fz_T G sh K s M1 H1 locs1 → W p l e R s m args below meth c H1 locs1 0 0 Q (F0 m (pc + 3) ls (.long r :: rest))) : W p l e R s m args below meth c H locs 0 0 Q (F0 m pc ls stk) := by
  refine va_calll hr hT.2 (fun _ _ h => h) (fun _ h => h) (fun r1 u t H1 locs1 ht _ hq hB _ _ hS => ?_)
  obtain ⟨rfl, rfl⟩ := hq
  unfold fz_Bo at hB
  rw [ht] at hB
  exact k H1 locs1 ⟨hB, hS⟩
theorem fz_cv {a : Array Value} (hT : fz_T G sh K s M H locs) (hr : va_Run p l e R s m args below meth c H locs 0 0 0 0 (F0 m pc ls stk) rest (fz_Qv G sh K M1 a) (fz_Fr G K))
    (k : ∀ (H1 : Heap) (locs1 : List Loc), fz_T G sh K s M1 H1 locs1 → W p l e R s m args below meth c H1 locs1 0 0 Q (F0 m (pc + 3) ls rest)) : W p l e R s m args below meth c H locs 0 0 Q (F0 m pc ls stk) := by
  refine va_callv hr hT.2 (fun _ _ h => h) (fun _ h => h) (fun u t H1 locs1 ht _ hq hB _ _ hS => ?_)
  obtain rfl := hq
  unfold fz_Bo at hB
  rw [ht] at hB
  exact k H1 locs1 ⟨hB, hS⟩
/-- from a method's entry to its walk -/
theorem fz_body {Qc : Array Value → State → Outcome → State → Prop} (hy : plainName y.cls = true) (hlen : (lg_sl As).length ≤ ny)
    (body : ∀ (p : Program) (e : Env) (s : State) (m : MethodId) (args : Array Value) (below : List Frame) (meth : Method) (c : Code) (H : Heap) (locs : List Loc) (ls : Array Slot), CallFix p m c cd ny s args wsL_law y.cls → meth.sig.returnType = rt → meth.locks = false → fz_F G K s → fz_T G sh K s M H locs → lv_has ls ny (lv_args 0 As) →
      W p l e (fz_rm fr lo) s m args below meth c H locs 0 0 (MQ below Qc args s 0 0 (fz_Fr G K)) (F0 m 0 ls [])) : fz_Me l y cd ny rt fr lo G sh K As M Qc := by
  refine Met.ofW (cc := cd) (maxL := ny) (ret := rt) hy rfl ?_
  intro p e s m args below meth c s₁ B hml hv
  obtain ⟨rfl, hP, hF⟩ := hv
  have hts := atoms_spec (ws := Cond.code y cd ny rt :: wsL_law) B.pre
  have hl := lv_entry As hlen
  rw [lg_entry_eq]
  exact body p e s m _ below meth c s.heap [] _ ⟨B.exec, B.bytes, hml, findClass_of_methodNamed B.named, fun w hw => hts w (List.mem_cons_of_mem _ hw)⟩ B.returns B.notSynchronized hF ⟨hP, va_S.rf⟩ hl
end FZROWS
end
section
/-! THE CELLS of the class's world (main object 0; its parts; two plans at 20, 30; fifteen stands from 40 on, thirteen cells each: now, two kept, twelve ahead) and of the model's -/
def fz_KC : Nat := 235
def fz_lC : List fz_Sh := [.inr (8, [some (some 1), some (some 3), some (some 5), some (some 7), some (some 10), some (some 15), some (some 40), some (some 18), some (some 19), some none, some none]), .inr (1, [some (some 2), none]), .inl (0, 96, 0, 0), .inr (4, [some (some 4), none]), .inl (0, 5, 0, 0), .inr (0, [some (some 6), none, none]), .inl (3, 12, 79, 13), .inr (2, [some (some 8), some (some 9), none]), .inl (0, 8, 0, 0), .inl (0, 8, 0, 0), .inr (7, [some (some 11), some (some 12), some (some 13), some (some 14), none, none]), .inl (0, 6, 0, 0), .inl (0, 6, 0, 0), .inl (0, 6, 0, 0), .inl (0, 6, 0, 0), .inr (5, [some none, some none]), .inl (2, 6, 0, 0), .inl (2, 6, 0, 0), .inl (3, 2, 53, 13), .inl (1, 2, 0, 0), .inr (3, [none, none, none, some (some 21), some (some 22), some (some 23), some (some 24), some (some 25), some (some 26), some (some 27), some (some 28), some (some 29)]), .inl (0, 6, 0, 0), .inl (0, 6, 0, 0), .inl (0, 10, 0, 0), .inl (0, 10, 0, 0), .inl (0, 10, 0, 0), .inl (0, 6, 0, 0), .inl (0, 6, 0, 0), .inl (0, 6, 0, 0), .inl (0, 6, 0, 0), .inr (3, [none, none, none, some (some 31), some (some 32), some (some 33), some (some 34), some (some 35), some (some 36), some (some 37), some (some 38), some (some 39)]), .inl (0, 6, 0, 0), .inl (0, 6, 0, 0), .inl (0, 10, 0, 0), .inl (0, 10, 0, 0), .inl (0, 10, 0, 0), .inl (0, 6, 0, 0), .inl (0, 6, 0, 0), .inl (0, 6, 0, 0), .inl (0, 6, 0, 0), .inr (6, [none, some (some 41), some (some 42), some (some 43), some (some 44), some (some 45), some (some 52)]), .inl (0, 6, 0, 0), .inl (0, 6, 0, 0), .inl (0, 6, 0, 0), .inl (0, 6, 0, 0), .inl (4, 6, 46, 1), .inl (0, 8, 0, 0), .inl (0, 8, 0, 0), .inl (0, 8, 0, 0), .inl (0, 8, 0, 0), .inl (0, 8, 0, 0), .inl (0, 8, 0, 0), .inl (1, 10, 0, 0), .inr (6, [none, some (some 54), some (some 55), some (some 56), some (some 57), some (some 58), some (some 65)]), .inl (0, 6, 0, 0), .inl (0, 6, 0, 0), .inl (0, 6, 0, 0), .inl (0, 6, 0, 0), .inl (4, 6, 59, 1), .inl (0, 8, 0, 0), .inl (0, 8, 0, 0), .inl (0, 8, 0, 0), .inl (0, 8, 0, 0), .inl (0, 8, 0, 0), .inl (0, 8, 0, 0), .inl (1, 10, 0, 0), .inr (6, [none, some (some 67), some (some 68), some (some 69), some (some 70), some (some 71), some (some 78)]), .inl (0, 6, 0, 0), .inl (0, 6, 0, 0), .inl (0, 6, 0, 0), .inl (0, 6, 0, 0), .inl (4, 6, 72, 1), .inl (0, 8, 0, 0), .inl (0, 8, 0, 0), .inl (0, 8, 0, 0), .inl (0, 8, 0, 0), .inl (0, 8, 0, 0), .inl (0, 8, 0, 0), .inl (1, 10, 0, 0), .inr (6, [none, some (some 80), some (some 81), some (some 82), some (some 83), some (some 84), some (some 91)]), .inl (0, 6, 0, 0), .inl (0, 6, 0, 0), .inl (0, 6, 0, 0), .inl (0, 6, 0, 0), .inl (4, 6, 85, 1), .inl (0, 8, 0, 0), .inl (0, 8, 0, 0), .inl (0, 8, 0, 0), .inl (0, 8, 0, 0), .inl (0, 8, 0, 0), .inl (0, 8, 0, 0), .inl (1, 10, 0, 0), .inr (6, [none, some (some 93), some (some 94), some (some 95), some (some 96), some (some 97), some (some 104)]), .inl (0, 6, 0, 0), .inl (0, 6, 0, 0), .inl (0, 6, 0, 0), .inl (0, 6, 0, 0), .inl (4, 6, 98, 1), .inl (0, 8, 0, 0), .inl (0, 8, 0, 0), .inl (0, 8, 0, 0), .inl (0, 8, 0, 0), .inl (0, 8, 0, 0), .inl (0, 8, 0, 0), .inl (1, 10, 0, 0), .inr (6, [none, some (some 106), some (some 107), some (some 108), some (some 109), some (some 110), some (some 117)]), .inl (0, 6, 0, 0), .inl (0, 6, 0, 0), .inl (0, 6, 0, 0), .inl (0, 6, 0, 0), .inl (4, 6, 111, 1), .inl (0, 8, 0, 0), .inl (0, 8, 0, 0), .inl (0, 8, 0, 0), .inl (0, 8, 0, 0), .inl (0, 8, 0, 0), .inl (0, 8, 0, 0), .inl (1, 10, 0, 0), .inr (6, [none, some (some 119), some (some 120), some (some 121), some (some 122), some (some 123), some (some 130)]), .inl (0, 6, 0, 0), .inl (0, 6, 0, 0), .inl (0, 6, 0, 0), .inl (0, 6, 0, 0), .inl (4, 6, 124, 1), .inl (0, 8, 0, 0), .inl (0, 8, 0, 0), .inl (0, 8, 0, 0), .inl (0, 8, 0, 0), .inl (0, 8, 0, 0), .inl (0, 8, 0, 0), .inl (1, 10, 0, 0), .inr (6, [none, some (some 132), some (some 133), some (some 134), some (some 135), some (some 136), some (some 143)]), .inl (0, 6, 0, 0), .inl (0, 6, 0, 0), .inl (0, 6, 0, 0), .inl (0, 6, 0, 0), .inl (4, 6, 137, 1), .inl (0, 8, 0, 0), .inl (0, 8, 0, 0), .inl (0, 8, 0, 0), .inl (0, 8, 0, 0), .inl (0, 8, 0, 0), .inl (0, 8, 0, 0), .inl (1, 10, 0, 0), .inr (6, [none, some (some 145), some (some 146), some (some 147), some (some 148), some (some 149), some (some 156)]), .inl (0, 6, 0, 0), .inl (0, 6, 0, 0), .inl (0, 6, 0, 0), .inl (0, 6, 0, 0), .inl (4, 6, 150, 1), .inl (0, 8, 0, 0), .inl (0, 8, 0, 0), .inl (0, 8, 0, 0), .inl (0, 8, 0, 0), .inl (0, 8, 0, 0), .inl (0, 8, 0, 0), .inl (1, 10, 0, 0), .inr (6, [none, some (some 158), some (some 159), some (some 160), some (some 161), some (some 162), some (some 169)]), .inl (0, 6, 0, 0), .inl (0, 6, 0, 0), .inl (0, 6, 0, 0), .inl (0, 6, 0, 0), .inl (4, 6, 163, 1), .inl (0, 8, 0, 0), .inl (0, 8, 0, 0), .inl (0, 8, 0, 0), .inl (0, 8, 0, 0), .inl (0, 8, 0, 0), .inl (0, 8, 0, 0), .inl (1, 10, 0, 0), .inr (6, [none, some (some 171), some (some 172), some (some 173), some (some 174), some (some 175), some (some 182)]), .inl (0, 6, 0, 0), .inl (0, 6, 0, 0), .inl (0, 6, 0, 0), .inl (0, 6, 0, 0), .inl (4, 6, 176, 1), .inl (0, 8, 0, 0), .inl (0, 8, 0, 0), .inl (0, 8, 0, 0), .inl (0, 8, 0, 0), .inl (0, 8, 0, 0), .inl (0, 8, 0, 0), .inl (1, 10, 0, 0), .inr (6, [none, some (some 184), some (some 185), some (some 186), some (some 187), some (some 188), some (some 195)]), .inl (0, 6, 0, 0), .inl (0, 6, 0, 0), .inl (0, 6, 0, 0), .inl (0, 6, 0, 0), .inl (4, 6, 189, 1), .inl (0, 8, 0, 0), .inl (0, 8, 0, 0), .inl (0, 8, 0, 0), .inl (0, 8, 0, 0), .inl (0, 8, 0, 0), .inl (0, 8, 0, 0), .inl (1, 10, 0, 0), .inr (6, [none, some (some 197), some (some 198), some (some 199), some (some 200), some (some 201), some (some 208)]), .inl (0, 6, 0, 0), .inl (0, 6, 0, 0), .inl (0, 6, 0, 0), .inl (0, 6, 0, 0), .inl (4, 6, 202, 1), .inl (0, 8, 0, 0), .inl (0, 8, 0, 0), .inl (0, 8, 0, 0), .inl (0, 8, 0, 0), .inl (0, 8, 0, 0), .inl (0, 8, 0, 0), .inl (1, 10, 0, 0), .inr (6, [none, some (some 210), some (some 211), some (some 212), some (some 213), some (some 214), some (some 221)]), .inl (0, 6, 0, 0), .inl (0, 6, 0, 0), .inl (0, 6, 0, 0), .inl (0, 6, 0, 0), .inl (4, 6, 215, 1), .inl (0, 8, 0, 0), .inl (0, 8, 0, 0), .inl (0, 8, 0, 0), .inl (0, 8, 0, 0), .inl (0, 8, 0, 0), .inl (0, 8, 0, 0), .inl (1, 10, 0, 0), .inr (6, [none, some (some 223), some (some 224), some (some 225), some (some 226), some (some 227), some (some 234)]), .inl (0, 6, 0, 0), .inl (0, 6, 0, 0), .inl (0, 6, 0, 0), .inl (0, 6, 0, 0), .inl (4, 6, 228, 1), .inl (0, 8, 0, 0), .inl (0, 8, 0, 0), .inl (0, 8, 0, 0), .inl (0, 8, 0, 0), .inl (0, 8, 0, 0), .inl (0, 8, 0, 0), .inl (1, 10, 0, 0)]
def fz_shC (c : Nat) : fz_Sh := fz_lC.getD c (.inl (0, 0, 0, 0))
def fz_KM : Nat := 36
def fz_lM : List fz_Sh := [.inr (9, [none, some (some 1), none, none, none, none, none, some (some 2), some (some 3), some (some 4), some (some 5), some (some 6), some (some 7), some (some 8), some (some 9), some (some 10), some (some 11), some (some 12), some (some 13), some (some 14), some (some 15), none, none, none, none, some (some 16), some (some 17), some (some 18), some (some 19), some (some 20), some (some 21), some (some 22), some (some 23), some (some 24), some (some 25), none, some (some 26), some (some 27), some (some 28), some (some 29), some (some 30), some (some 31), none, none, some (some 32), some (some 33), some (some 34), some (some 35), none]), .inl (0, 96, 0, 0), .inl (0, 6, 0, 0), .inl (0, 6, 0, 0), .inl (0, 10, 0, 0), .inl (0, 10, 0, 0), .inl (0, 10, 0, 0), .inl (1, 10, 0, 0), .inl (0, 6, 0, 0), .inl (0, 6, 0, 0), .inl (0, 6, 0, 0), .inl (0, 6, 0, 0), .inl (0, 6, 0, 0), .inl (0, 48, 0, 0), .inl (0, 6, 0, 0), .inl (0, 6, 0, 0), .inl (0, 6, 0, 0), .inl (0, 6, 0, 0), .inl (0, 10, 0, 0), .inl (0, 10, 0, 0), .inl (0, 10, 0, 0), .inl (0, 6, 0, 0), .inl (0, 6, 0, 0), .inl (0, 6, 0, 0), .inl (0, 6, 0, 0), .inl (0, 876, 0, 0), .inl (0, 146, 0, 0), .inl (1, 20, 0, 0), .inl (1, 2, 0, 0), .inl (0, 6, 0, 0), .inl (0, 6, 0, 0), .inl (0, 6, 0, 0), .inl (0, 8, 0, 0), .inl (0, 8, 0, 0), .inl (2, 6, 0, 0), .inl (2, 6, 0, 0)]
def fz_shM (c : Nat) : fz_Sh := fz_lM.getD c (.inl (0, 0, 0, 0))
theorem fz_c0 : fz_ob fz_shC fz_KC 0 8 [some (some 1), some (some 3), some (some 5), some (some 7), some (some 10), some (some 15), some (some 40), some (some 18), some (some 19), some none, some none] := ⟨by decide, rfl⟩
theorem fz_c1 : fz_ob fz_shC fz_KC 1 1 [some (some 2), none] := ⟨by decide, rfl⟩
theorem fz_c3 : fz_ob fz_shC fz_KC 3 4 [some (some 4), none] := ⟨by decide, rfl⟩
theorem fz_c5 : fz_ob fz_shC fz_KC 5 0 [some (some 6), none, none] := ⟨by decide, rfl⟩
theorem fz_c7 : fz_ob fz_shC fz_KC 7 2 [some (some 8), some (some 9), none] := ⟨by decide, rfl⟩
theorem fz_c10 : fz_ob fz_shC fz_KC 10 7 [some (some 11), some (some 12), some (some 13), some (some 14), none, none] := ⟨by decide, rfl⟩
theorem fz_c15 : fz_ob fz_shC fz_KC 15 5 [some none, some none] := ⟨by decide, rfl⟩
theorem fz_c2 : fz_ar fz_shC fz_KC 2 0 96 0 0 := ⟨by decide, rfl⟩
theorem fz_c4 : fz_ar fz_shC fz_KC 4 0 5 0 0 := ⟨by decide, rfl⟩
theorem fz_c6 : fz_ar fz_shC fz_KC 6 3 12 79 13 := ⟨by decide, rfl⟩
theorem fz_c8 : fz_ar fz_shC fz_KC 8 0 8 0 0 := ⟨by decide, rfl⟩
theorem fz_c9 : fz_ar fz_shC fz_KC 9 0 8 0 0 := ⟨by decide, rfl⟩
theorem fz_c11 : fz_ar fz_shC fz_KC 11 0 6 0 0 := ⟨by decide, rfl⟩
theorem fz_c12 : fz_ar fz_shC fz_KC 12 0 6 0 0 := ⟨by decide, rfl⟩
theorem fz_c13 : fz_ar fz_shC fz_KC 13 0 6 0 0 := ⟨by decide, rfl⟩
theorem fz_c14 : fz_ar fz_shC fz_KC 14 0 6 0 0 := ⟨by decide, rfl⟩
theorem fz_c16 : fz_ar fz_shC fz_KC 16 2 6 0 0 := ⟨by decide, rfl⟩
theorem fz_c17 : fz_ar fz_shC fz_KC 17 2 6 0 0 := ⟨by decide, rfl⟩
theorem fz_c18 : fz_ar fz_shC fz_KC 18 3 2 53 13 := ⟨by decide, rfl⟩
theorem fz_c19 : fz_ar fz_shC fz_KC 19 1 2 0 0 := ⟨by decide, rfl⟩
theorem fz_m0 : fz_ob fz_shM fz_KM 0 9 [none, some (some 1), none, none, none, none, none, some (some 2), some (some 3), some (some 4), some (some 5), some (some 6), some (some 7), some (some 8), some (some 9), some (some 10), some (some 11), some (some 12), some (some 13), some (some 14), some (some 15), none, none, none, none, some (some 16), some (some 17), some (some 18), some (some 19), some (some 20), some (some 21), some (some 22), some (some 23), some (some 24), some (some 25), none, some (some 26), some (some 27), some (some 28), some (some 29), some (some 30), some (some 31), none, none, some (some 32), some (some 33), some (some 34), some (some 35), none] := ⟨by decide, rfl⟩
theorem fz_m1 : fz_ar fz_shM fz_KM 1 0 96 0 0 := ⟨by decide, rfl⟩
theorem fz_m2 : fz_ar fz_shM fz_KM 2 0 6 0 0 := ⟨by decide, rfl⟩
theorem fz_m3 : fz_ar fz_shM fz_KM 3 0 6 0 0 := ⟨by decide, rfl⟩
theorem fz_m4 : fz_ar fz_shM fz_KM 4 0 10 0 0 := ⟨by decide, rfl⟩
theorem fz_m5 : fz_ar fz_shM fz_KM 5 0 10 0 0 := ⟨by decide, rfl⟩
theorem fz_m6 : fz_ar fz_shM fz_KM 6 0 10 0 0 := ⟨by decide, rfl⟩
theorem fz_m7 : fz_ar fz_shM fz_KM 7 1 10 0 0 := ⟨by decide, rfl⟩
theorem fz_m8 : fz_ar fz_shM fz_KM 8 0 6 0 0 := ⟨by decide, rfl⟩
theorem fz_m9 : fz_ar fz_shM fz_KM 9 0 6 0 0 := ⟨by decide, rfl⟩
theorem fz_m10 : fz_ar fz_shM fz_KM 10 0 6 0 0 := ⟨by decide, rfl⟩
theorem fz_m11 : fz_ar fz_shM fz_KM 11 0 6 0 0 := ⟨by decide, rfl⟩
theorem fz_m12 : fz_ar fz_shM fz_KM 12 0 6 0 0 := ⟨by decide, rfl⟩
theorem fz_m13 : fz_ar fz_shM fz_KM 13 0 48 0 0 := ⟨by decide, rfl⟩
theorem fz_m14 : fz_ar fz_shM fz_KM 14 0 6 0 0 := ⟨by decide, rfl⟩
theorem fz_m15 : fz_ar fz_shM fz_KM 15 0 6 0 0 := ⟨by decide, rfl⟩
theorem fz_m16 : fz_ar fz_shM fz_KM 16 0 6 0 0 := ⟨by decide, rfl⟩
theorem fz_m17 : fz_ar fz_shM fz_KM 17 0 6 0 0 := ⟨by decide, rfl⟩
theorem fz_m18 : fz_ar fz_shM fz_KM 18 0 10 0 0 := ⟨by decide, rfl⟩
theorem fz_m19 : fz_ar fz_shM fz_KM 19 0 10 0 0 := ⟨by decide, rfl⟩
theorem fz_m20 : fz_ar fz_shM fz_KM 20 0 10 0 0 := ⟨by decide, rfl⟩
theorem fz_m21 : fz_ar fz_shM fz_KM 21 0 6 0 0 := ⟨by decide, rfl⟩
theorem fz_m22 : fz_ar fz_shM fz_KM 22 0 6 0 0 := ⟨by decide, rfl⟩
theorem fz_m23 : fz_ar fz_shM fz_KM 23 0 6 0 0 := ⟨by decide, rfl⟩
theorem fz_m24 : fz_ar fz_shM fz_KM 24 0 6 0 0 := ⟨by decide, rfl⟩
theorem fz_m25 : fz_ar fz_shM fz_KM 25 0 876 0 0 := ⟨by decide, rfl⟩
theorem fz_m26 : fz_ar fz_shM fz_KM 26 0 146 0 0 := ⟨by decide, rfl⟩
theorem fz_m27 : fz_ar fz_shM fz_KM 27 1 20 0 0 := ⟨by decide, rfl⟩
theorem fz_m28 : fz_ar fz_shM fz_KM 28 1 2 0 0 := ⟨by decide, rfl⟩
theorem fz_m29 : fz_ar fz_shM fz_KM 29 0 6 0 0 := ⟨by decide, rfl⟩
theorem fz_m30 : fz_ar fz_shM fz_KM 30 0 6 0 0 := ⟨by decide, rfl⟩
theorem fz_m31 : fz_ar fz_shM fz_KM 31 0 6 0 0 := ⟨by decide, rfl⟩
theorem fz_m32 : fz_ar fz_shM fz_KM 32 0 8 0 0 := ⟨by decide, rfl⟩
theorem fz_m33 : fz_ar fz_shM fz_KM 33 0 8 0 0 := ⟨by decide, rfl⟩
theorem fz_m34 : fz_ar fz_shM fz_KM 34 2 6 0 0 := ⟨by decide, rfl⟩
theorem fz_m35 : fz_ar fz_shM fz_KM 35 2 6 0 0 := ⟨by decide, rfl⟩
/-- a plan's cell; a row of longs of the spread; a stand's cell; a page row of the model -/
def fz_isP (k : Nat) : Bool := k == 20 || k == 30
def fz_isL (k : Nat) : Bool := k == 16 || k == 17
def fz_isS (k : Nat) : Prop := ∃ j, j < 15 ∧ k = 40 + 13 * j
def fz_isG (k : Nat) : Prop := k = 25 ∨ k = 26
def fz_pg (k : Nat) : Nat := if k = 25 then 876 else 146
theorem fz_j15 {j : Nat} (h : j < 15) : j = 0 ∨ j = 1 ∨ j = 2 ∨ j = 3 ∨ j = 4 ∨ j = 5 ∨ j = 6 ∨ j = 7 ∨ j = 8 ∨ j = 9 ∨ j = 10 ∨ j = 11 ∨ j = 12 ∨ j = 13 ∨ j = 14 := by omega
theorem fz_i6 {j : Nat} (h : j < 6) : j = 0 ∨ j = 1 ∨ j = 2 ∨ j = 3 ∨ j = 4 ∨ j = 5 := by omega
theorem fz_isP_s {k : Nat} (h : fz_isP k = true) : k = 20 ∨ k = 30 := by simpa [fz_isP] using h
theorem fz_isL_s {k : Nat} (h : fz_isL k = true) : k = 16 ∨ k = 17 := by simpa [fz_isL] using h
theorem fz_now : fz_isS 40 := ⟨0, by decide, rfl⟩
theorem fz_lg {k : Nat} (h : fz_isL k = true) : fz_ar fz_shC fz_KC k 2 6 0 0 := by rcases fz_isL_s h with rfl | rfl <;> exact ⟨by decide, rfl⟩
theorem fz_mp {k : Nat} (h : fz_isG k) : fz_ar fz_shM fz_KM k 0 (fz_pg k) 0 0 := by rcases h with rfl | rfl <;> exact ⟨by decide, rfl⟩
theorem fz_stk {i : Int32} (h : fz_in i 2 = true) : fz_isS (53 + 13 * i.toNatClampNeg) := by
  unfold fz_in at h
  rw [Bool.and_eq_true, decide_eq_true_eq, decide_eq_true_eq] at h
  exact ⟨i.toNatClampNeg + 1, by omega, by omega⟩
theorem fz_sta {i : Int32} (h : fz_in i 12 = true) : fz_isS (79 + 13 * i.toNatClampNeg) := by
  unfold fz_in at h
  rw [Bool.and_eq_true, decide_eq_true_eq, decide_eq_true_eq] at h
  exact ⟨i.toNatClampNeg + 3, by omega, by omega⟩
theorem fz_pl {k : Nat} (h : fz_isP k = true) : fz_ob fz_shC fz_KC k 3 [none, none, none, some (some (k + 1)), some (some (k + 2)), some (some (k + 3)), some (some (k + 4)), some (some (k + 5)), some (some (k + 6)), some (some (k + 7)), some (some (k + 8)), some (some (k + 9))] := by rcases fz_isP_s h with rfl | rfl <;> exact ⟨by decide, rfl⟩
theorem fz_pl1 {k : Nat} (h : fz_isP k = true) : fz_ar fz_shC fz_KC (k + 1) 0 6 0 0 := by rcases fz_isP_s h with rfl | rfl <;> exact ⟨by decide, rfl⟩
theorem fz_pl2 {k : Nat} (h : fz_isP k = true) : fz_ar fz_shC fz_KC (k + 2) 0 6 0 0 := by rcases fz_isP_s h with rfl | rfl <;> exact ⟨by decide, rfl⟩
theorem fz_pl3 {k : Nat} (h : fz_isP k = true) : fz_ar fz_shC fz_KC (k + 3) 0 10 0 0 := by rcases fz_isP_s h with rfl | rfl <;> exact ⟨by decide, rfl⟩
theorem fz_pl4 {k : Nat} (h : fz_isP k = true) : fz_ar fz_shC fz_KC (k + 4) 0 10 0 0 := by rcases fz_isP_s h with rfl | rfl <;> exact ⟨by decide, rfl⟩
theorem fz_pl5 {k : Nat} (h : fz_isP k = true) : fz_ar fz_shC fz_KC (k + 5) 0 10 0 0 := by rcases fz_isP_s h with rfl | rfl <;> exact ⟨by decide, rfl⟩
theorem fz_pl6 {k : Nat} (h : fz_isP k = true) : fz_ar fz_shC fz_KC (k + 6) 0 6 0 0 := by rcases fz_isP_s h with rfl | rfl <;> exact ⟨by decide, rfl⟩
theorem fz_pl7 {k : Nat} (h : fz_isP k = true) : fz_ar fz_shC fz_KC (k + 7) 0 6 0 0 := by rcases fz_isP_s h with rfl | rfl <;> exact ⟨by decide, rfl⟩
theorem fz_pl8 {k : Nat} (h : fz_isP k = true) : fz_ar fz_shC fz_KC (k + 8) 0 6 0 0 := by rcases fz_isP_s h with rfl | rfl <;> exact ⟨by decide, rfl⟩
theorem fz_pl9 {k : Nat} (h : fz_isP k = true) : fz_ar fz_shC fz_KC (k + 9) 0 6 0 0 := by rcases fz_isP_s h with rfl | rfl <;> exact ⟨by decide, rfl⟩
theorem fz_st_a : ∀ j, j < 15 → ((40 + 13 * j) < fz_KC ∧ fz_shC (40 + 13 * j) = .inr (6, [none, some (some ((40 + 13 * j) + 1)), some (some ((40 + 13 * j) + 2)), some (some ((40 + 13 * j) + 3)), some (some ((40 + 13 * j) + 4)), some (some ((40 + 13 * j) + 5)), some (some ((40 + 13 * j) + 12))])) := by
  intro j hj
  rcases fz_j15 hj with rfl | rfl | rfl | rfl | rfl | rfl | rfl | rfl | rfl | rfl | rfl | rfl | rfl | rfl | rfl <;> exact ⟨by decide, rfl⟩
theorem fz_st {k : Nat} (h : fz_isS k) : fz_ob fz_shC fz_KC k 6 [none, some (some (k + 1)), some (some (k + 2)), some (some (k + 3)), some (some (k + 4)), some (some (k + 5)), some (some (k + 12))] := by
  obtain ⟨j, hj, rfl⟩ := h
  exact fz_st_a j hj
theorem fz_st1_a : ∀ j, j < 15 → ((40 + 13 * j) + 1 < fz_KC ∧ fz_shC ((40 + 13 * j) + 1) = .inl (0, 6, 0, 0)) := by
  intro j hj
  rcases fz_j15 hj with rfl | rfl | rfl | rfl | rfl | rfl | rfl | rfl | rfl | rfl | rfl | rfl | rfl | rfl | rfl <;> exact ⟨by decide, rfl⟩
theorem fz_st1 {k : Nat} (h : fz_isS k) : fz_ar fz_shC fz_KC (k + 1) 0 6 0 0 := by
  obtain ⟨j, hj, rfl⟩ := h
  exact fz_st1_a j hj
theorem fz_st2_a : ∀ j, j < 15 → ((40 + 13 * j) + 2 < fz_KC ∧ fz_shC ((40 + 13 * j) + 2) = .inl (0, 6, 0, 0)) := by
  intro j hj
  rcases fz_j15 hj with rfl | rfl | rfl | rfl | rfl | rfl | rfl | rfl | rfl | rfl | rfl | rfl | rfl | rfl | rfl <;> exact ⟨by decide, rfl⟩
theorem fz_st2 {k : Nat} (h : fz_isS k) : fz_ar fz_shC fz_KC (k + 2) 0 6 0 0 := by
  obtain ⟨j, hj, rfl⟩ := h
  exact fz_st2_a j hj
theorem fz_st3_a : ∀ j, j < 15 → ((40 + 13 * j) + 3 < fz_KC ∧ fz_shC ((40 + 13 * j) + 3) = .inl (0, 6, 0, 0)) := by
  intro j hj
  rcases fz_j15 hj with rfl | rfl | rfl | rfl | rfl | rfl | rfl | rfl | rfl | rfl | rfl | rfl | rfl | rfl | rfl <;> exact ⟨by decide, rfl⟩
theorem fz_st3 {k : Nat} (h : fz_isS k) : fz_ar fz_shC fz_KC (k + 3) 0 6 0 0 := by
  obtain ⟨j, hj, rfl⟩ := h
  exact fz_st3_a j hj
theorem fz_st4_a : ∀ j, j < 15 → ((40 + 13 * j) + 4 < fz_KC ∧ fz_shC ((40 + 13 * j) + 4) = .inl (0, 6, 0, 0)) := by
  intro j hj
  rcases fz_j15 hj with rfl | rfl | rfl | rfl | rfl | rfl | rfl | rfl | rfl | rfl | rfl | rfl | rfl | rfl | rfl <;> exact ⟨by decide, rfl⟩
theorem fz_st4 {k : Nat} (h : fz_isS k) : fz_ar fz_shC fz_KC (k + 4) 0 6 0 0 := by
  obtain ⟨j, hj, rfl⟩ := h
  exact fz_st4_a j hj
theorem fz_st5_a : ∀ j, j < 15 → ((40 + 13 * j) + 5 < fz_KC ∧ fz_shC ((40 + 13 * j) + 5) = .inl (4, 6, (40 + 13 * j) + 6, 1)) := by
  intro j hj
  rcases fz_j15 hj with rfl | rfl | rfl | rfl | rfl | rfl | rfl | rfl | rfl | rfl | rfl | rfl | rfl | rfl | rfl <;> exact ⟨by decide, rfl⟩
theorem fz_st5 {k : Nat} (h : fz_isS k) : fz_ar fz_shC fz_KC (k + 5) 4 6 (k + 6) 1 := by
  obtain ⟨j, hj, rfl⟩ := h
  exact fz_st5_a j hj
theorem fz_st12_a : ∀ j, j < 15 → ((40 + 13 * j) + 12 < fz_KC ∧ fz_shC ((40 + 13 * j) + 12) = .inl (1, 10, 0, 0)) := by
  intro j hj
  rcases fz_j15 hj with rfl | rfl | rfl | rfl | rfl | rfl | rfl | rfl | rfl | rfl | rfl | rfl | rfl | rfl | rfl <;> exact ⟨by decide, rfl⟩
theorem fz_st12 {k : Nat} (h : fz_isS k) : fz_ar fz_shC fz_KC (k + 12) 1 10 0 0 := by
  obtain ⟨j, hj, rfl⟩ := h
  exact fz_st12_a j hj
theorem fz_str_a : ∀ j, j < 15 → ∀ i, i < 6 → ((40 + 13 * j) + 6 + 1 * i < fz_KC ∧ fz_shC ((40 + 13 * j) + 6 + 1 * i) = .inl (0, 8, 0, 0)) := by
  intro j hj i hi
  rcases fz_j15 hj with rfl | rfl | rfl | rfl | rfl | rfl | rfl | rfl | rfl | rfl | rfl | rfl | rfl | rfl | rfl <;> rcases fz_i6 hi with rfl | rfl | rfl | rfl | rfl | rfl <;> exact ⟨by decide, rfl⟩
theorem fz_str {k : Nat} (h : fz_isS k) {i : Int32} (hi : fz_in i 6 = true) : fz_ar fz_shC fz_KC (k + 6 + 1 * i.toNatClampNeg) 0 8 0 0 := by
  obtain ⟨j, hj, rfl⟩ := h
  unfold fz_in at hi
  rw [Bool.and_eq_true, decide_eq_true_eq, decide_eq_true_eq] at hi
  exact fz_str_a j hj _ hi.2
def fz_nzi (y : Int32) : Bool := !decide (y = 0)
def fz_nzl (y : Int64) : Bool := !decide (y = 0)
theorem fz_nzi_s {y : Int32} (h : fz_nzi y = true) : ¬ y = 0 := by simpa [fz_nzi] using h
theorem fz_nzl_s {y : Int64} (h : fz_nzl y = true) : ¬ y = 0 := by simpa [fz_nzl] using h
theorem fz_ni {x y : Int32} {i : Int} (h : ¬ x = y) (hi : y.toInt = i) : x.toInt ≠ i := fun q => h (Int32.toInt_inj.mp (q.trans hi.symm))
section FZNM
variable {p : Program} {l : Launch} {e : Env} {R : Room} {s : State} {m : MethodId} {args : Array Value} {below : List Frame} {meth : Method} {c : Code} {H : Heap} {locs : List Loc} {cells slots pc : Nat} {ls : Array Slot} {rest : List Value} {Q : State → Prop}
theorem fz_nmi {x y : Int32} (h : y = x) (k : W p l e R s m args below meth c H locs cells slots Q (F0 m pc ls (.int y :: rest))) : W p l e R s m args below meth c H locs cells slots Q (F0 m pc ls (.int x :: rest)) := h ▸ k
theorem fz_nml {x y : Int64} (h : y = x) (k : W p l e R s m args below meth c H locs cells slots Q (F0 m pc ls (.long y :: rest))) : W p l e R s m args below meth c H locs cells slots Q (F0 m pc ls (.long x :: rest)) := h ▸ k
end FZNM
end
section
theorem fz_q1 : ∀ w ∈ wsL_law_r1, w ∈ wsL_law := fun _ h => (List.mem_append_left _ (List.mem_append_left _ (List.mem_append_left _ (List.mem_append_left _ (List.mem_append_left _ (List.mem_append_left _ (List.mem_append_left _ (List.mem_append_left _ (List.mem_append_left _ (List.mem_append_left _ (List.mem_append_left _ (List.mem_append_left _ h))))))))))))
theorem fz_q2 : ∀ w ∈ wsL_law_r2, w ∈ wsL_law := fun _ h => (List.mem_append_left _ (List.mem_append_left _ (List.mem_append_left _ (List.mem_append_left _ (List.mem_append_left _ (List.mem_append_left _ (List.mem_append_left _ (List.mem_append_left _ (List.mem_append_left _ (List.mem_append_left _ (List.mem_append_left _ (List.mem_append_right _ (List.mem_append_left _ h)))))))))))))
theorem fz_q3 : ∀ w ∈ wsL_law_r3, w ∈ wsL_law := fun _ h => (List.mem_append_left _ (List.mem_append_left _ (List.mem_append_left _ (List.mem_append_left _ (List.mem_append_left _ (List.mem_append_left _ (List.mem_append_left _ (List.mem_append_left _ (List.mem_append_left _ (List.mem_append_left _ (List.mem_append_left _ (List.mem_append_right _ (List.mem_append_right _ (List.mem_append_left _ h))))))))))))))
theorem fz_q4 : ∀ w ∈ wsL_law_r4, w ∈ wsL_law := fun _ h => (List.mem_append_left _ (List.mem_append_left _ (List.mem_append_left _ (List.mem_append_left _ (List.mem_append_left _ (List.mem_append_left _ (List.mem_append_left _ (List.mem_append_left _ (List.mem_append_left _ (List.mem_append_left _ (List.mem_append_left _ (List.mem_append_right _ (List.mem_append_right _ (List.mem_append_right _ (List.mem_append_left _ h)))))))))))))))
theorem fz_q5 : ∀ w ∈ wsL_law_r5, w ∈ wsL_law := fun _ h => (List.mem_append_left _ (List.mem_append_left _ (List.mem_append_left _ (List.mem_append_left _ (List.mem_append_left _ (List.mem_append_left _ (List.mem_append_left _ (List.mem_append_left _ (List.mem_append_left _ (List.mem_append_left _ (List.mem_append_left _ (List.mem_append_right _ (List.mem_append_right _ (List.mem_append_right _ (List.mem_append_right _ (List.mem_append_left _ h))))))))))))))))
theorem fz_q6 : ∀ w ∈ wsL_law_r6, w ∈ wsL_law := fun _ h => (List.mem_append_left _ (List.mem_append_left _ (List.mem_append_left _ (List.mem_append_left _ (List.mem_append_left _ (List.mem_append_left _ (List.mem_append_left _ (List.mem_append_left _ (List.mem_append_left _ (List.mem_append_left _ (List.mem_append_left _ (List.mem_append_right _ (List.mem_append_right _ (List.mem_append_right _ (List.mem_append_right _ (List.mem_append_right _ (List.mem_append_left _ h)))))))))))))))))
theorem fz_q7 : ∀ w ∈ wsL_law_r7, w ∈ wsL_law := fun _ h => (List.mem_append_left _ (List.mem_append_left _ (List.mem_append_left _ (List.mem_append_left _ (List.mem_append_left _ (List.mem_append_left _ (List.mem_append_left _ (List.mem_append_left _ (List.mem_append_left _ (List.mem_append_left _ (List.mem_append_left _ (List.mem_append_right _ (List.mem_append_right _ (List.mem_append_right _ (List.mem_append_right _ (List.mem_append_right _ (List.mem_append_right _ (List.mem_append_left _ h))))))))))))))))))
theorem fz_q8 : ∀ w ∈ wsL_law_r8, w ∈ wsL_law := fun _ h => (List.mem_append_left _ (List.mem_append_left _ (List.mem_append_left _ (List.mem_append_left _ (List.mem_append_left _ (List.mem_append_left _ (List.mem_append_left _ (List.mem_append_left _ (List.mem_append_left _ (List.mem_append_left _ (List.mem_append_left _ (List.mem_append_right _ (List.mem_append_right _ (List.mem_append_right _ (List.mem_append_right _ (List.mem_append_right _ (List.mem_append_right _ (List.mem_append_right _ (List.mem_append_left _ h)))))))))))))))))))
theorem fz_q9 : ∀ w ∈ wsL_law_r9, w ∈ wsL_law := fun _ h => (List.mem_append_left _ (List.mem_append_left _ (List.mem_append_left _ (List.mem_append_left _ (List.mem_append_left _ (List.mem_append_left _ (List.mem_append_left _ (List.mem_append_left _ (List.mem_append_left _ (List.mem_append_left _ (List.mem_append_left _ (List.mem_append_right _ (List.mem_append_right _ (List.mem_append_right _ (List.mem_append_right _ (List.mem_append_right _ (List.mem_append_right _ (List.mem_append_right _ (List.mem_append_right _ (List.mem_append_left _ h))))))))))))))))))))
theorem fz_q10 : ∀ w ∈ wsL_law_r10, w ∈ wsL_law := fun _ h => (List.mem_append_left _ (List.mem_append_left _ (List.mem_append_left _ (List.mem_append_left _ (List.mem_append_left _ (List.mem_append_left _ (List.mem_append_left _ (List.mem_append_left _ (List.mem_append_left _ (List.mem_append_left _ (List.mem_append_left _ (List.mem_append_right _ (List.mem_append_right _ (List.mem_append_right _ (List.mem_append_right _ (List.mem_append_right _ (List.mem_append_right _ (List.mem_append_right _ (List.mem_append_right _ (List.mem_append_right _ (List.mem_append_left _ h)))))))))))))))))))))
theorem fz_q11 : ∀ w ∈ wsL_law_r11, w ∈ wsL_law := fun _ h => (List.mem_append_left _ (List.mem_append_left _ (List.mem_append_left _ (List.mem_append_left _ (List.mem_append_left _ (List.mem_append_left _ (List.mem_append_left _ (List.mem_append_left _ (List.mem_append_left _ (List.mem_append_left _ (List.mem_append_left _ (List.mem_append_right _ (List.mem_append_right _ (List.mem_append_right _ (List.mem_append_right _ (List.mem_append_right _ (List.mem_append_right _ (List.mem_append_right _ (List.mem_append_right _ (List.mem_append_right _ (List.mem_append_right _ (List.mem_append_left _ h))))))))))))))))))))))
theorem fz_q12 : ∀ w ∈ wsL_law_r12, w ∈ wsL_law := fun _ h => (List.mem_append_left _ (List.mem_append_left _ (List.mem_append_left _ (List.mem_append_left _ (List.mem_append_left _ (List.mem_append_left _ (List.mem_append_left _ (List.mem_append_left _ (List.mem_append_left _ (List.mem_append_left _ (List.mem_append_left _ (List.mem_append_right _ (List.mem_append_right _ (List.mem_append_right _ (List.mem_append_right _ (List.mem_append_right _ (List.mem_append_right _ (List.mem_append_right _ (List.mem_append_right _ (List.mem_append_right _ (List.mem_append_right _ (List.mem_append_right _ (List.mem_append_left _ h)))))))))))))))))))))))
theorem fz_q13 : ∀ w ∈ wsL_law_r13, w ∈ wsL_law := fun _ h => (List.mem_append_left _ (List.mem_append_left _ (List.mem_append_left _ (List.mem_append_left _ (List.mem_append_left _ (List.mem_append_left _ (List.mem_append_left _ (List.mem_append_left _ (List.mem_append_left _ (List.mem_append_left _ (List.mem_append_left _ (List.mem_append_right _ (List.mem_append_right _ (List.mem_append_right _ (List.mem_append_right _ (List.mem_append_right _ (List.mem_append_right _ (List.mem_append_right _ (List.mem_append_right _ (List.mem_append_right _ (List.mem_append_right _ (List.mem_append_right _ (List.mem_append_right _ (List.mem_append_left _ h))))))))))))))))))))))))
theorem fz_q14 : ∀ w ∈ wsL_law_r14, w ∈ wsL_law := fun _ h => (List.mem_append_left _ (List.mem_append_left _ (List.mem_append_left _ (List.mem_append_left _ (List.mem_append_left _ (List.mem_append_left _ (List.mem_append_left _ (List.mem_append_left _ (List.mem_append_left _ (List.mem_append_left _ (List.mem_append_left _ (List.mem_append_right _ (List.mem_append_right _ (List.mem_append_right _ (List.mem_append_right _ (List.mem_append_right _ (List.mem_append_right _ (List.mem_append_right _ (List.mem_append_right _ (List.mem_append_right _ (List.mem_append_right _ (List.mem_append_right _ (List.mem_append_right _ (List.mem_append_right _ (List.mem_append_left _ h)))))))))))))))))))))))))
theorem fz_q15 : ∀ w ∈ wsL_law_r15, w ∈ wsL_law := fun _ h => (List.mem_append_left _ (List.mem_append_left _ (List.mem_append_left _ (List.mem_append_left _ (List.mem_append_left _ (List.mem_append_left _ (List.mem_append_left _ (List.mem_append_left _ (List.mem_append_left _ (List.mem_append_left _ (List.mem_append_left _ (List.mem_append_right _ (List.mem_append_right _ (List.mem_append_right _ (List.mem_append_right _ (List.mem_append_right _ (List.mem_append_right _ (List.mem_append_right _ (List.mem_append_right _ (List.mem_append_right _ (List.mem_append_right _ (List.mem_append_right _ (List.mem_append_right _ (List.mem_append_right _ (List.mem_append_right _ (List.mem_append_left _ h))))))))))))))))))))))))))
theorem fz_q16 : ∀ w ∈ wsL_law_r16, w ∈ wsL_law := fun _ h => (List.mem_append_left _ (List.mem_append_left _ (List.mem_append_left _ (List.mem_append_left _ (List.mem_append_left _ (List.mem_append_left _ (List.mem_append_left _ (List.mem_append_left _ (List.mem_append_left _ (List.mem_append_left _ (List.mem_append_left _ (List.mem_append_right _ (List.mem_append_right _ (List.mem_append_right _ (List.mem_append_right _ (List.mem_append_right _ (List.mem_append_right _ (List.mem_append_right _ (List.mem_append_right _ (List.mem_append_right _ (List.mem_append_right _ (List.mem_append_right _ (List.mem_append_right _ (List.mem_append_right _ (List.mem_append_right _ (List.mem_append_right _ (List.mem_append_left _ h)))))))))))))))))))))))))))
theorem fz_q17 : ∀ w ∈ wsL_law_r17, w ∈ wsL_law := fun _ h => (List.mem_append_left _ (List.mem_append_left _ (List.mem_append_left _ (List.mem_append_left _ (List.mem_append_left _ (List.mem_append_left _ (List.mem_append_left _ (List.mem_append_left _ (List.mem_append_left _ (List.mem_append_left _ (List.mem_append_left _ (List.mem_append_right _ (List.mem_append_right _ (List.mem_append_right _ (List.mem_append_right _ (List.mem_append_right _ (List.mem_append_right _ (List.mem_append_right _ (List.mem_append_right _ (List.mem_append_right _ (List.mem_append_right _ (List.mem_append_right _ (List.mem_append_right _ (List.mem_append_right _ (List.mem_append_right _ (List.mem_append_right _ (List.mem_append_right _ (List.mem_append_left _ h))))))))))))))))))))))))))))
theorem fz_q18 : ∀ w ∈ wsL_law_r18, w ∈ wsL_law := fun _ h => (List.mem_append_left _ (List.mem_append_left _ (List.mem_append_left _ (List.mem_append_left _ (List.mem_append_left _ (List.mem_append_left _ (List.mem_append_left _ (List.mem_append_left _ (List.mem_append_left _ (List.mem_append_left _ (List.mem_append_left _ (List.mem_append_right _ (List.mem_append_right _ (List.mem_append_right _ (List.mem_append_right _ (List.mem_append_right _ (List.mem_append_right _ (List.mem_append_right _ (List.mem_append_right _ (List.mem_append_right _ (List.mem_append_right _ (List.mem_append_right _ (List.mem_append_right _ (List.mem_append_right _ (List.mem_append_right _ (List.mem_append_right _ (List.mem_append_right _ (List.mem_append_right _ (List.mem_append_left _ h)))))))))))))))))))))))))))))
theorem fz_q19 : ∀ w ∈ wsL_law_r19, w ∈ wsL_law := fun _ h => (List.mem_append_left _ (List.mem_append_left _ (List.mem_append_left _ (List.mem_append_left _ (List.mem_append_left _ (List.mem_append_left _ (List.mem_append_left _ (List.mem_append_left _ (List.mem_append_left _ (List.mem_append_left _ (List.mem_append_left _ (List.mem_append_right _ (List.mem_append_right _ (List.mem_append_right _ (List.mem_append_right _ (List.mem_append_right _ (List.mem_append_right _ (List.mem_append_right _ (List.mem_append_right _ (List.mem_append_right _ (List.mem_append_right _ (List.mem_append_right _ (List.mem_append_right _ (List.mem_append_right _ (List.mem_append_right _ (List.mem_append_right _ (List.mem_append_right _ (List.mem_append_right _ (List.mem_append_right _ (List.mem_append_left _ h))))))))))))))))))))))))))))))
theorem fz_q20 : ∀ w ∈ wsL_law_r20, w ∈ wsL_law := fun _ h => (List.mem_append_left _ (List.mem_append_left _ (List.mem_append_left _ (List.mem_append_left _ (List.mem_append_left _ (List.mem_append_left _ (List.mem_append_left _ (List.mem_append_left _ (List.mem_append_left _ (List.mem_append_left _ (List.mem_append_left _ (List.mem_append_right _ (List.mem_append_right _ (List.mem_append_right _ (List.mem_append_right _ (List.mem_append_right _ (List.mem_append_right _ (List.mem_append_right _ (List.mem_append_right _ (List.mem_append_right _ (List.mem_append_right _ (List.mem_append_right _ (List.mem_append_right _ (List.mem_append_right _ (List.mem_append_right _ (List.mem_append_right _ (List.mem_append_right _ (List.mem_append_right _ (List.mem_append_right _ (List.mem_append_right _ (List.mem_append_left _ h)))))))))))))))))))))))))))))))
theorem fz_q21 : ∀ w ∈ wsL_law_r21, w ∈ wsL_law := fun _ h => (List.mem_append_left _ (List.mem_append_left _ (List.mem_append_left _ (List.mem_append_left _ (List.mem_append_left _ (List.mem_append_left _ (List.mem_append_left _ (List.mem_append_left _ (List.mem_append_left _ (List.mem_append_left _ (List.mem_append_left _ (List.mem_append_right _ (List.mem_append_right _ (List.mem_append_right _ (List.mem_append_right _ (List.mem_append_right _ (List.mem_append_right _ (List.mem_append_right _ (List.mem_append_right _ (List.mem_append_right _ (List.mem_append_right _ (List.mem_append_right _ (List.mem_append_right _ (List.mem_append_right _ (List.mem_append_right _ (List.mem_append_right _ (List.mem_append_right _ (List.mem_append_right _ (List.mem_append_right _ (List.mem_append_right _ (List.mem_append_right _ (List.mem_append_left _ h))))))))))))))))))))))))))))))))
theorem fz_q22 : ∀ w ∈ wsL_law_r22, w ∈ wsL_law := fun _ h => (List.mem_append_left _ (List.mem_append_left _ (List.mem_append_left _ (List.mem_append_left _ (List.mem_append_left _ (List.mem_append_left _ (List.mem_append_left _ (List.mem_append_left _ (List.mem_append_left _ (List.mem_append_left _ (List.mem_append_left _ (List.mem_append_right _ (List.mem_append_right _ (List.mem_append_right _ (List.mem_append_right _ (List.mem_append_right _ (List.mem_append_right _ (List.mem_append_right _ (List.mem_append_right _ (List.mem_append_right _ (List.mem_append_right _ (List.mem_append_right _ (List.mem_append_right _ (List.mem_append_right _ (List.mem_append_right _ (List.mem_append_right _ (List.mem_append_right _ (List.mem_append_right _ (List.mem_append_right _ (List.mem_append_right _ (List.mem_append_right _ (List.mem_append_right _ (List.mem_append_left _ h)))))))))))))))))))))))))))))))))
theorem fz_q23 : ∀ w ∈ wsL_law_r23, w ∈ wsL_law := fun _ h => (List.mem_append_left _ (List.mem_append_left _ (List.mem_append_left _ (List.mem_append_left _ (List.mem_append_left _ (List.mem_append_left _ (List.mem_append_left _ (List.mem_append_left _ (List.mem_append_left _ (List.mem_append_left _ (List.mem_append_left _ (List.mem_append_right _ (List.mem_append_right _ (List.mem_append_right _ (List.mem_append_right _ (List.mem_append_right _ (List.mem_append_right _ (List.mem_append_right _ (List.mem_append_right _ (List.mem_append_right _ (List.mem_append_right _ (List.mem_append_right _ (List.mem_append_right _ (List.mem_append_right _ (List.mem_append_right _ (List.mem_append_right _ (List.mem_append_right _ (List.mem_append_right _ (List.mem_append_right _ (List.mem_append_right _ (List.mem_append_right _ (List.mem_append_right _ (List.mem_append_right _ (List.mem_append_left _ h))))))))))))))))))))))))))))))))))
theorem fz_q24 : ∀ w ∈ wsL_law_r24, w ∈ wsL_law := fun _ h => (List.mem_append_left _ (List.mem_append_left _ (List.mem_append_left _ (List.mem_append_left _ (List.mem_append_left _ (List.mem_append_left _ (List.mem_append_left _ (List.mem_append_left _ (List.mem_append_left _ (List.mem_append_left _ (List.mem_append_left _ (List.mem_append_right _ (List.mem_append_right _ (List.mem_append_right _ (List.mem_append_right _ (List.mem_append_right _ (List.mem_append_right _ (List.mem_append_right _ (List.mem_append_right _ (List.mem_append_right _ (List.mem_append_right _ (List.mem_append_right _ (List.mem_append_right _ (List.mem_append_right _ (List.mem_append_right _ (List.mem_append_right _ (List.mem_append_right _ (List.mem_append_right _ (List.mem_append_right _ (List.mem_append_right _ (List.mem_append_right _ (List.mem_append_right _ (List.mem_append_right _ (List.mem_append_right _ (List.mem_append_left _ h)))))))))))))))))))))))))))))))))))
theorem fz_q25 : ∀ w ∈ wsL_law_r25, w ∈ wsL_law := fun _ h => (List.mem_append_left _ (List.mem_append_left _ (List.mem_append_left _ (List.mem_append_left _ (List.mem_append_left _ (List.mem_append_left _ (List.mem_append_left _ (List.mem_append_left _ (List.mem_append_left _ (List.mem_append_left _ (List.mem_append_left _ (List.mem_append_right _ (List.mem_append_right _ (List.mem_append_right _ (List.mem_append_right _ (List.mem_append_right _ (List.mem_append_right _ (List.mem_append_right _ (List.mem_append_right _ (List.mem_append_right _ (List.mem_append_right _ (List.mem_append_right _ (List.mem_append_right _ (List.mem_append_right _ (List.mem_append_right _ (List.mem_append_right _ (List.mem_append_right _ (List.mem_append_right _ (List.mem_append_right _ (List.mem_append_right _ (List.mem_append_right _ (List.mem_append_right _ (List.mem_append_right _ (List.mem_append_right _ (List.mem_append_right _ (List.mem_append_left _ h))))))))))))))))))))))))))))))))))))
theorem fz_q26 : ∀ w ∈ wsL_law_r26, w ∈ wsL_law := fun _ h => (List.mem_append_left _ (List.mem_append_left _ (List.mem_append_left _ (List.mem_append_left _ (List.mem_append_left _ (List.mem_append_left _ (List.mem_append_left _ (List.mem_append_left _ (List.mem_append_left _ (List.mem_append_left _ (List.mem_append_left _ (List.mem_append_right _ (List.mem_append_right _ (List.mem_append_right _ (List.mem_append_right _ (List.mem_append_right _ (List.mem_append_right _ (List.mem_append_right _ (List.mem_append_right _ (List.mem_append_right _ (List.mem_append_right _ (List.mem_append_right _ (List.mem_append_right _ (List.mem_append_right _ (List.mem_append_right _ (List.mem_append_right _ (List.mem_append_right _ (List.mem_append_right _ (List.mem_append_right _ (List.mem_append_right _ (List.mem_append_right _ (List.mem_append_right _ (List.mem_append_right _ (List.mem_append_right _ (List.mem_append_right _ (List.mem_append_right _ (List.mem_append_left _ h)))))))))))))))))))))))))))))))))))))
theorem fz_q27 : ∀ w ∈ wsL_law_r27, w ∈ wsL_law := fun _ h => (List.mem_append_left _ (List.mem_append_left _ (List.mem_append_left _ (List.mem_append_left _ (List.mem_append_left _ (List.mem_append_left _ (List.mem_append_left _ (List.mem_append_left _ (List.mem_append_left _ (List.mem_append_left _ (List.mem_append_left _ (List.mem_append_right _ (List.mem_append_right _ (List.mem_append_right _ (List.mem_append_right _ (List.mem_append_right _ (List.mem_append_right _ (List.mem_append_right _ (List.mem_append_right _ (List.mem_append_right _ (List.mem_append_right _ (List.mem_append_right _ (List.mem_append_right _ (List.mem_append_right _ (List.mem_append_right _ (List.mem_append_right _ (List.mem_append_right _ (List.mem_append_right _ (List.mem_append_right _ (List.mem_append_right _ (List.mem_append_right _ (List.mem_append_right _ (List.mem_append_right _ (List.mem_append_right _ (List.mem_append_right _ (List.mem_append_right _ (List.mem_append_right _ (List.mem_append_left _ h))))))))))))))))))))))))))))))))))))))
theorem fz_q28 : ∀ w ∈ wsL_law_r28, w ∈ wsL_law := fun _ h => (List.mem_append_left _ (List.mem_append_left _ (List.mem_append_left _ (List.mem_append_left _ (List.mem_append_left _ (List.mem_append_left _ (List.mem_append_left _ (List.mem_append_left _ (List.mem_append_left _ (List.mem_append_left _ (List.mem_append_left _ (List.mem_append_right _ (List.mem_append_right _ (List.mem_append_right _ (List.mem_append_right _ (List.mem_append_right _ (List.mem_append_right _ (List.mem_append_right _ (List.mem_append_right _ (List.mem_append_right _ (List.mem_append_right _ (List.mem_append_right _ (List.mem_append_right _ (List.mem_append_right _ (List.mem_append_right _ (List.mem_append_right _ (List.mem_append_right _ (List.mem_append_right _ (List.mem_append_right _ (List.mem_append_right _ (List.mem_append_right _ (List.mem_append_right _ (List.mem_append_right _ (List.mem_append_right _ (List.mem_append_right _ (List.mem_append_right _ (List.mem_append_right _ (List.mem_append_right _ (List.mem_append_left _ h)))))))))))))))))))))))))))))))))))))))
theorem fz_q29 : ∀ w ∈ wsL_law_r29, w ∈ wsL_law := fun _ h => (List.mem_append_left _ (List.mem_append_left _ (List.mem_append_left _ (List.mem_append_left _ (List.mem_append_left _ (List.mem_append_left _ (List.mem_append_left _ (List.mem_append_left _ (List.mem_append_left _ (List.mem_append_left _ (List.mem_append_left _ (List.mem_append_right _ (List.mem_append_right _ (List.mem_append_right _ (List.mem_append_right _ (List.mem_append_right _ (List.mem_append_right _ (List.mem_append_right _ (List.mem_append_right _ (List.mem_append_right _ (List.mem_append_right _ (List.mem_append_right _ (List.mem_append_right _ (List.mem_append_right _ (List.mem_append_right _ (List.mem_append_right _ (List.mem_append_right _ (List.mem_append_right _ (List.mem_append_right _ (List.mem_append_right _ (List.mem_append_right _ (List.mem_append_right _ (List.mem_append_right _ (List.mem_append_right _ (List.mem_append_right _ (List.mem_append_right _ (List.mem_append_right _ (List.mem_append_right _ (List.mem_append_right _ (List.mem_append_left _ h))))))))))))))))))))))))))))))))))))))))
theorem fz_q30 : ∀ w ∈ wsL_law_r30, w ∈ wsL_law := fun _ h => (List.mem_append_left _ (List.mem_append_left _ (List.mem_append_left _ (List.mem_append_left _ (List.mem_append_left _ (List.mem_append_left _ (List.mem_append_left _ (List.mem_append_left _ (List.mem_append_left _ (List.mem_append_left _ (List.mem_append_left _ (List.mem_append_right _ (List.mem_append_right _ (List.mem_append_right _ (List.mem_append_right _ (List.mem_append_right _ (List.mem_append_right _ (List.mem_append_right _ (List.mem_append_right _ (List.mem_append_right _ (List.mem_append_right _ (List.mem_append_right _ (List.mem_append_right _ (List.mem_append_right _ (List.mem_append_right _ (List.mem_append_right _ (List.mem_append_right _ (List.mem_append_right _ (List.mem_append_right _ (List.mem_append_right _ (List.mem_append_right _ (List.mem_append_right _ (List.mem_append_right _ (List.mem_append_right _ (List.mem_append_right _ (List.mem_append_right _ (List.mem_append_right _ (List.mem_append_right _ (List.mem_append_right _ (List.mem_append_right _ (List.mem_append_left _ h)))))))))))))))))))))))))))))))))))))))))
theorem fz_q31 : ∀ w ∈ wsL_law_r31, w ∈ wsL_law := fun _ h => (List.mem_append_left _ (List.mem_append_left _ (List.mem_append_left _ (List.mem_append_left _ (List.mem_append_left _ (List.mem_append_left _ (List.mem_append_left _ (List.mem_append_left _ (List.mem_append_left _ (List.mem_append_left _ (List.mem_append_left _ (List.mem_append_right _ (List.mem_append_right _ (List.mem_append_right _ (List.mem_append_right _ (List.mem_append_right _ (List.mem_append_right _ (List.mem_append_right _ (List.mem_append_right _ (List.mem_append_right _ (List.mem_append_right _ (List.mem_append_right _ (List.mem_append_right _ (List.mem_append_right _ (List.mem_append_right _ (List.mem_append_right _ (List.mem_append_right _ (List.mem_append_right _ (List.mem_append_right _ (List.mem_append_right _ (List.mem_append_right _ (List.mem_append_right _ (List.mem_append_right _ (List.mem_append_right _ (List.mem_append_right _ (List.mem_append_right _ (List.mem_append_right _ (List.mem_append_right _ (List.mem_append_right _ (List.mem_append_right _ (List.mem_append_right _ (List.mem_append_left _ h))))))))))))))))))))))))))))))))))))))))))
theorem fz_q32 : ∀ w ∈ wsL_law_r32, w ∈ wsL_law := fun _ h => (List.mem_append_left _ (List.mem_append_left _ (List.mem_append_left _ (List.mem_append_left _ (List.mem_append_left _ (List.mem_append_left _ (List.mem_append_left _ (List.mem_append_left _ (List.mem_append_left _ (List.mem_append_left _ (List.mem_append_left _ (List.mem_append_right _ (List.mem_append_right _ (List.mem_append_right _ (List.mem_append_right _ (List.mem_append_right _ (List.mem_append_right _ (List.mem_append_right _ (List.mem_append_right _ (List.mem_append_right _ (List.mem_append_right _ (List.mem_append_right _ (List.mem_append_right _ (List.mem_append_right _ (List.mem_append_right _ (List.mem_append_right _ (List.mem_append_right _ (List.mem_append_right _ (List.mem_append_right _ (List.mem_append_right _ (List.mem_append_right _ (List.mem_append_right _ (List.mem_append_right _ (List.mem_append_right _ (List.mem_append_right _ (List.mem_append_right _ (List.mem_append_right _ (List.mem_append_right _ (List.mem_append_right _ (List.mem_append_right _ (List.mem_append_right _ (List.mem_append_right _ (List.mem_append_left _ h)))))))))))))))))))))))))))))))))))))))))))
theorem fz_q33 : ∀ w ∈ wsL_law_r33, w ∈ wsL_law := fun _ h => (List.mem_append_left _ (List.mem_append_left _ (List.mem_append_left _ (List.mem_append_left _ (List.mem_append_left _ (List.mem_append_left _ (List.mem_append_left _ (List.mem_append_left _ (List.mem_append_left _ (List.mem_append_left _ (List.mem_append_left _ (List.mem_append_right _ (List.mem_append_right _ (List.mem_append_right _ (List.mem_append_right _ (List.mem_append_right _ (List.mem_append_right _ (List.mem_append_right _ (List.mem_append_right _ (List.mem_append_right _ (List.mem_append_right _ (List.mem_append_right _ (List.mem_append_right _ (List.mem_append_right _ (List.mem_append_right _ (List.mem_append_right _ (List.mem_append_right _ (List.mem_append_right _ (List.mem_append_right _ (List.mem_append_right _ (List.mem_append_right _ (List.mem_append_right _ (List.mem_append_right _ (List.mem_append_right _ (List.mem_append_right _ (List.mem_append_right _ (List.mem_append_right _ (List.mem_append_right _ (List.mem_append_right _ (List.mem_append_right _ (List.mem_append_right _ (List.mem_append_right _ (List.mem_append_right _ (List.mem_append_left _ h))))))))))))))))))))))))))))))))))))))))))))
theorem fz_q34 : ∀ w ∈ wsL_law_r34, w ∈ wsL_law := fun _ h => (List.mem_append_left _ (List.mem_append_left _ (List.mem_append_left _ (List.mem_append_left _ (List.mem_append_left _ (List.mem_append_left _ (List.mem_append_left _ (List.mem_append_left _ (List.mem_append_left _ (List.mem_append_left _ (List.mem_append_left _ (List.mem_append_right _ (List.mem_append_right _ (List.mem_append_right _ (List.mem_append_right _ (List.mem_append_right _ (List.mem_append_right _ (List.mem_append_right _ (List.mem_append_right _ (List.mem_append_right _ (List.mem_append_right _ (List.mem_append_right _ (List.mem_append_right _ (List.mem_append_right _ (List.mem_append_right _ (List.mem_append_right _ (List.mem_append_right _ (List.mem_append_right _ (List.mem_append_right _ (List.mem_append_right _ (List.mem_append_right _ (List.mem_append_right _ (List.mem_append_right _ (List.mem_append_right _ (List.mem_append_right _ (List.mem_append_right _ (List.mem_append_right _ (List.mem_append_right _ (List.mem_append_right _ (List.mem_append_right _ (List.mem_append_right _ (List.mem_append_right _ (List.mem_append_right _ (List.mem_append_right _ h))))))))))))))))))))))))))))))))))))))))))))
theorem fl_X0_18 : fz_fl RX0 18 0 2 := ⟨RX0, TX0, 3, rfl, inlX0, by decide, (fz_q14 _ (List.mem_of_getElem? (i := 2) rfl))⟩
theorem fl_X6_9 : fz_fl RX6 9 6 1 := ⟨RX6, TX6, 7, rfl, inlX6, by decide, (fz_q3 _ (List.mem_of_getElem? (i := 19) rfl))⟩
theorem fl_X6_15 : fz_fl RX6 15 6 2 := ⟨RX6, TX6, 7, rfl, inlX6, by decide, (fz_q3 _ (List.mem_of_getElem? (i := 20) rfl))⟩
theorem fl_X6_33 : fz_fl RX6 33 6 0 := ⟨RX6, TX6, 7, rfl, inlX6, by decide, (fz_q13 _ (List.mem_of_getElem? (i := 18) rfl))⟩
theorem fl_X6_18 : fz_fl RX6 18 6 3 := ⟨RX6, TX6, 7, rfl, inlX6, by decide, (fz_q3 _ (List.mem_of_getElem? (i := 21) rfl))⟩
theorem fl_X6_21 : fz_fl RX6 21 6 4 := ⟨RX6, TX6, 7, rfl, inlX6, by decide, (fz_q3 _ (List.mem_of_getElem? (i := 22) rfl))⟩
theorem fl_X6_26 : fz_fl RX6 26 6 5 := ⟨RX6, TX6, 7, rfl, inlX6, by decide, (fz_q4 _ (List.mem_of_getElem? (i := 0) rfl))⟩
theorem fl_X0_11 : fz_fl RX0 11 0 0 := ⟨RX0, TX0, 3, rfl, inlX0, by decide, (fz_q3 _ (List.mem_of_getElem? (i := 15) rfl))⟩
theorem fl_X0_22 : fz_fl RX0 22 0 1 := ⟨RX0, TX0, 3, rfl, inlX0, by decide, (fz_q21 _ (List.mem_of_getElem? (i := 3) rfl))⟩
theorem fl_X1_15 : fz_fl RX1 15 1 1 := ⟨RX1, TX1, 2, rfl, inlX1, by decide, (fz_q7 _ (List.mem_of_getElem? (i := 8) rfl))⟩
theorem fl_X1_9 : fz_fl RX1 9 1 0 := ⟨RX1, TX1, 2, rfl, inlX1, by decide, (fz_q3 _ (List.mem_of_getElem? (i := 5) rfl))⟩
theorem fl_X2_18 : fz_fl RX2 18 2 2 := ⟨RX2, TX2, 3, rfl, inlX2, by decide, (fz_q31 _ (List.mem_of_getElem? (i := 9) rfl))⟩
theorem fl_X2_9 : fz_fl RX2 9 2 0 := ⟨RX2, TX2, 3, rfl, inlX2, by decide, (fz_q4 _ (List.mem_of_getElem? (i := 5) rfl))⟩
theorem fl_X2_15 : fz_fl RX2 15 2 1 := ⟨RX2, TX2, 3, rfl, inlX2, by decide, (fz_q4 _ (List.mem_of_getElem? (i := 6) rfl))⟩
theorem fl_X3_39 : fz_fl RX3 39 3 0 := ⟨RX3, TX3, 12, rfl, inlX3, by decide, (fz_q8 _ (List.mem_of_getElem? (i := 18) rfl))⟩
theorem fl_X3_43 : fz_fl RX3 43 3 1 := ⟨RX3, TX3, 12, rfl, inlX3, by decide, (fz_q8 _ (List.mem_of_getElem? (i := 19) rfl))⟩
theorem fl_X3_46 : fz_fl RX3 46 3 2 := ⟨RX3, TX3, 12, rfl, inlX3, by decide, (fz_q8 _ (List.mem_of_getElem? (i := 20) rfl))⟩
theorem fl_X3_9 : fz_fl RX3 9 3 3 := ⟨RX3, TX3, 12, rfl, inlX3, by decide, (fz_q4 _ (List.mem_of_getElem? (i := 23) rfl))⟩
theorem fl_X3_15 : fz_fl RX3 15 3 4 := ⟨RX3, TX3, 12, rfl, inlX3, by decide, (fz_q5 _ (List.mem_of_getElem? (i := 0) rfl))⟩
theorem fl_X3_18 : fz_fl RX3 18 3 5 := ⟨RX3, TX3, 12, rfl, inlX3, by decide, (fz_q5 _ (List.mem_of_getElem? (i := 1) rfl))⟩
theorem fl_X3_21 : fz_fl RX3 21 3 6 := ⟨RX3, TX3, 12, rfl, inlX3, by decide, (fz_q5 _ (List.mem_of_getElem? (i := 2) rfl))⟩
theorem fl_X3_24 : fz_fl RX3 24 3 7 := ⟨RX3, TX3, 12, rfl, inlX3, by decide, (fz_q5 _ (List.mem_of_getElem? (i := 3) rfl))⟩
theorem fl_X3_27 : fz_fl RX3 27 3 8 := ⟨RX3, TX3, 12, rfl, inlX3, by decide, (fz_q5 _ (List.mem_of_getElem? (i := 4) rfl))⟩
theorem fl_X3_30 : fz_fl RX3 30 3 9 := ⟨RX3, TX3, 12, rfl, inlX3, by decide, (fz_q5 _ (List.mem_of_getElem? (i := 5) rfl))⟩
theorem fl_X3_33 : fz_fl RX3 33 3 10 := ⟨RX3, TX3, 12, rfl, inlX3, by decide, (fz_q5 _ (List.mem_of_getElem? (i := 6) rfl))⟩
theorem fl_X3_36 : fz_fl RX3 36 3 11 := ⟨RX3, TX3, 12, rfl, inlX3, by decide, (fz_q5 _ (List.mem_of_getElem? (i := 7) rfl))⟩
theorem fl_X4_50 : fz_fl RX4 50 3 0 := ⟨RX3, TX3, 12, rfl, inlX3, by decide, (fz_q9 _ (List.mem_of_getElem? (i := 4) rfl))⟩
theorem fl_X4_57 : fz_fl RX4 57 3 2 := ⟨RX3, TX3, 12, rfl, inlX3, by decide, (fz_q9 _ (List.mem_of_getElem? (i := 5) rfl))⟩
theorem fl_X4_20 : fz_fl RX4 20 4 1 := ⟨RX4, TX4, 2, rfl, inlX4, by decide, (fz_q8 _ (List.mem_of_getElem? (i := 11) rfl))⟩
theorem fl_X4_11 : fz_fl RX4 11 4 0 := ⟨RX4, TX4, 2, rfl, inlX4, by decide, (fz_q3 _ (List.mem_of_getElem? (i := 9) rfl))⟩
theorem fl_X4_24 : fz_fl RX4 24 1 1 := ⟨RX1, TX1, 2, rfl, inlX1, by decide, (fz_q8 _ (List.mem_of_getElem? (i := 12) rfl))⟩
theorem fl_X4_29 : fz_fl RX4 29 1 0 := ⟨RX1, TX1, 2, rfl, inlX1, by decide, (fz_q8 _ (List.mem_of_getElem? (i := 13) rfl))⟩
theorem fl_X5_9 : fz_fl RX5 9 5 0 := ⟨RX5, TX5, 2, rfl, inlX5, by decide, (fz_q4 _ (List.mem_of_getElem? (i := 18) rfl))⟩
theorem fl_X5_15 : fz_fl RX5 15 5 1 := ⟨RX5, TX5, 2, rfl, inlX5, by decide, (fz_q4 _ (List.mem_of_getElem? (i := 19) rfl))⟩
theorem fl_X5_20 : fz_fl RX5 20 3 1 := ⟨RX3, TX3, 12, rfl, inlX3, by decide, (fz_q29 _ (List.mem_of_getElem? (i := 13) rfl))⟩
theorem fl_X5_26 : fz_fl RX5 26 3 5 := ⟨RX3, TX3, 12, rfl, inlX3, by decide, (fz_q29 _ (List.mem_of_getElem? (i := 14) rfl))⟩
theorem fl_X5_34 : fz_fl RX5 34 3 6 := ⟨RX3, TX3, 12, rfl, inlX3, by decide, (fz_q29 _ (List.mem_of_getElem? (i := 15) rfl))⟩
theorem fl_X5_37 : fz_fl RX5 37 3 7 := ⟨RX3, TX3, 12, rfl, inlX3, by decide, (fz_q29 _ (List.mem_of_getElem? (i := 16) rfl))⟩
theorem fl_X6_37 : fz_fl RX6 37 3 2 := ⟨RX3, TX3, 12, rfl, inlX3, by decide, (fz_q13 _ (List.mem_of_getElem? (i := 19) rfl))⟩
theorem fl_X6_29 : fz_fl RX6 29 6 6 := ⟨RX6, TX6, 7, rfl, inlX6, by decide, (fz_q4 _ (List.mem_of_getElem? (i := 1) rfl))⟩
theorem fl_X6_42 : fz_fl RX6 42 3 8 := ⟨RX3, TX3, 12, rfl, inlX3, by decide, (fz_q13 _ (List.mem_of_getElem? (i := 20) rfl))⟩
theorem fl_X6_45 : fz_fl RX6 45 3 11 := ⟨RX3, TX3, 12, rfl, inlX3, by decide, (fz_q13 _ (List.mem_of_getElem? (i := 21) rfl))⟩
theorem fl_X7_48 : fz_fl RX7 48 3 5 := ⟨RX3, TX3, 12, rfl, inlX3, by decide, (fz_q22 _ (List.mem_of_getElem? (i := 2) rfl))⟩
theorem fl_X7_18 : fz_fl RX7 18 7 2 := ⟨RX7, TX7, 6, rfl, inlX7, by decide, (fz_q4 _ (List.mem_of_getElem? (i := 12) rfl))⟩
theorem fl_X7_51 : fz_fl RX7 51 3 7 := ⟨RX3, TX3, 12, rfl, inlX3, by decide, (fz_q22 _ (List.mem_of_getElem? (i := 3) rfl))⟩
theorem fl_X7_24 : fz_fl RX7 24 3 2 := ⟨RX3, TX3, 12, rfl, inlX3, by decide, (fz_q21 _ (List.mem_of_getElem? (i := 16) rfl))⟩
theorem fl_X7_34 : fz_fl RX7 34 3 0 := ⟨RX3, TX3, 12, rfl, inlX3, by decide, (fz_q21 _ (List.mem_of_getElem? (i := 19) rfl))⟩
theorem fl_X7_37 : fz_fl RX7 37 3 1 := ⟨RX3, TX3, 12, rfl, inlX3, by decide, (fz_q21 _ (List.mem_of_getElem? (i := 20) rfl))⟩
theorem fl_X7_40 : fz_fl RX7 40 6 6 := ⟨RX6, TX6, 7, rfl, inlX6, by decide, (fz_q21 _ (List.mem_of_getElem? (i := 21) rfl))⟩
theorem fl_X7_9 : fz_fl RX7 9 7 0 := ⟨RX7, TX7, 6, rfl, inlX7, by decide, (fz_q4 _ (List.mem_of_getElem? (i := 10) rfl))⟩
theorem fl_X7_30 : fz_fl RX7 30 6 1 := ⟨RX6, TX6, 7, rfl, inlX6, by decide, (fz_q21 _ (List.mem_of_getElem? (i := 17) rfl))⟩
theorem fl_X7_15 : fz_fl RX7 15 7 1 := ⟨RX7, TX7, 6, rfl, inlX7, by decide, (fz_q4 _ (List.mem_of_getElem? (i := 11) rfl))⟩
theorem fl_X7_33 : fz_fl RX7 33 6 2 := ⟨RX6, TX6, 7, rfl, inlX6, by decide, (fz_q21 _ (List.mem_of_getElem? (i := 18) rfl))⟩
theorem fl_X7_78 : fz_fl RX7 78 3 10 := ⟨RX3, TX3, 12, rfl, inlX3, by decide, (fz_q22 _ (List.mem_of_getElem? (i := 15) rfl))⟩
theorem fl_X7_81 : fz_fl RX7 81 3 9 := ⟨RX3, TX3, 12, rfl, inlX3, by decide, (fz_q22 _ (List.mem_of_getElem? (i := 21) rfl))⟩
theorem fl_X7_21 : fz_fl RX7 21 7 3 := ⟨RX7, TX7, 6, rfl, inlX7, by decide, (fz_q4 _ (List.mem_of_getElem? (i := 13) rfl))⟩
theorem fl_X7_84 : fz_fl RX7 84 3 4 := ⟨RX3, TX3, 12, rfl, inlX3, by decide, (fz_q22 _ (List.mem_of_getElem? (i := 22) rfl))⟩
theorem fl_X7_60 : fz_fl RX7 60 7 5 := ⟨RX7, TX7, 6, rfl, inlX7, by decide, (fz_q22 _ (List.mem_of_getElem? (i := 9) rfl))⟩
theorem fl_X7_57 : fz_fl RX7 57 7 4 := ⟨RX7, TX7, 6, rfl, inlX7, by decide, (fz_q22 _ (List.mem_of_getElem? (i := 8) rfl))⟩
theorem fl_X7_67 : fz_fl RX7 67 3 6 := ⟨RX3, TX3, 12, rfl, inlX3, by decide, (fz_q22 _ (List.mem_of_getElem? (i := 10) rfl))⟩
theorem fl_X8_10 : fz_fl RX8 10 8 0 := ⟨RX8, TX8, 11, rfl, inlX8, by decide, (fz_q1 _ (List.mem_of_getElem? (i := 16) rfl))⟩
theorem fl_X8_76 : fz_fl RX8 76 1 1 := ⟨RX1, TX1, 2, rfl, inlX1, by decide, (fz_q7 _ (List.mem_of_getElem? (i := 3) rfl))⟩
theorem fl_X8_19 : fz_fl RX8 19 8 1 := ⟨RX8, TX8, 11, rfl, inlX8, by decide, (fz_q1 _ (List.mem_of_getElem? (i := 20) rfl))⟩
theorem fl_X8_73 : fz_fl RX8 73 8 10 := ⟨RX8, TX8, 11, rfl, inlX8, by decide, (fz_q3 _ (List.mem_of_getElem? (i := 0) rfl))⟩
theorem fl_X8_69 : fz_fl RX8 69 8 9 := ⟨RX8, TX8, 11, rfl, inlX8, by decide, (fz_q2 _ (List.mem_of_getElem? (i := 23) rfl))⟩
theorem fl_X8_54 : fz_fl RX8 54 8 6 := ⟨RX8, TX8, 11, rfl, inlX8, by decide, (fz_q2 _ (List.mem_of_getElem? (i := 16) rfl))⟩
theorem fl_X8_26 : fz_fl RX8 26 8 2 := ⟨RX8, TX8, 11, rfl, inlX8, by decide, (fz_q2 _ (List.mem_of_getElem? (i := 0) rfl))⟩
theorem fl_X8_95 : fz_fl RX8 95 3 0 := ⟨RX3, TX3, 12, rfl, inlX3, by decide, (fz_q13 _ (List.mem_of_getElem? (i := 13) rfl))⟩
theorem fl_X8_62 : fz_fl RX8 62 8 8 := ⟨RX8, TX8, 11, rfl, inlX8, by decide, (fz_q2 _ (List.mem_of_getElem? (i := 19) rfl))⟩
theorem fl_X8_98 : fz_fl RX8 98 3 1 := ⟨RX3, TX3, 12, rfl, inlX3, by decide, (fz_q14 _ (List.mem_of_getElem? (i := 16) rfl))⟩
theorem fl_X8_101 : fz_fl RX8 101 3 2 := ⟨RX3, TX3, 12, rfl, inlX3, by decide, (fz_q14 _ (List.mem_of_getElem? (i := 17) rfl))⟩
theorem fl_X8_104 : fz_fl RX8 104 6 0 := ⟨RX6, TX6, 7, rfl, inlX6, by decide, (fz_q14 _ (List.mem_of_getElem? (i := 18) rfl))⟩
theorem fl_X8_107 : fz_fl RX8 107 0 2 := ⟨RX0, TX0, 3, rfl, inlX0, by decide, (fz_q14 _ (List.mem_of_getElem? (i := 19) rfl))⟩
theorem fl_X8_33 : fz_fl RX8 33 8 3 := ⟨RX8, TX8, 11, rfl, inlX8, by decide, (fz_q2 _ (List.mem_of_getElem? (i := 4) rfl))⟩
theorem fl_X8_117 : fz_fl RX8 117 2 2 := ⟨RX2, TX2, 3, rfl, inlX2, by decide, (fz_q14 _ (List.mem_of_getElem? (i := 20) rfl))⟩
theorem fl_X8_133 : fz_fl RX8 133 6 1 := ⟨RX6, TX6, 7, rfl, inlX6, by decide, (fz_q15 _ (List.mem_of_getElem? (i := 19) rfl))⟩
theorem fl_X8_158 : fz_fl RX8 158 3 9 := ⟨RX3, TX3, 12, rfl, inlX3, by decide, (fz_q16 _ (List.mem_of_getElem? (i := 8) rfl))⟩
theorem fl_X8_122 : fz_fl RX8 122 3 3 := ⟨RX3, TX3, 12, rfl, inlX3, by decide, (fz_q15 _ (List.mem_of_getElem? (i := 17) rfl))⟩
theorem fl_X8_126 : fz_fl RX8 126 3 4 := ⟨RX3, TX3, 12, rfl, inlX3, by decide, (fz_q15 _ (List.mem_of_getElem? (i := 18) rfl))⟩
theorem fl_X8_143 : fz_fl RX8 143 3 5 := ⟨RX3, TX3, 12, rfl, inlX3, by decide, (fz_q16 _ (List.mem_of_getElem? (i := 21) rfl))⟩
theorem fl_X8_146 : fz_fl RX8 146 3 6 := ⟨RX3, TX3, 12, rfl, inlX3, by decide, (fz_q16 _ (List.mem_of_getElem? (i := 22) rfl))⟩
theorem fl_X8_149 : fz_fl RX8 149 3 7 := ⟨RX3, TX3, 12, rfl, inlX3, by decide, (fz_q16 _ (List.mem_of_getElem? (i := 23) rfl))⟩
theorem fl_X8_152 : fz_fl RX8 152 6 6 := ⟨RX6, TX6, 7, rfl, inlX6, by decide, (fz_q17 _ (List.mem_of_getElem? (i := 0) rfl))⟩
theorem fl_X8_161 : fz_fl RX8 161 3 10 := ⟨RX3, TX3, 12, rfl, inlX3, by decide, (fz_q17 _ (List.mem_of_getElem? (i := 13) rfl))⟩
theorem fl_X8_164 : fz_fl RX8 164 6 2 := ⟨RX6, TX6, 7, rfl, inlX6, by decide, (fz_q17 _ (List.mem_of_getElem? (i := 14) rfl))⟩
theorem fl_X8_167 : fz_fl RX8 167 3 8 := ⟨RX3, TX3, 12, rfl, inlX3, by decide, (fz_q17 _ (List.mem_of_getElem? (i := 15) rfl))⟩
theorem fl_X8_170 : fz_fl RX8 170 6 3 := ⟨RX6, TX6, 7, rfl, inlX6, by decide, (fz_q17 _ (List.mem_of_getElem? (i := 16) rfl))⟩
theorem fl_X8_173 : fz_fl RX8 173 6 4 := ⟨RX6, TX6, 7, rfl, inlX6, by decide, (fz_q18 _ (List.mem_of_getElem? (i := 9) rfl))⟩
theorem fl_X8_176 : fz_fl RX8 176 6 5 := ⟨RX6, TX6, 7, rfl, inlX6, by decide, (fz_q18 _ (List.mem_of_getElem? (i := 10) rfl))⟩
theorem fl_X8_40 : fz_fl RX8 40 8 4 := ⟨RX8, TX8, 11, rfl, inlX8, by decide, (fz_q2 _ (List.mem_of_getElem? (i := 8) rfl))⟩
theorem fl_X8_198 : fz_fl RX8 198 7 0 := ⟨RX7, TX7, 6, rfl, inlX7, by decide, (fz_q20 _ (List.mem_of_getElem? (i := 20) rfl))⟩
theorem fl_X8_199 : fz_fl RX8 199 7 1 := ⟨RX7, TX7, 6, rfl, inlX7, by decide, (fz_q20 _ (List.mem_of_getElem? (i := 21) rfl))⟩
theorem fl_X8_204 : fz_fl RX8 204 7 4 := ⟨RX7, TX7, 6, rfl, inlX7, by decide, (fz_q20 _ (List.mem_of_getElem? (i := 22) rfl))⟩
theorem fl_X8_207 : fz_fl RX8 207 7 5 := ⟨RX7, TX7, 6, rfl, inlX7, by decide, (fz_q24 _ (List.mem_of_getElem? (i := 5) rfl))⟩
theorem fl_X8_47 : fz_fl RX8 47 8 5 := ⟨RX8, TX8, 11, rfl, inlX8, by decide, (fz_q2 _ (List.mem_of_getElem? (i := 12) rfl))⟩
theorem fl_X8_245 : fz_fl RX8 245 5 0 := ⟨RX5, TX5, 2, rfl, inlX5, by decide, (fz_q29 _ (List.mem_of_getElem? (i := 3) rfl))⟩
theorem fl_X8_253 : fz_fl RX8 253 7 2 := ⟨RX7, TX7, 6, rfl, inlX7, by decide, (fz_q30 _ (List.mem_of_getElem? (i := 19) rfl))⟩
theorem fl_X8_58 : fz_fl RX8 58 8 7 := ⟨RX8, TX8, 11, rfl, inlX8, by decide, (fz_q2 _ (List.mem_of_getElem? (i := 17) rfl))⟩
theorem fl_X9_121 : fz_fl RX9 121 9 4 := ⟨RX9, TX9, 49, rfl, inlX9, by decide, (fz_q14 _ (List.mem_of_getElem? (i := 7) rfl))⟩
theorem fl_X9_128 : fz_fl RX9 128 9 6 := ⟨RX9, TX9, 49, rfl, inlX9, by decide, (fz_q14 _ (List.mem_of_getElem? (i := 9) rfl))⟩
theorem fl_X9_117 : fz_fl RX9 117 9 0 := ⟨RX9, TX9, 49, rfl, inlX9, by decide, (fz_q7 _ (List.mem_of_getElem? (i := 13) rfl))⟩
theorem fl_X9_137 : fz_fl RX9 137 9 2 := ⟨RX9, TX9, 49, rfl, inlX9, by decide, (fz_q7 _ (List.mem_of_getElem? (i := 15) rfl))⟩
theorem fl_X9_7 : fz_fl RX9 7 9 1 := ⟨RX9, TX9, 49, rfl, inlX9, by decide, (fz_q5 _ (List.mem_of_getElem? (i := 12) rfl))⟩
theorem fl_X9_140 : fz_fl RX9 140 9 3 := ⟨RX9, TX9, 49, rfl, inlX9, by decide, (fz_q11 _ (List.mem_of_getElem? (i := 17) rfl))⟩
theorem fl_X9_56 : fz_fl RX9 56 9 25 := ⟨RX9, TX9, 49, rfl, inlX9, by decide, (fz_q6 _ (List.mem_of_getElem? (i := 3) rfl))⟩
theorem fl_X9_147 : fz_fl RX9 147 9 22 := ⟨RX9, TX9, 49, rfl, inlX9, by decide, (fz_q11 _ (List.mem_of_getElem? (i := 18) rfl))⟩
theorem fl_X9_59 : fz_fl RX9 59 9 26 := ⟨RX9, TX9, 49, rfl, inlX9, by decide, (fz_q6 _ (List.mem_of_getElem? (i := 4) rfl))⟩
theorem fl_X9_150 : fz_fl RX9 150 9 23 := ⟨RX9, TX9, 49, rfl, inlX9, by decide, (fz_q11 _ (List.mem_of_getElem? (i := 19) rfl))⟩
theorem fl_X9_62 : fz_fl RX9 62 9 27 := ⟨RX9, TX9, 49, rfl, inlX9, by decide, (fz_q6 _ (List.mem_of_getElem? (i := 5) rfl))⟩
theorem fl_X9_68 : fz_fl RX9 68 9 29 := ⟨RX9, TX9, 49, rfl, inlX9, by decide, (fz_q6 _ (List.mem_of_getElem? (i := 7) rfl))⟩
theorem fl_X9_65 : fz_fl RX9 65 9 28 := ⟨RX9, TX9, 49, rfl, inlX9, by decide, (fz_q6 _ (List.mem_of_getElem? (i := 6) rfl))⟩
theorem fl_X9_71 : fz_fl RX9 71 9 30 := ⟨RX9, TX9, 49, rfl, inlX9, by decide, (fz_q6 _ (List.mem_of_getElem? (i := 8) rfl))⟩
theorem fl_X9_165 : fz_fl RX9 165 9 24 := ⟨RX9, TX9, 49, rfl, inlX9, by decide, (fz_q11 _ (List.mem_of_getElem? (i := 20) rfl))⟩
theorem fl_X9_74 : fz_fl RX9 74 9 31 := ⟨RX9, TX9, 49, rfl, inlX9, by decide, (fz_q6 _ (List.mem_of_getElem? (i := 9) rfl))⟩
theorem fl_X9_77 : fz_fl RX9 77 9 32 := ⟨RX9, TX9, 49, rfl, inlX9, by decide, (fz_q6 _ (List.mem_of_getElem? (i := 10) rfl))⟩
theorem fl_X9_80 : fz_fl RX9 80 9 33 := ⟨RX9, TX9, 49, rfl, inlX9, by decide, (fz_q6 _ (List.mem_of_getElem? (i := 11) rfl))⟩
theorem fl_X9_188 : fz_fl RX9 188 9 5 := ⟨RX9, TX9, 49, rfl, inlX9, by decide, (fz_q14 _ (List.mem_of_getElem? (i := 8) rfl))⟩
theorem fl_X9_191 : fz_fl RX9 191 9 21 := ⟨RX9, TX9, 49, rfl, inlX9, by decide, (fz_q14 _ (List.mem_of_getElem? (i := 10) rfl))⟩
theorem fl_X9_194 : fz_fl RX9 194 9 35 := ⟨RX9, TX9, 49, rfl, inlX9, by decide, (fz_q14 _ (List.mem_of_getElem? (i := 11) rfl))⟩
theorem fl_X9_92 : fz_fl RX9 92 9 38 := ⟨RX9, TX9, 49, rfl, inlX9, by decide, (fz_q6 _ (List.mem_of_getElem? (i := 15) rfl))⟩
theorem fl_X9_32 : fz_fl RX9 32 9 13 := ⟨RX9, TX9, 49, rfl, inlX9, by decide, (fz_q5 _ (List.mem_of_getElem? (i := 19) rfl))⟩
theorem fl_X9_35 : fz_fl RX9 35 9 14 := ⟨RX9, TX9, 49, rfl, inlX9, by decide, (fz_q5 _ (List.mem_of_getElem? (i := 20) rfl))⟩
theorem fl_X9_38 : fz_fl RX9 38 9 15 := ⟨RX9, TX9, 49, rfl, inlX9, by decide, (fz_q5 _ (List.mem_of_getElem? (i := 21) rfl))⟩
theorem fl_X9_44 : fz_fl RX9 44 9 17 := ⟨RX9, TX9, 49, rfl, inlX9, by decide, (fz_q5 _ (List.mem_of_getElem? (i := 23) rfl))⟩
theorem fl_X9_41 : fz_fl RX9 41 9 16 := ⟨RX9, TX9, 49, rfl, inlX9, by decide, (fz_q5 _ (List.mem_of_getElem? (i := 22) rfl))⟩
theorem fl_X9_53 : fz_fl RX9 53 9 20 := ⟨RX9, TX9, 49, rfl, inlX9, by decide, (fz_q6 _ (List.mem_of_getElem? (i := 2) rfl))⟩
theorem fl_X9_47 : fz_fl RX9 47 9 18 := ⟨RX9, TX9, 49, rfl, inlX9, by decide, (fz_q6 _ (List.mem_of_getElem? (i := 0) rfl))⟩
theorem fl_X9_50 : fz_fl RX9 50 9 19 := ⟨RX9, TX9, 49, rfl, inlX9, by decide, (fz_q6 _ (List.mem_of_getElem? (i := 1) rfl))⟩
theorem fl_X9_19 : fz_fl RX9 19 9 9 := ⟨RX9, TX9, 49, rfl, inlX9, by decide, (fz_q5 _ (List.mem_of_getElem? (i := 15) rfl))⟩
theorem fl_X9_22 : fz_fl RX9 22 9 10 := ⟨RX9, TX9, 49, rfl, inlX9, by decide, (fz_q5 _ (List.mem_of_getElem? (i := 16) rfl))⟩
theorem fl_X9_25 : fz_fl RX9 25 9 11 := ⟨RX9, TX9, 49, rfl, inlX9, by decide, (fz_q5 _ (List.mem_of_getElem? (i := 17) rfl))⟩
theorem fl_X9_28 : fz_fl RX9 28 9 12 := ⟨RX9, TX9, 49, rfl, inlX9, by decide, (fz_q5 _ (List.mem_of_getElem? (i := 18) rfl))⟩
theorem fl_X9_13 : fz_fl RX9 13 9 7 := ⟨RX9, TX9, 49, rfl, inlX9, by decide, (fz_q5 _ (List.mem_of_getElem? (i := 13) rfl))⟩
theorem fl_X9_16 : fz_fl RX9 16 9 8 := ⟨RX9, TX9, 49, rfl, inlX9, by decide, (fz_q5 _ (List.mem_of_getElem? (i := 14) rfl))⟩
theorem fl_X9_197 : fz_fl RX9 197 9 43 := ⟨RX9, TX9, 49, rfl, inlX9, by decide, (fz_q15 _ (List.mem_of_getElem? (i := 12) rfl))⟩
theorem fl_X9_95 : fz_fl RX9 95 9 39 := ⟨RX9, TX9, 49, rfl, inlX9, by decide, (fz_q6 _ (List.mem_of_getElem? (i := 16) rfl))⟩
theorem fl_X9_98 : fz_fl RX9 98 9 40 := ⟨RX9, TX9, 49, rfl, inlX9, by decide, (fz_q6 _ (List.mem_of_getElem? (i := 17) rfl))⟩
theorem fl_X9_209 : fz_fl RX9 209 9 42 := ⟨RX9, TX9, 49, rfl, inlX9, by decide, (fz_q23 _ (List.mem_of_getElem? (i := 20) rfl))⟩
theorem fl_X9_101 : fz_fl RX9 101 9 41 := ⟨RX9, TX9, 49, rfl, inlX9, by decide, (fz_q6 _ (List.mem_of_getElem? (i := 18) rfl))⟩
theorem fl_X9_83 : fz_fl RX9 83 9 34 := ⟨RX9, TX9, 49, rfl, inlX9, by decide, (fz_q6 _ (List.mem_of_getElem? (i := 12) rfl))⟩
theorem fl_X9_241 : fz_fl RX9 241 9 48 := ⟨RX9, TX9, 49, rfl, inlX9, by decide, (fz_q27 _ (List.mem_of_getElem? (i := 16) rfl))⟩
theorem fl_X9_110 : fz_fl RX9 110 9 46 := ⟨RX9, TX9, 49, rfl, inlX9, by decide, (fz_q6 _ (List.mem_of_getElem? (i := 21) rfl))⟩
theorem fl_X9_114 : fz_fl RX9 114 9 47 := ⟨RX9, TX9, 49, rfl, inlX9, by decide, (fz_q6 _ (List.mem_of_getElem? (i := 22) rfl))⟩
theorem fl_X9_104 : fz_fl RX9 104 9 44 := ⟨RX9, TX9, 49, rfl, inlX9, by decide, (fz_q6 _ (List.mem_of_getElem? (i := 19) rfl))⟩
theorem fl_X9_107 : fz_fl RX9 107 9 45 := ⟨RX9, TX9, 49, rfl, inlX9, by decide, (fz_q6 _ (List.mem_of_getElem? (i := 20) rfl))⟩
theorem fl_X9_86 : fz_fl RX9 86 9 36 := ⟨RX9, TX9, 49, rfl, inlX9, by decide, (fz_q6 _ (List.mem_of_getElem? (i := 13) rfl))⟩
theorem fl_X9_89 : fz_fl RX9 89 9 37 := ⟨RX9, TX9, 49, rfl, inlX9, by decide, (fz_q6 _ (List.mem_of_getElem? (i := 14) rfl))⟩
theorem fw_X0_18 : fz_fw RX0 18 0 2 .int := ⟨RX0, TX0, 3, tyX0, rfl, inlX0, by decide, (fz_q14 _ (List.mem_of_getElem? (i := 2) rfl)), tyX0_ok, nmX0, rfl, by decide +kernel⟩
theorem fw_X6_33 : fz_fw RX6 33 6 0 .int := ⟨RX6, TX6, 7, tyX6, rfl, inlX6, by decide, (fz_q13 _ (List.mem_of_getElem? (i := 18) rfl)), tyX6_ok, nmX6, rfl, by decide +kernel⟩
theorem fw_X0_22 : fz_fw RX0 22 0 1 .int := ⟨RX0, TX0, 3, tyX0, rfl, inlX0, by decide, (fz_q21 _ (List.mem_of_getElem? (i := 3) rfl)), tyX0_ok, nmX0, rfl, by decide +kernel⟩
theorem fw_X1_15 : fz_fw RX1 15 1 1 .int := ⟨RX1, TX1, 2, tyX1, rfl, inlX1, by decide, (fz_q7 _ (List.mem_of_getElem? (i := 8) rfl)), tyX1_ok, nmX1, rfl, by decide +kernel⟩
theorem fw_X2_18 : fz_fw RX2 18 2 2 .int := ⟨RX2, TX2, 3, tyX2, rfl, inlX2, by decide, (fz_q31 _ (List.mem_of_getElem? (i := 9) rfl)), tyX2_ok, nmX2, rfl, by decide +kernel⟩
theorem fw_X3_39 : fz_fw RX3 39 3 0 .int := ⟨RX3, TX3, 12, tyX3, rfl, inlX3, by decide, (fz_q8 _ (List.mem_of_getElem? (i := 18) rfl)), tyX3_ok, nmX3, rfl, by decide +kernel⟩
theorem fw_X3_43 : fz_fw RX3 43 3 1 .int := ⟨RX3, TX3, 12, tyX3, rfl, inlX3, by decide, (fz_q8 _ (List.mem_of_getElem? (i := 19) rfl)), tyX3_ok, nmX3, rfl, by decide +kernel⟩
theorem fw_X3_46 : fz_fw RX3 46 3 2 .int := ⟨RX3, TX3, 12, tyX3, rfl, inlX3, by decide, (fz_q8 _ (List.mem_of_getElem? (i := 20) rfl)), tyX3_ok, nmX3, rfl, by decide +kernel⟩
theorem fw_X4_20 : fz_fw RX4 20 4 1 .int := ⟨RX4, TX4, 2, tyX4, rfl, inlX4, by decide, (fz_q8 _ (List.mem_of_getElem? (i := 11) rfl)), tyX4_ok, nmX4, rfl, by decide +kernel⟩
theorem fw_X5_9 : fz_fw RX5 9 5 0 (.array .long) := ⟨RX5, TX5, 2, tyX5, rfl, inlX5, by decide, (fz_q4 _ (List.mem_of_getElem? (i := 18) rfl)), tyX5_ok, nmX5, rfl, by decide +kernel⟩
theorem fw_X5_15 : fz_fw RX5 15 5 1 (.array .long) := ⟨RX5, TX5, 2, tyX5, rfl, inlX5, by decide, (fz_q4 _ (List.mem_of_getElem? (i := 19) rfl)), tyX5_ok, nmX5, rfl, by decide +kernel⟩
theorem fw_X7_60 : fz_fw RX7 60 7 5 .int := ⟨RX7, TX7, 6, tyX7, rfl, inlX7, by decide, (fz_q22 _ (List.mem_of_getElem? (i := 9) rfl)), tyX7_ok, nmX7, rfl, by decide +kernel⟩
theorem fw_X7_57 : fz_fw RX7 57 7 4 .int := ⟨RX7, TX7, 6, tyX7, rfl, inlX7, by decide, (fz_q22 _ (List.mem_of_getElem? (i := 8) rfl)), tyX7_ok, nmX7, rfl, by decide +kernel⟩
theorem fw_X8_76 : fz_fw RX8 76 1 1 .int := ⟨RX1, TX1, 2, tyX1, rfl, inlX1, by decide, (fz_q7 _ (List.mem_of_getElem? (i := 3) rfl)), tyX1_ok, nmX1, rfl, by decide +kernel⟩
theorem fw_X8_73 : fz_fw RX8 73 8 10 (.object "FurnitureByFlood$Plan") := ⟨RX8, TX8, 11, tyX8, rfl, inlX8, by decide, (fz_q3 _ (List.mem_of_getElem? (i := 0) rfl)), tyX8_ok, nmX8, rfl, by decide +kernel⟩
theorem fw_X8_69 : fz_fw RX8 69 8 9 (.object "FurnitureByFlood$Plan") := ⟨RX8, TX8, 11, tyX8, rfl, inlX8, by decide, (fz_q2 _ (List.mem_of_getElem? (i := 23) rfl)), tyX8_ok, nmX8, rfl, by decide +kernel⟩
theorem fw_X8_117 : fz_fw RX8 117 2 2 .int := ⟨RX2, TX2, 3, tyX2, rfl, inlX2, by decide, (fz_q14 _ (List.mem_of_getElem? (i := 20) rfl)), tyX2_ok, nmX2, rfl, by decide +kernel⟩
theorem fw_X9_117 : fz_fw RX9 117 9 0 .int := ⟨RX9, TX9, 49, tyX9, rfl, inlX9, by decide, (fz_q7 _ (List.mem_of_getElem? (i := 13) rfl)), tyX9_ok, nmX9, rfl, by decide +kernel⟩
theorem fw_X9_137 : fz_fw RX9 137 9 2 .int := ⟨RX9, TX9, 49, tyX9, rfl, inlX9, by decide, (fz_q7 _ (List.mem_of_getElem? (i := 15) rfl)), tyX9_ok, nmX9, rfl, by decide +kernel⟩
theorem fw_X9_140 : fz_fw RX9 140 9 3 .int := ⟨RX9, TX9, 49, tyX9, rfl, inlX9, by decide, (fz_q11 _ (List.mem_of_getElem? (i := 17) rfl)), tyX9_ok, nmX9, rfl, by decide +kernel⟩
theorem fw_X9_147 : fz_fw RX9 147 9 22 .int := ⟨RX9, TX9, 49, tyX9, rfl, inlX9, by decide, (fz_q11 _ (List.mem_of_getElem? (i := 18) rfl)), tyX9_ok, nmX9, rfl, by decide +kernel⟩
theorem fw_X9_150 : fz_fw RX9 150 9 23 .int := ⟨RX9, TX9, 49, tyX9, rfl, inlX9, by decide, (fz_q11 _ (List.mem_of_getElem? (i := 19) rfl)), tyX9_ok, nmX9, rfl, by decide +kernel⟩
theorem fw_X9_165 : fz_fw RX9 165 9 24 .int := ⟨RX9, TX9, 49, tyX9, rfl, inlX9, by decide, (fz_q11 _ (List.mem_of_getElem? (i := 20) rfl)), tyX9_ok, nmX9, rfl, by decide +kernel⟩
theorem fw_X9_121 : fz_fw RX9 121 9 4 .int := ⟨RX9, TX9, 49, tyX9, rfl, inlX9, by decide, (fz_q14 _ (List.mem_of_getElem? (i := 7) rfl)), tyX9_ok, nmX9, rfl, by decide +kernel⟩
theorem fw_X9_188 : fz_fw RX9 188 9 5 .int := ⟨RX9, TX9, 49, tyX9, rfl, inlX9, by decide, (fz_q14 _ (List.mem_of_getElem? (i := 8) rfl)), tyX9_ok, nmX9, rfl, by decide +kernel⟩
theorem fw_X9_128 : fz_fw RX9 128 9 6 .int := ⟨RX9, TX9, 49, tyX9, rfl, inlX9, by decide, (fz_q14 _ (List.mem_of_getElem? (i := 9) rfl)), tyX9_ok, nmX9, rfl, by decide +kernel⟩
theorem fw_X9_191 : fz_fw RX9 191 9 21 .int := ⟨RX9, TX9, 49, tyX9, rfl, inlX9, by decide, (fz_q14 _ (List.mem_of_getElem? (i := 10) rfl)), tyX9_ok, nmX9, rfl, by decide +kernel⟩
theorem fw_X9_194 : fz_fw RX9 194 9 35 .int := ⟨RX9, TX9, 49, tyX9, rfl, inlX9, by decide, (fz_q14 _ (List.mem_of_getElem? (i := 11) rfl)), tyX9_ok, nmX9, rfl, by decide +kernel⟩
theorem fw_X9_209 : fz_fw RX9 209 9 42 .int := ⟨RX9, TX9, 49, tyX9, rfl, inlX9, by decide, (fz_q23 _ (List.mem_of_getElem? (i := 20) rfl)), tyX9_ok, nmX9, rfl, by decide +kernel⟩
theorem fw_X9_241 : fz_fw RX9 241 9 48 .int := ⟨RX9, TX9, 49, tyX9, rfl, inlX9, by decide, (fz_q27 _ (List.mem_of_getElem? (i := 16) rfl)), tyX9_ok, nmX9, rfl, by decide +kernel⟩
theorem fw_X9_197 : fz_fw RX9 197 9 43 .int := ⟨RX9, TX9, 49, tyX9, rfl, inlX9, by decide, (fz_q15 _ (List.mem_of_getElem? (i := 12) rfl)), tyX9_ok, nmX9, rfl, by decide +kernel⟩
theorem cl_X6_48 : fz_lv RX6 48 yX6_takePlacesAndTies cX6_takePlacesAndTies 4 none RX6 2 := ⟨(fz_q21 _ (List.mem_of_getElem? (i := 8) rfl)), (fz_q21 _ (List.mem_of_getElem? (i := 9) rfl)), (fz_q21 _ (List.mem_of_getElem? (i := 10) rfl)), (fz_q2 _ (List.mem_of_getElem? (i := 15) rfl)), (fz_q21 _ (List.mem_of_getElem? (i := 11) rfl)), rfl, by decide, by decide, by decide +kernel⟩
theorem cl_X0_25 : fz_lv RX0 25 yX6_takeAllButShut cX6_takeAllButShut 4 none RX6 1 := ⟨(fz_q21 _ (List.mem_of_getElem? (i := 4) rfl)), (fz_q21 _ (List.mem_of_getElem? (i := 5) rfl)), (fz_q21 _ (List.mem_of_getElem? (i := 6) rfl)), (fz_q2 _ (List.mem_of_getElem? (i := 15) rfl)), (fz_q21 _ (List.mem_of_getElem? (i := 7) rfl)), rfl, by decide, by decide, by decide +kernel⟩
theorem cl_X3_49 : fz_lv RX3 49 yX3_tenthsLeftFrom cX3_tenthsLeftFrom 4 (some .int) RX3 1 := ⟨(fz_q9 _ (List.mem_of_getElem? (i := 14) rfl)), (fz_q9 _ (List.mem_of_getElem? (i := 15) rfl)), (fz_q9 _ (List.mem_of_getElem? (i := 16) rfl)), (fz_q2 _ (List.mem_of_getElem? (i := 22) rfl)), (fz_q9 _ (List.mem_of_getElem? (i := 17) rfl)), rfl, by decide, by decide, by decide +kernel⟩
theorem cl_X3_53 : fz_lv RX3 53 yX3_canJoin cX3_canJoin 4 (some .boolean) RX3 2 := ⟨(fz_q9 _ (List.mem_of_getElem? (i := 18) rfl)), (fz_q9 _ (List.mem_of_getElem? (i := 19) rfl)), (fz_q9 _ (List.mem_of_getElem? (i := 20) rfl)), (fz_q2 _ (List.mem_of_getElem? (i := 22) rfl)), (fz_q9 _ (List.mem_of_getElem? (i := 21) rfl)), rfl, by decide, by decide, by decide +kernel⟩
theorem cl_X3_57 : fz_lv RX3 57 yX3_canLeave cX3_canLeave 3 (some .boolean) RX3 1 := ⟨(fz_q9 _ (List.mem_of_getElem? (i := 10) rfl)), (fz_q9 _ (List.mem_of_getElem? (i := 11) rfl)), (fz_q9 _ (List.mem_of_getElem? (i := 12) rfl)), (fz_q2 _ (List.mem_of_getElem? (i := 22) rfl)), (fz_q9 _ (List.mem_of_getElem? (i := 13) rfl)), rfl, by decide, by decide, by decide +kernel⟩
theorem cl_X4_53 : fz_lv RX4 53 yX3_canHaveStream cX3_canHaveStream 2 (some .boolean) RX3 0 := ⟨(fz_q9 _ (List.mem_of_getElem? (i := 6) rfl)), (fz_q9 _ (List.mem_of_getElem? (i := 7) rfl)), (fz_q9 _ (List.mem_of_getElem? (i := 8) rfl)), (fz_q2 _ (List.mem_of_getElem? (i := 22) rfl)), (fz_q9 _ (List.mem_of_getElem? (i := 9) rfl)), rfl, by decide, by decide, by decide +kernel⟩
theorem cl_X4_66 : fz_lv RX4 66 yX3_canLeave cX3_canLeave 3 (some .boolean) RX3 1 := ⟨(fz_q10 _ (List.mem_of_getElem? (i := 6) rfl)), (fz_q9 _ (List.mem_of_getElem? (i := 11) rfl)), (fz_q9 _ (List.mem_of_getElem? (i := 12) rfl)), (fz_q2 _ (List.mem_of_getElem? (i := 22) rfl)), (fz_q9 _ (List.mem_of_getElem? (i := 13) rfl)), rfl, by decide, by decide, by decide +kernel⟩
theorem cl_X4_70 : fz_lv RX4 70 yX3_canJoin cX3_canJoin 4 (some .boolean) RX3 2 := ⟨(fz_q10 _ (List.mem_of_getElem? (i := 7) rfl)), (fz_q9 _ (List.mem_of_getElem? (i := 19) rfl)), (fz_q9 _ (List.mem_of_getElem? (i := 20) rfl)), (fz_q2 _ (List.mem_of_getElem? (i := 22) rfl)), (fz_q9 _ (List.mem_of_getElem? (i := 21) rfl)), rfl, by decide, by decide, by decide +kernel⟩
theorem cl_X4_74 : fz_lv RX4 74 yX3_tenthsLeftFrom cX3_tenthsLeftFrom 4 (some .int) RX3 1 := ⟨(fz_q10 _ (List.mem_of_getElem? (i := 8) rfl)), (fz_q9 _ (List.mem_of_getElem? (i := 15) rfl)), (fz_q9 _ (List.mem_of_getElem? (i := 16) rfl)), (fz_q2 _ (List.mem_of_getElem? (i := 22) rfl)), (fz_q9 _ (List.mem_of_getElem? (i := 17) rfl)), rfl, by decide, by decide, by decide +kernel⟩
theorem cl_X4_60 : fz_lv RX4 60 yX4_canGoOnWithStream cX4_canGoOnWithStream 3 (some .boolean) RX4 2 := ⟨(fz_q10 _ (List.mem_of_getElem? (i := 2) rfl)), (fz_q10 _ (List.mem_of_getElem? (i := 3) rfl)), (fz_q10 _ (List.mem_of_getElem? (i := 4) rfl)), (fz_q1 _ (List.mem_of_getElem? (i := 19) rfl)), (fz_q10 _ (List.mem_of_getElem? (i := 5) rfl)), rfl, by decide, by decide, by decide +kernel⟩
theorem cl_X4_63 : fz_lv RX4 63 yX4_canGoOnWithPiece cX4_canGoOnWithPiece 3 (some .boolean) RX4 2 := ⟨(fz_q10 _ (List.mem_of_getElem? (i := 9) rfl)), (fz_q10 _ (List.mem_of_getElem? (i := 10) rfl)), (fz_q10 _ (List.mem_of_getElem? (i := 11) rfl)), (fz_q1 _ (List.mem_of_getElem? (i := 19) rfl)), (fz_q10 _ (List.mem_of_getElem? (i := 12) rfl)), rfl, by decide, by decide, by decide +kernel⟩
theorem cl_X4_78 : fz_lv RX4 78 yX3_addHouse cX3_addHouse 3 none RX3 2 := ⟨(fz_q10 _ (List.mem_of_getElem? (i := 21) rfl)), (fz_q10 _ (List.mem_of_getElem? (i := 22) rfl)), (fz_q10 _ (List.mem_of_getElem? (i := 23) rfl)), (fz_q2 _ (List.mem_of_getElem? (i := 22) rfl)), (fz_q11 _ (List.mem_of_getElem? (i := 0) rfl)), rfl, by decide, by decide, by decide +kernel⟩
theorem cl_X4_82 : fz_lv RX4 82 yX3_addStream cX3_addStream 4 none RX3 3 := ⟨(fz_q11 _ (List.mem_of_getElem? (i := 1) rfl)), (fz_q11 _ (List.mem_of_getElem? (i := 2) rfl)), (fz_q11 _ (List.mem_of_getElem? (i := 3) rfl)), (fz_q2 _ (List.mem_of_getElem? (i := 22) rfl)), (fz_q11 _ (List.mem_of_getElem? (i := 4) rfl)), rfl, by decide, by decide, by decide +kernel⟩
theorem cl_X4_86 : fz_lv RX4 86 yX3_addPiece cX3_addPiece 5 none RX3 4 := ⟨(fz_q11 _ (List.mem_of_getElem? (i := 5) rfl)), (fz_q11 _ (List.mem_of_getElem? (i := 6) rfl)), (fz_q11 _ (List.mem_of_getElem? (i := 7) rfl)), (fz_q2 _ (List.mem_of_getElem? (i := 22) rfl)), (fz_q11 _ (List.mem_of_getElem? (i := 8) rfl)), rfl, by decide, by decide, by decide +kernel⟩
theorem cl_X4_39 : fz_lv RX4 39 yX4_canGoOn cX4_canGoOn 3 (some .boolean) RX4 2 := ⟨(fz_q9 _ (List.mem_of_getElem? (i := 22) rfl)), (fz_q9 _ (List.mem_of_getElem? (i := 23) rfl)), (fz_q10 _ (List.mem_of_getElem? (i := 0) rfl)), (fz_q1 _ (List.mem_of_getElem? (i := 19) rfl)), (fz_q10 _ (List.mem_of_getElem? (i := 1) rfl)), rfl, by decide, by decide, by decide +kernel⟩
theorem cl_X4_42 : fz_lv RX4 42 yX4_lengthOfPart cX4_lengthOfPart 1 (some .int) RX4 0 := ⟨(fz_q10 _ (List.mem_of_getElem? (i := 13) rfl)), (fz_q10 _ (List.mem_of_getElem? (i := 14) rfl)), (fz_q10 _ (List.mem_of_getElem? (i := 15) rfl)), (fz_q1 _ (List.mem_of_getElem? (i := 19) rfl)), (fz_q10 _ (List.mem_of_getElem? (i := 16) rfl)), rfl, by decide, by decide, by decide +kernel⟩
theorem cl_X4_46 : fz_lv RX4 46 yX4_addPart cX4_addPart 2 none RX4 1 := ⟨(fz_q10 _ (List.mem_of_getElem? (i := 17) rfl)), (fz_q10 _ (List.mem_of_getElem? (i := 18) rfl)), (fz_q10 _ (List.mem_of_getElem? (i := 19) rfl)), (fz_q1 _ (List.mem_of_getElem? (i := 19) rfl)), (fz_q10 _ (List.mem_of_getElem? (i := 20) rfl)), rfl, by decide, by decide, by decide +kernel⟩
theorem cl_X4_36 : fz_ls RX4 36 yX4_canBegin cX4_canBegin 2 (some .boolean) 2 := ⟨(fz_q9 _ (List.mem_of_getElem? (i := 1) rfl)), (fz_q9 _ (List.mem_of_getElem? (i := 2) rfl)), (fz_q1 _ (List.mem_of_getElem? (i := 19) rfl)), (fz_q9 _ (List.mem_of_getElem? (i := 3) rfl)), rfl, by decide, by decide, by decide +kernel⟩
theorem cl_X4_15 : fz_lv RX4 15 yX3_clear cX3_clear 1 none RX3 0 := ⟨(fz_q8 _ (List.mem_of_getElem? (i := 14) rfl)), (fz_q8 _ (List.mem_of_getElem? (i := 15) rfl)), (fz_q8 _ (List.mem_of_getElem? (i := 16) rfl)), (fz_q2 _ (List.mem_of_getElem? (i := 22) rfl)), (fz_q8 _ (List.mem_of_getElem? (i := 17) rfl)), rfl, by decide, by decide, by decide +kernel⟩
theorem cl_X4_32 : fz_lv RX4 32 yX4_takes cX4_takes 4 (some .boolean) RX4 2 := ⟨(fz_q8 _ (List.mem_of_getElem? (i := 21) rfl)), (fz_q8 _ (List.mem_of_getElem? (i := 22) rfl)), (fz_q8 _ (List.mem_of_getElem? (i := 23) rfl)), (fz_q1 _ (List.mem_of_getElem? (i := 19) rfl)), (fz_q9 _ (List.mem_of_getElem? (i := 0) rfl)), rfl, by decide, by decide, by decide +kernel⟩
theorem cl_X5_44 : fz_lv RX5 44 yX5_turn cX5_turn 2 none RX5 0 := ⟨(fz_q29 _ (List.mem_of_getElem? (i := 22) rfl)), (fz_q29 _ (List.mem_of_getElem? (i := 23) rfl)), (fz_q30 _ (List.mem_of_getElem? (i := 0) rfl)), (fz_q2 _ (List.mem_of_getElem? (i := 11) rfl)), (fz_q30 _ (List.mem_of_getElem? (i := 1) rfl)), rfl, by decide, by decide, by decide +kernel⟩
theorem cl_X5_30 : fz_lv RX5 30 yX3_waterIn cX3_waterIn 3 (some .int) RX3 2 := ⟨(fz_q29 _ (List.mem_of_getElem? (i := 17) rfl)), (fz_q20 _ (List.mem_of_getElem? (i := 0) rfl)), (fz_q20 _ (List.mem_of_getElem? (i := 1) rfl)), (fz_q2 _ (List.mem_of_getElem? (i := 22) rfl)), (fz_q20 _ (List.mem_of_getElem? (i := 2) rfl)), rfl, by decide, by decide, by decide +kernel⟩
theorem cl_X5_40 : fz_lv RX5 40 yX5_move cX5_move 4 none RX5 3 := ⟨(fz_q29 _ (List.mem_of_getElem? (i := 18) rfl)), (fz_q29 _ (List.mem_of_getElem? (i := 19) rfl)), (fz_q29 _ (List.mem_of_getElem? (i := 20) rfl)), (fz_q2 _ (List.mem_of_getElem? (i := 11) rfl)), (fz_q29 _ (List.mem_of_getElem? (i := 21) rfl)), rfl, by decide, by decide, by decide +kernel⟩
theorem cl_X5_47 : fz_lv RX5 47 yX2_hold cX2_hold 4 (some .boolean) RX2 2 := ⟨(fz_q32 _ (List.mem_of_getElem? (i := 17) rfl)), (fz_q32 _ (List.mem_of_getElem? (i := 18) rfl)), (fz_q32 _ (List.mem_of_getElem? (i := 19) rfl)), (fz_q2 _ (List.mem_of_getElem? (i := 3) rfl)), (fz_q32 _ (List.mem_of_getElem? (i := 20) rfl)), rfl, by decide, by decide, by decide +kernel⟩
theorem cl_X6_52 : fz_lv RX6 52 yX6_takeAllButShut cX6_takeAllButShut 4 none RX6 1 := ⟨(fz_q34 _ (List.mem_of_getElem? (i := 1) rfl)), (fz_q21 _ (List.mem_of_getElem? (i := 5) rfl)), (fz_q21 _ (List.mem_of_getElem? (i := 6) rfl)), (fz_q2 _ (List.mem_of_getElem? (i := 15) rfl)), (fz_q21 _ (List.mem_of_getElem? (i := 7) rfl)), rfl, by decide, by decide, by decide +kernel⟩
theorem cl_X6_56 : fz_lv RX6 56 yX6_addOwner cX6_addOwner 4 none RX6 2 := ⟨(fz_q24 _ (List.mem_of_getElem? (i := 18) rfl)), (fz_q24 _ (List.mem_of_getElem? (i := 19) rfl)), (fz_q24 _ (List.mem_of_getElem? (i := 20) rfl)), (fz_q2 _ (List.mem_of_getElem? (i := 15) rfl)), (fz_q24 _ (List.mem_of_getElem? (i := 21) rfl)), rfl, by decide, by decide, by decide +kernel⟩
theorem cl_X6_60 : fz_ls RX6 60 yX6_countUnlike cX6_countUnlike 5 (some .int) 3 := ⟨(fz_q15 _ (List.mem_of_getElem? (i := 1) rfl)), (fz_q15 _ (List.mem_of_getElem? (i := 2) rfl)), (fz_q2 _ (List.mem_of_getElem? (i := 15) rfl)), (fz_q15 _ (List.mem_of_getElem? (i := 3) rfl)), rfl, by decide, by decide, by decide +kernel⟩
theorem cl_X7_44 : fz_lv RX7 44 yX7_weigh cX7_weigh 5 none RX7 2 := ⟨(fz_q21 _ (List.mem_of_getElem? (i := 22) rfl)), (fz_q21 _ (List.mem_of_getElem? (i := 23) rfl)), (fz_q22 _ (List.mem_of_getElem? (i := 0) rfl)), (fz_q2 _ (List.mem_of_getElem? (i := 7) rfl)), (fz_q22 _ (List.mem_of_getElem? (i := 1) rfl)), rfl, by decide, by decide, by decide +kernel⟩
theorem cl_X7_74 : fz_lv RX7 74 yX3_waterIn cX3_waterIn 3 (some .int) RX3 2 := ⟨(fz_q22 _ (List.mem_of_getElem? (i := 16) rfl)), (fz_q20 _ (List.mem_of_getElem? (i := 0) rfl)), (fz_q20 _ (List.mem_of_getElem? (i := 1) rfl)), (fz_q2 _ (List.mem_of_getElem? (i := 22) rfl)), (fz_q20 _ (List.mem_of_getElem? (i := 2) rfl)), rfl, by decide, by decide, by decide +kernel⟩
theorem cl_X7_63 : fz_lv RX7 63 yX7_isLoose cX7_isLoose 5 (some .boolean) RX7 3 := ⟨(fz_q22 _ (List.mem_of_getElem? (i := 11) rfl)), (fz_q22 _ (List.mem_of_getElem? (i := 12) rfl)), (fz_q22 _ (List.mem_of_getElem? (i := 13) rfl)), (fz_q2 _ (List.mem_of_getElem? (i := 7) rfl)), (fz_q22 _ (List.mem_of_getElem? (i := 14) rfl)), rfl, by decide, by decide, by decide +kernel⟩
theorem cl_X7_70 : fz_lv RX7 70 yX7_letGo cX7_letGo 6 none RX7 4 := ⟨(fz_q22 _ (List.mem_of_getElem? (i := 17) rfl)), (fz_q22 _ (List.mem_of_getElem? (i := 18) rfl)), (fz_q22 _ (List.mem_of_getElem? (i := 19) rfl)), (fz_q2 _ (List.mem_of_getElem? (i := 7) rfl)), (fz_q22 _ (List.mem_of_getElem? (i := 20) rfl)), rfl, by decide, by decide, by decide +kernel⟩
theorem cl_X7_54 : fz_lv RX7 54 yX7_passHour cX7_passHour 5 none RX7 2 := ⟨(fz_q26 _ (List.mem_of_getElem? (i := 5) rfl)), (fz_q22 _ (List.mem_of_getElem? (i := 5) rfl)), (fz_q22 _ (List.mem_of_getElem? (i := 6) rfl)), (fz_q2 _ (List.mem_of_getElem? (i := 7) rfl)), (fz_q22 _ (List.mem_of_getElem? (i := 7) rfl)), rfl, by decide, by decide, by decide +kernel⟩
theorem cl_X8_80 : fz_lv RX8 80 yX1_append cX1_append 5 none RX1 2 := ⟨(fz_q7 _ (List.mem_of_getElem? (i := 4) rfl)), (fz_q7 _ (List.mem_of_getElem? (i := 5) rfl)), (fz_q7 _ (List.mem_of_getElem? (i := 6) rfl)), (fz_q1 _ (List.mem_of_getElem? (i := 15) rfl)), (fz_q7 _ (List.mem_of_getElem? (i := 7) rfl)), rfl, by decide, by decide, by decide +kernel⟩
theorem cl_X8_84 : fz_lv RX8 84 yX4_firstFault cX4_firstFault 4 (some .int) RX4 2 := ⟨(fz_q8 _ (List.mem_of_getElem? (i := 7) rfl)), (fz_q8 _ (List.mem_of_getElem? (i := 8) rfl)), (fz_q8 _ (List.mem_of_getElem? (i := 9) rfl)), (fz_q1 _ (List.mem_of_getElem? (i := 19) rfl)), (fz_q8 _ (List.mem_of_getElem? (i := 10) rfl)), rfl, by decide, by decide, by decide +kernel⟩
theorem cl_X8_88 : fz_lv RX8 88 yX6_begin cX6_begin 4 none RX6 1 := ⟨(fz_q13 _ (List.mem_of_getElem? (i := 14) rfl)), (fz_q13 _ (List.mem_of_getElem? (i := 15) rfl)), (fz_q13 _ (List.mem_of_getElem? (i := 16) rfl)), (fz_q2 _ (List.mem_of_getElem? (i := 15) rfl)), (fz_q13 _ (List.mem_of_getElem? (i := 17) rfl)), rfl, by decide, by decide, by decide +kernel⟩
theorem cl_X8_92 : fz_lv RX8 92 yX0_forgetAll cX0_forgetAll 1 none RX0 0 := ⟨(fz_q13 _ (List.mem_of_getElem? (i := 22) rfl)), (fz_q13 _ (List.mem_of_getElem? (i := 23) rfl)), (fz_q14 _ (List.mem_of_getElem? (i := 0) rfl)), (fz_q1 _ (List.mem_of_getElem? (i := 23) rfl)), (fz_q14 _ (List.mem_of_getElem? (i := 1) rfl)), rfl, by decide, by decide, by decide +kernel⟩
theorem cl_X8_110 : fz_lv RX8 110 yX6_countNotAtHome cX6_countNotAtHome 2 (some .int) RX6 1 := ⟨(fz_q14 _ (List.mem_of_getElem? (i := 21) rfl)), (fz_q14 _ (List.mem_of_getElem? (i := 22) rfl)), (fz_q14 _ (List.mem_of_getElem? (i := 23) rfl)), (fz_q2 _ (List.mem_of_getElem? (i := 15) rfl)), (fz_q15 _ (List.mem_of_getElem? (i := 0) rfl)), rfl, by decide, by decide, by decide +kernel⟩
theorem cl_X8_114 : fz_lv RX8 114 yX6_countNotOwnedByHome cX6_countNotOwnedByHome 2 (some .int) RX6 1 := ⟨(fz_q15 _ (List.mem_of_getElem? (i := 4) rfl)), (fz_q15 _ (List.mem_of_getElem? (i := 5) rfl)), (fz_q15 _ (List.mem_of_getElem? (i := 6) rfl)), (fz_q2 _ (List.mem_of_getElem? (i := 15) rfl)), (fz_q15 _ (List.mem_of_getElem? (i := 7) rfl)), rfl, by decide, by decide, by decide +kernel⟩
theorem cl_X8_118 : fz_lv RX8 118 yX8_isHouse cX8_isHouse 2 (some .boolean) RX8 1 := ⟨(fz_q15 _ (List.mem_of_getElem? (i := 20) rfl)), (fz_q15 _ (List.mem_of_getElem? (i := 21) rfl)), (fz_q15 _ (List.mem_of_getElem? (i := 22) rfl)), (fz_q1 _ (List.mem_of_getElem? (i := 2) rfl)), (fz_q15 _ (List.mem_of_getElem? (i := 23) rfl)), rfl, by decide, by decide, by decide +kernel⟩
theorem cl_X8_129 : fz_lv RX8 129 yX8_piecesIn cX8_piecesIn 4 (some .int) RX8 1 := ⟨(fz_q16 _ (List.mem_of_getElem? (i := 0) rfl)), (fz_q16 _ (List.mem_of_getElem? (i := 1) rfl)), (fz_q16 _ (List.mem_of_getElem? (i := 2) rfl)), (fz_q1 _ (List.mem_of_getElem? (i := 2) rfl)), (fz_q16 _ (List.mem_of_getElem? (i := 3) rfl)), rfl, by decide, by decide, by decide +kernel⟩
theorem cl_X8_136 : fz_lv RX8 136 yX8_widthOf cX8_widthOf 5 (some .int) RX8 2 := ⟨(fz_q16 _ (List.mem_of_getElem? (i := 4) rfl)), (fz_q16 _ (List.mem_of_getElem? (i := 5) rfl)), (fz_q16 _ (List.mem_of_getElem? (i := 6) rfl)), (fz_q1 _ (List.mem_of_getElem? (i := 2) rfl)), (fz_q16 _ (List.mem_of_getElem? (i := 7) rfl)), rfl, by decide, by decide, by decide +kernel⟩
theorem cl_X8_140 : fz_lv RX8 140 yX8_isStream cX8_isStream 2 (some .boolean) RX8 1 := ⟨(fz_q17 _ (List.mem_of_getElem? (i := 1) rfl)), (fz_q17 _ (List.mem_of_getElem? (i := 2) rfl)), (fz_q17 _ (List.mem_of_getElem? (i := 3) rfl)), (fz_q1 _ (List.mem_of_getElem? (i := 2) rfl)), (fz_q17 _ (List.mem_of_getElem? (i := 4) rfl)), rfl, by decide, by decide, by decide +kernel⟩
theorem cl_X8_155 : fz_lv RX8 155 yX8_isPiece cX8_isPiece 2 (some .boolean) RX8 1 := ⟨(fz_q17 _ (List.mem_of_getElem? (i := 17) rfl)), (fz_q17 _ (List.mem_of_getElem? (i := 18) rfl)), (fz_q17 _ (List.mem_of_getElem? (i := 19) rfl)), (fz_q1 _ (List.mem_of_getElem? (i := 2) rfl)), (fz_q17 _ (List.mem_of_getElem? (i := 20) rfl)), rfl, by decide, by decide, by decide +kernel⟩
theorem cl_X8_180 : fz_ls RX8 180 yX8_isLevel cX8_isLevel 1 (some .boolean) 1 := ⟨(fz_q19 _ (List.mem_of_getElem? (i := 20) rfl)), (fz_q19 _ (List.mem_of_getElem? (i := 21) rfl)), (fz_q1 _ (List.mem_of_getElem? (i := 2) rfl)), (fz_q19 _ (List.mem_of_getElem? (i := 22) rfl)), rfl, by decide, by decide, by decide +kernel⟩
theorem cl_X8_183 : fz_lv RX8 183 yX3_waterIn cX3_waterIn 3 (some .int) RX3 2 := ⟨(fz_q19 _ (List.mem_of_getElem? (i := 23) rfl)), (fz_q20 _ (List.mem_of_getElem? (i := 0) rfl)), (fz_q20 _ (List.mem_of_getElem? (i := 1) rfl)), (fz_q2 _ (List.mem_of_getElem? (i := 22) rfl)), (fz_q20 _ (List.mem_of_getElem? (i := 2) rfl)), rfl, by decide, by decide, by decide +kernel⟩
theorem cl_X8_187 : fz_lv RX8 187 yX0_remember cX0_remember 2 none RX0 1 := ⟨(fz_q20 _ (List.mem_of_getElem? (i := 23) rfl)), (fz_q21 _ (List.mem_of_getElem? (i := 0) rfl)), (fz_q21 _ (List.mem_of_getElem? (i := 1) rfl)), (fz_q1 _ (List.mem_of_getElem? (i := 23) rfl)), (fz_q21 _ (List.mem_of_getElem? (i := 2) rfl)), rfl, by decide, by decide, by decide +kernel⟩
theorem cl_X8_191 : fz_lv RX8 191 yX7_begin cX7_begin 5 none RX7 3 := ⟨(fz_q21 _ (List.mem_of_getElem? (i := 12) rfl)), (fz_q21 _ (List.mem_of_getElem? (i := 13) rfl)), (fz_q21 _ (List.mem_of_getElem? (i := 14) rfl)), (fz_q2 _ (List.mem_of_getElem? (i := 7) rfl)), (fz_q21 _ (List.mem_of_getElem? (i := 15) rfl)), rfl, by decide, by decide, by decide +kernel⟩
theorem cl_X8_194 : fz_lv RX8 194 yX7_passHour cX7_passHour 5 none RX7 2 := ⟨(fz_q22 _ (List.mem_of_getElem? (i := 4) rfl)), (fz_q22 _ (List.mem_of_getElem? (i := 5) rfl)), (fz_q22 _ (List.mem_of_getElem? (i := 6) rfl)), (fz_q2 _ (List.mem_of_getElem? (i := 7) rfl)), (fz_q22 _ (List.mem_of_getElem? (i := 7) rfl)), rfl, by decide, by decide, by decide +kernel⟩
theorem cl_X8_200 : fz_lv RX8 200 yX6_takePlacesAndTies cX6_takePlacesAndTies 4 none RX6 2 := ⟨(fz_q22 _ (List.mem_of_getElem? (i := 23) rfl)), (fz_q21 _ (List.mem_of_getElem? (i := 9) rfl)), (fz_q21 _ (List.mem_of_getElem? (i := 10) rfl)), (fz_q2 _ (List.mem_of_getElem? (i := 15) rfl)), (fz_q21 _ (List.mem_of_getElem? (i := 11) rfl)), rfl, by decide, by decide, by decide +kernel⟩
theorem cl_X8_210 : fz_lv RX8 210 yX6_passSpring cX6_passSpring 4 (some .int) RX6 1 := ⟨(fz_q24 _ (List.mem_of_getElem? (i := 14) rfl)), (fz_q24 _ (List.mem_of_getElem? (i := 15) rfl)), (fz_q24 _ (List.mem_of_getElem? (i := 16) rfl)), (fz_q2 _ (List.mem_of_getElem? (i := 15) rfl)), (fz_q24 _ (List.mem_of_getElem? (i := 17) rfl)), rfl, by decide, by decide, by decide +kernel⟩
theorem cl_X8_213 : fz_lv RX8 213 yX0_takeBack cX0_takeBack 2 none RX0 1 := ⟨(fz_q25 _ (List.mem_of_getElem? (i := 6) rfl)), (fz_q25 _ (List.mem_of_getElem? (i := 7) rfl)), (fz_q25 _ (List.mem_of_getElem? (i := 8) rfl)), (fz_q1 _ (List.mem_of_getElem? (i := 23) rfl)), (fz_q25 _ (List.mem_of_getElem? (i := 9) rfl)), rfl, by decide, by decide, by decide +kernel⟩
theorem cl_X8_216 : fz_ls RX8 216 yX8_areHours cX8_areHours 1 (some .boolean) 1 := ⟨(fz_q25 _ (List.mem_of_getElem? (i := 22) rfl)), (fz_q25 _ (List.mem_of_getElem? (i := 23) rfl)), (fz_q1 _ (List.mem_of_getElem? (i := 2) rfl)), (fz_q26 _ (List.mem_of_getElem? (i := 0) rfl)), rfl, by decide, by decide, by decide +kernel⟩
theorem cl_X8_219 : fz_lv RX8 219 yX7_passHours cX7_passHours 5 none RX7 3 := ⟨(fz_q26 _ (List.mem_of_getElem? (i := 1) rfl)), (fz_q26 _ (List.mem_of_getElem? (i := 2) rfl)), (fz_q26 _ (List.mem_of_getElem? (i := 3) rfl)), (fz_q2 _ (List.mem_of_getElem? (i := 7) rfl)), (fz_q26 _ (List.mem_of_getElem? (i := 4) rfl)), rfl, by decide, by decide, by decide +kernel⟩
theorem cl_X8_223 : fz_lv RX8 223 yX8_arePieces cX8_arePieces 2 (some .boolean) RX8 1 := ⟨(fz_q26 _ (List.mem_of_getElem? (i := 21) rfl)), (fz_q26 _ (List.mem_of_getElem? (i := 22) rfl)), (fz_q26 _ (List.mem_of_getElem? (i := 23) rfl)), (fz_q1 _ (List.mem_of_getElem? (i := 2) rfl)), (fz_q27 _ (List.mem_of_getElem? (i := 0) rfl)), rfl, by decide, by decide, by decide +kernel⟩
theorem cl_X8_226 : fz_lv RX8 226 yX8_tieAll cX8_tieAll 6 (some .int) RX8 2 := ⟨(fz_q27 _ (List.mem_of_getElem? (i := 1) rfl)), (fz_q27 _ (List.mem_of_getElem? (i := 2) rfl)), (fz_q27 _ (List.mem_of_getElem? (i := 3) rfl)), (fz_q1 _ (List.mem_of_getElem? (i := 2) rfl)), (fz_q27 _ (List.mem_of_getElem? (i := 4) rfl)), rfl, by decide, by decide, by decide +kernel⟩
theorem cl_X8_229 : fz_lv RX8 229 yX8_areWhereTheyWere cX8_areWhereTheyWere 3 (some .boolean) RX8 1 := ⟨(fz_q27 _ (List.mem_of_getElem? (i := 8) rfl)), (fz_q27 _ (List.mem_of_getElem? (i := 9) rfl)), (fz_q27 _ (List.mem_of_getElem? (i := 10) rfl)), (fz_q1 _ (List.mem_of_getElem? (i := 2) rfl)), (fz_q27 _ (List.mem_of_getElem? (i := 11) rfl)), rfl, by decide, by decide, by decide +kernel⟩
theorem cl_X8_236 : fz_lv RX8 236 yX5_begin cX5_begin 3 none RX5 1 := ⟨(fz_q29 _ (List.mem_of_getElem? (i := 4) rfl)), (fz_q29 _ (List.mem_of_getElem? (i := 5) rfl)), (fz_q29 _ (List.mem_of_getElem? (i := 6) rfl)), (fz_q2 _ (List.mem_of_getElem? (i := 11) rfl)), (fz_q29 _ (List.mem_of_getElem? (i := 7) rfl)), rfl, by decide, by decide, by decide +kernel⟩
theorem cl_X8_249 : fz_ls RX8 249 yX8_commonPower cX8_commonPower 10 (some .long) 3 := ⟨(fz_q30 _ (List.mem_of_getElem? (i := 2) rfl)), (fz_q30 _ (List.mem_of_getElem? (i := 3) rfl)), (fz_q1 _ (List.mem_of_getElem? (i := 2) rfl)), (fz_q30 _ (List.mem_of_getElem? (i := 4) rfl)), rfl, by decide, by decide, by decide +kernel⟩
theorem cl_X8_239 : fz_lv RX8 239 yX5_drawHour cX5_drawHour 7 none RX5 4 := ⟨(fz_q29 _ (List.mem_of_getElem? (i := 8) rfl)), (fz_q29 _ (List.mem_of_getElem? (i := 9) rfl)), (fz_q29 _ (List.mem_of_getElem? (i := 10) rfl)), (fz_q2 _ (List.mem_of_getElem? (i := 11) rfl)), (fz_q29 _ (List.mem_of_getElem? (i := 11) rfl)), rfl, by decide, by decide, by decide +kernel⟩
theorem cl_X8_256 : fz_lv RX8 256 yX7_isLoose cX7_isLoose 5 (some .boolean) RX7 3 := ⟨(fz_q30 _ (List.mem_of_getElem? (i := 20) rfl)), (fz_q22 _ (List.mem_of_getElem? (i := 12) rfl)), (fz_q22 _ (List.mem_of_getElem? (i := 13) rfl)), (fz_q2 _ (List.mem_of_getElem? (i := 7) rfl)), (fz_q22 _ (List.mem_of_getElem? (i := 14) rfl)), rfl, by decide, by decide, by decide +kernel⟩
theorem cl_X8_260 : fz_lv RX8 260 yX2_add cX2_add 3 none RX2 2 := ⟨(fz_q31 _ (List.mem_of_getElem? (i := 5) rfl)), (fz_q31 _ (List.mem_of_getElem? (i := 6) rfl)), (fz_q31 _ (List.mem_of_getElem? (i := 7) rfl)), (fz_q2 _ (List.mem_of_getElem? (i := 3) rfl)), (fz_q31 _ (List.mem_of_getElem? (i := 8) rfl)), rfl, by decide, by decide, by decide +kernel⟩
theorem cl_X8_278 : fz_lv RX8 278 yX5_drawSpring cX5_drawSpring 3 none RX5 1 := ⟨(fz_q32 _ (List.mem_of_getElem? (i := 9) rfl)), (fz_q32 _ (List.mem_of_getElem? (i := 10) rfl)), (fz_q32 _ (List.mem_of_getElem? (i := 11) rfl)), (fz_q2 _ (List.mem_of_getElem? (i := 11) rfl)), (fz_q32 _ (List.mem_of_getElem? (i := 12) rfl)), rfl, by decide, by decide, by decide +kernel⟩
theorem cl_X8_281 : fz_lv RX8 281 yX5_holdTo cX5_holdTo 4 none RX5 2 := ⟨(fz_q32 _ (List.mem_of_getElem? (i := 13) rfl)), (fz_q32 _ (List.mem_of_getElem? (i := 14) rfl)), (fz_q32 _ (List.mem_of_getElem? (i := 15) rfl)), (fz_q2 _ (List.mem_of_getElem? (i := 11) rfl)), (fz_q32 _ (List.mem_of_getElem? (i := 16) rfl)), rfl, by decide, by decide, by decide +kernel⟩
theorem cl_X8_264 : fz_ls RX8 264 yX8_areSprings cX8_areSprings 1 (some .boolean) 1 := ⟨(fz_q32 _ (List.mem_of_getElem? (i := 2) rfl)), (fz_q32 _ (List.mem_of_getElem? (i := 3) rfl)), (fz_q1 _ (List.mem_of_getElem? (i := 2) rfl)), (fz_q32 _ (List.mem_of_getElem? (i := 4) rfl)), rfl, by decide, by decide, by decide +kernel⟩
theorem cl_X8_267 : fz_lv RX8 267 yX8_spreadRows cX8_spreadRows 4 none RX8 2 := ⟨(fz_q32 _ (List.mem_of_getElem? (i := 5) rfl)), (fz_q32 _ (List.mem_of_getElem? (i := 6) rfl)), (fz_q32 _ (List.mem_of_getElem? (i := 7) rfl)), (fz_q1 _ (List.mem_of_getElem? (i := 2) rfl)), (fz_q32 _ (List.mem_of_getElem? (i := 8) rfl)), rfl, by decide, by decide, by decide +kernel⟩
theorem cl_X8_270 : fz_lv RX8 270 yX6_takeAll cX6_takeAll 3 none RX6 1 := ⟨(fz_q33 _ (List.mem_of_getElem? (i := 21) rfl)), (fz_q33 _ (List.mem_of_getElem? (i := 22) rfl)), (fz_q33 _ (List.mem_of_getElem? (i := 23) rfl)), (fz_q2 _ (List.mem_of_getElem? (i := 15) rfl)), (fz_q34 _ (List.mem_of_getElem? (i := 0) rfl)), rfl, by decide, by decide, by decide +kernel⟩
theorem cl_X9_124 : fz_ls RX9 124 yX9_in cX9_in 6 (some .boolean) 3 := ⟨(fz_q7 _ (List.mem_of_getElem? (i := 16) rfl)), (fz_q7 _ (List.mem_of_getElem? (i := 17) rfl)), (fz_q1 _ (List.mem_of_getElem? (i := 5) rfl)), (fz_q7 _ (List.mem_of_getElem? (i := 18) rfl)), rfl, by decide, by decide, by decide +kernel⟩
theorem cl_X9_143 : fz_lv RX9 143 yX9_figure cX9_figure 3 (some .int) RX9 2 := ⟨(fz_q12 _ (List.mem_of_getElem? (i := 5) rfl)), (fz_q12 _ (List.mem_of_getElem? (i := 6) rfl)), (fz_q12 _ (List.mem_of_getElem? (i := 7) rfl)), (fz_q1 _ (List.mem_of_getElem? (i := 5) rfl)), (fz_q12 _ (List.mem_of_getElem? (i := 8) rfl)), rfl, by decide, by decide, by decide +kernel⟩
theorem cl_X9_157 : fz_lv RX9 157 yX9_leftOf cX9_leftOf 4 (some .int) RX9 1 := ⟨(fz_q12 _ (List.mem_of_getElem? (i := 21) rfl)), (fz_q12 _ (List.mem_of_getElem? (i := 22) rfl)), (fz_q12 _ (List.mem_of_getElem? (i := 23) rfl)), (fz_q1 _ (List.mem_of_getElem? (i := 5) rfl)), (fz_q13 _ (List.mem_of_getElem? (i := 0) rfl)), rfl, by decide, by decide, by decide +kernel⟩
theorem cl_X9_153 : fz_lv RX9 153 yX9_isTold cX9_isTold 5 (some .boolean) RX9 2 := ⟨(fz_q12 _ (List.mem_of_getElem? (i := 17) rfl)), (fz_q12 _ (List.mem_of_getElem? (i := 18) rfl)), (fz_q12 _ (List.mem_of_getElem? (i := 19) rfl)), (fz_q1 _ (List.mem_of_getElem? (i := 5) rfl)), (fz_q12 _ (List.mem_of_getElem? (i := 20) rfl)), rfl, by decide, by decide, by decide +kernel⟩
theorem cl_X9_161 : fz_lv RX9 161 yX9_hasMore cX9_hasMore 4 (some .boolean) RX9 1 := ⟨(fz_q12 _ (List.mem_of_getElem? (i := 13) rfl)), (fz_q12 _ (List.mem_of_getElem? (i := 14) rfl)), (fz_q12 _ (List.mem_of_getElem? (i := 15) rfl)), (fz_q1 _ (List.mem_of_getElem? (i := 5) rfl)), (fz_q12 _ (List.mem_of_getElem? (i := 16) rfl)), rfl, by decide, by decide, by decide +kernel⟩
theorem cl_X9_178 : fz_lv RX9 178 yX9_readPiece cX9_readPiece 5 (some .boolean) RX9 0 := ⟨(fz_q13 _ (List.mem_of_getElem? (i := 5) rfl)), (fz_q13 _ (List.mem_of_getElem? (i := 6) rfl)), (fz_q13 _ (List.mem_of_getElem? (i := 7) rfl)), (fz_q1 _ (List.mem_of_getElem? (i := 5) rfl)), (fz_q13 _ (List.mem_of_getElem? (i := 8) rfl)), rfl, by decide, by decide, by decide +kernel⟩
theorem cl_X9_172 : fz_lv RX9 172 yX9_hasAnyMore cX9_hasAnyMore 3 (some .boolean) RX9 0 := ⟨(fz_q12 _ (List.mem_of_getElem? (i := 9) rfl)), (fz_q12 _ (List.mem_of_getElem? (i := 10) rfl)), (fz_q12 _ (List.mem_of_getElem? (i := 11) rfl)), (fz_q1 _ (List.mem_of_getElem? (i := 5) rfl)), (fz_q12 _ (List.mem_of_getElem? (i := 12) rfl)), rfl, by decide, by decide, by decide +kernel⟩
theorem cl_X9_175 : fz_lv RX9 175 yX9_readStream cX9_readStream 5 (some .boolean) RX9 0 := ⟨(fz_q13 _ (List.mem_of_getElem? (i := 1) rfl)), (fz_q13 _ (List.mem_of_getElem? (i := 2) rfl)), (fz_q13 _ (List.mem_of_getElem? (i := 3) rfl)), (fz_q1 _ (List.mem_of_getElem? (i := 5) rfl)), (fz_q13 _ (List.mem_of_getElem? (i := 4) rfl)), rfl, by decide, by decide, by decide +kernel⟩
theorem cl_X9_168 : fz_lv RX9 168 yX9_readHouse cX9_readHouse 3 (some .boolean) RX9 0 := ⟨(fz_q12 _ (List.mem_of_getElem? (i := 1) rfl)), (fz_q12 _ (List.mem_of_getElem? (i := 2) rfl)), (fz_q12 _ (List.mem_of_getElem? (i := 3) rfl)), (fz_q1 _ (List.mem_of_getElem? (i := 5) rfl)), (fz_q12 _ (List.mem_of_getElem? (i := 4) rfl)), rfl, by decide, by decide, by decide +kernel⟩
theorem cl_X9_181 : fz_lv RX9 181 yX9_readPart cX9_readPart 2 (some .boolean) RX9 0 := ⟨(fz_q11 _ (List.mem_of_getElem? (i := 21) rfl)), (fz_q11 _ (List.mem_of_getElem? (i := 22) rfl)), (fz_q11 _ (List.mem_of_getElem? (i := 23) rfl)), (fz_q1 _ (List.mem_of_getElem? (i := 5) rfl)), (fz_q12 _ (List.mem_of_getElem? (i := 0) rfl)), rfl, by decide, by decide, by decide +kernel⟩
theorem cl_X9_184 : fz_lv RX9 184 yX9_readTown cX9_readTown 1 (some .int) RX9 0 := ⟨(fz_q11 _ (List.mem_of_getElem? (i := 13) rfl)), (fz_q11 _ (List.mem_of_getElem? (i := 14) rfl)), (fz_q11 _ (List.mem_of_getElem? (i := 15) rfl)), (fz_q1 _ (List.mem_of_getElem? (i := 5) rfl)), (fz_q11 _ (List.mem_of_getElem? (i := 16) rfl)), rfl, by decide, by decide, by decide +kernel⟩
theorem cl_X9_200 : fz_lv RX9 200 yX9_noHouse cX9_noHouse 2 (some .boolean) RX9 1 := ⟨(fz_q16 _ (List.mem_of_getElem? (i := 13) rfl)), (fz_q16 _ (List.mem_of_getElem? (i := 14) rfl)), (fz_q16 _ (List.mem_of_getElem? (i := 15) rfl)), (fz_q1 _ (List.mem_of_getElem? (i := 5) rfl)), (fz_q16 _ (List.mem_of_getElem? (i := 16) rfl)), rfl, by decide, by decide, by decide +kernel⟩
theorem cl_X9_203 : fz_lv RX9 203 yX9_noPiece cX9_noPiece 2 (some .boolean) RX9 1 := ⟨(fz_q18 _ (List.mem_of_getElem? (i := 1) rfl)), (fz_q18 _ (List.mem_of_getElem? (i := 2) rfl)), (fz_q18 _ (List.mem_of_getElem? (i := 3) rfl)), (fz_q1 _ (List.mem_of_getElem? (i := 5) rfl)), (fz_q18 _ (List.mem_of_getElem? (i := 4) rfl)), rfl, by decide, by decide, by decide +kernel⟩
theorem cl_X9_206 : fz_lv RX9 206 yX9_depth cX9_depth 3 (some .int) RX9 2 := ⟨(fz_q20 _ (List.mem_of_getElem? (i := 12) rfl)), (fz_q20 _ (List.mem_of_getElem? (i := 13) rfl)), (fz_q20 _ (List.mem_of_getElem? (i := 14) rfl)), (fz_q1 _ (List.mem_of_getElem? (i := 5) rfl)), (fz_q20 _ (List.mem_of_getElem? (i := 15) rfl)), rfl, by decide, by decide, by decide +kernel⟩
theorem cl_X9_212 : fz_lv RX9 212 yX9_strongest cX9_strongest 5 (some .int) RX9 1 := ⟨(fz_q23 _ (List.mem_of_getElem? (i := 21) rfl)), (fz_q23 _ (List.mem_of_getElem? (i := 22) rfl)), (fz_q23 _ (List.mem_of_getElem? (i := 23) rfl)), (fz_q1 _ (List.mem_of_getElem? (i := 5) rfl)), (fz_q24 _ (List.mem_of_getElem? (i := 0) rfl)), rfl, by decide, by decide, by decide +kernel⟩
theorem cl_X9_215 : fz_lv RX9 215 yX9_goHour cX9_goHour 8 (some .int) RX9 1 := ⟨(fz_q23 _ (List.mem_of_getElem? (i := 16) rfl)), (fz_q23 _ (List.mem_of_getElem? (i := 17) rfl)), (fz_q23 _ (List.mem_of_getElem? (i := 18) rfl)), (fz_q1 _ (List.mem_of_getElem? (i := 5) rfl)), (fz_q23 _ (List.mem_of_getElem? (i := 19) rfl)), rfl, by decide, by decide, by decide +kernel⟩
theorem cl_X9_218 : fz_lv RX9 218 yX9_layPage cX9_layPage 4 none RX9 2 := ⟨(fz_q23 _ (List.mem_of_getElem? (i := 8) rfl)), (fz_q23 _ (List.mem_of_getElem? (i := 9) rfl)), (fz_q23 _ (List.mem_of_getElem? (i := 10) rfl)), (fz_q1 _ (List.mem_of_getElem? (i := 5) rfl)), (fz_q23 _ (List.mem_of_getElem? (i := 11) rfl)), rfl, by decide, by decide, by decide +kernel⟩
theorem cl_X9_222 : fz_lv RX9 222 yX9_note cX9_note 2 none RX9 0 := ⟨(fz_q23 _ (List.mem_of_getElem? (i := 4) rfl)), (fz_q23 _ (List.mem_of_getElem? (i := 5) rfl)), (fz_q23 _ (List.mem_of_getElem? (i := 6) rfl)), (fz_q1 _ (List.mem_of_getElem? (i := 5) rfl)), (fz_q23 _ (List.mem_of_getElem? (i := 7) rfl)), rfl, by decide, by decide, by decide +kernel⟩
theorem cl_X9_225 : fz_lv RX9 225 yX9_begin cX9_begin 2 none RX9 0 := ⟨(fz_q23 _ (List.mem_of_getElem? (i := 12) rfl)), (fz_q23 _ (List.mem_of_getElem? (i := 13) rfl)), (fz_q23 _ (List.mem_of_getElem? (i := 14) rfl)), (fz_q1 _ (List.mem_of_getElem? (i := 5) rfl)), (fz_q23 _ (List.mem_of_getElem? (i := 15) rfl)), rfl, by decide, by decide, by decide +kernel⟩
theorem cl_X9_228 : fz_lv RX9 228 yX9_takePage cX9_takePage 4 none RX9 2 := ⟨(fz_q25 _ (List.mem_of_getElem? (i := 14) rfl)), (fz_q25 _ (List.mem_of_getElem? (i := 15) rfl)), (fz_q25 _ (List.mem_of_getElem? (i := 16) rfl)), (fz_q1 _ (List.mem_of_getElem? (i := 5) rfl)), (fz_q25 _ (List.mem_of_getElem? (i := 17) rfl)), rfl, by decide, by decide, by decide +kernel⟩
theorem cl_X9_231 : fz_ls RX9 231 yX9_noFlood cX9_noFlood 2 (some .boolean) 2 := ⟨(fz_q26 _ (List.mem_of_getElem? (i := 10) rfl)), (fz_q26 _ (List.mem_of_getElem? (i := 11) rfl)), (fz_q1 _ (List.mem_of_getElem? (i := 5) rfl)), (fz_q26 _ (List.mem_of_getElem? (i := 12) rfl)), rfl, by decide, by decide, by decide +kernel⟩
theorem cl_X9_234 : fz_lv RX9 234 yX9_goHours cX9_goHours 4 none RX9 2 := ⟨(fz_q26 _ (List.mem_of_getElem? (i := 13) rfl)), (fz_q26 _ (List.mem_of_getElem? (i := 14) rfl)), (fz_q26 _ (List.mem_of_getElem? (i := 15) rfl)), (fz_q1 _ (List.mem_of_getElem? (i := 5) rfl)), (fz_q26 _ (List.mem_of_getElem? (i := 16) rfl)), rfl, by decide, by decide, by decide +kernel⟩
theorem cl_X9_238 : fz_ls RX9 238 yX9_has cX9_has 2 (some .boolean) 2 := ⟨(fz_q27 _ (List.mem_of_getElem? (i := 21) rfl)), (fz_q27 _ (List.mem_of_getElem? (i := 22) rfl)), (fz_q1 _ (List.mem_of_getElem? (i := 5) rfl)), (fz_q27 _ (List.mem_of_getElem? (i := 23) rfl)), rfl, by decide, by decide, by decide +kernel⟩
theorem cl_X9_244 : fz_lv RX9 244 yX9_findTies cX9_findTies 9 (some .int) RX9 3 := ⟨(fz_q27 _ (List.mem_of_getElem? (i := 17) rfl)), (fz_q27 _ (List.mem_of_getElem? (i := 18) rfl)), (fz_q27 _ (List.mem_of_getElem? (i := 19) rfl)), (fz_q1 _ (List.mem_of_getElem? (i := 5) rfl)), (fz_q27 _ (List.mem_of_getElem? (i := 20) rfl)), rfl, by decide, by decide, by decide +kernel⟩
theorem cl_X9_248 : fz_lv RX9 248 yX9_widthIn cX9_widthIn 6 (some .int) RX9 3 := ⟨(fz_q28 _ (List.mem_of_getElem? (i := 16) rfl)), (fz_q28 _ (List.mem_of_getElem? (i := 17) rfl)), (fz_q28 _ (List.mem_of_getElem? (i := 18) rfl)), (fz_q1 _ (List.mem_of_getElem? (i := 5) rfl)), (fz_q28 _ (List.mem_of_getElem? (i := 19) rfl)), rfl, by decide, by decide, by decide +kernel⟩
theorem cl_X9_257 : fz_ls RX9 257 yX9_divisor cX9_divisor 10 (some .long) 2 := ⟨(fz_q30 _ (List.mem_of_getElem? (i := 12) rfl)), (fz_q30 _ (List.mem_of_getElem? (i := 13) rfl)), (fz_q1 _ (List.mem_of_getElem? (i := 5) rfl)), (fz_q30 _ (List.mem_of_getElem? (i := 14) rfl)), rfl, by decide, by decide, by decide +kernel⟩
theorem cl_X9_261 : fz_lv RX9 261 yX9_isMarked cX9_isMarked 5 (some .boolean) RX9 2 := ⟨(fz_q33 _ (List.mem_of_getElem? (i := 5) rfl)), (fz_q33 _ (List.mem_of_getElem? (i := 6) rfl)), (fz_q33 _ (List.mem_of_getElem? (i := 7) rfl)), (fz_q1 _ (List.mem_of_getElem? (i := 5) rfl)), (fz_q33 _ (List.mem_of_getElem? (i := 8) rfl)), rfl, by decide, by decide, by decide +kernel⟩
theorem cl_X9_264 : fz_lv RX9 264 yX9_layRows cX9_layRows 5 none RX9 2 := ⟨(fz_q33 _ (List.mem_of_getElem? (i := 1) rfl)), (fz_q33 _ (List.mem_of_getElem? (i := 2) rfl)), (fz_q33 _ (List.mem_of_getElem? (i := 3) rfl)), (fz_q1 _ (List.mem_of_getElem? (i := 5) rfl)), (fz_q33 _ (List.mem_of_getElem? (i := 4) rfl)), rfl, by decide, by decide, by decide +kernel⟩
end
